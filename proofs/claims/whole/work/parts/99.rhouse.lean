/-! the reference's items -/
def RFr (h : Nat → Int32) (M : am_M) : Prop := ∀ i, i < 198 → M 11 0 5 i = h i
def KU (M2 M : am_M) : Prop := (∀ k, k ≠ 11 → M2 k = M k) ∧ (∀ o, o ≠ 0 → o ≠ 5 → M2 11 0 o = M 11 0 o) ∧ ∀ i, (i < 12 ∨ 18 ≤ i) → M2 11 0 0 i = M 11 0 0 i
theorem KU.tr {M M1 M2 : am_M} (h1 : KU M1 M) (h2 : KU M2 M1) : KU M2 M := ⟨fun k a => (h2.1 k a).trans (h1.1 k a), fun o ho h5 => (h2.2.1 o ho h5).trans (h1.2.1 o ho h5), fun i hi => (h2.2.2 i hi).trans (h1.2.2 i hi)⟩
theorem KT.ku {M M2 : am_M} (h : KT M2 M) : KU M2 M := ⟨h.1, fun o ho _ => h.2.1 o ho, h.2.2⟩
theorem KU.s5 {M2 M : am_M} {f : Nat → Int32} (h : KU M2 M) : KU (sA M2 11 0 5 f) M := ⟨fun k hk => (sA_k hk).trans (h.1 k hk), fun o h0 h5 => (sA_o h5).trans (h.2.1 o h0 h5), fun i hi => h.2.2 i hi⟩
theorem TR_KU {n : Nat} {t : Nat → Nat} {M M2 : am_M} (h : TR n t M) (hK : KU M2 M) : TR n t M2 := by
  unfold TR
  rw [hK.2.2 11 (by omega), hK.2.1 6 (by decide) (by decide)]
  exact h
theorem up_c {f h : Nat → Int32} {k : Nat} {x y : Int32} (e : ∀ i, i < 198 → f i = h i) (hx : x = y) : ∀ i, i < 198 → upd f k x i = upd h k y i := by
  intro i hi
  subst hx
  by_cases q : i = k
  · rw [q, upd_s, upd_s]
  · rw [upd_n q, upd_n q]
    exact e i hi
theorem nu_f {n : Nat} {t : Nat → Nat} {S : PS} {lo hi : Nat} (h : ¬ sf S = 0) : nu n t lo hi S = S := by
  unfold nu
  rw [if_neg h]
theorem sc_f {n : Nat} {t : Nat → Nat} {S : PS} (h : ¬ sf S = 0) : sc n t S = S := by
  unfold sc
  rw [if_neg h]
theorem so_f {n : Nat} {t : Nat → Nat} {S : PS} (h : ¬ sf S = 0) : so n t S = S := by
  unfold so
  rw [if_neg h]
theorem wI_f {n : Nat} {t : Nat → Nat} {S : PS} (h : ¬ sf S = 0) : wI n t S = S := by
  unfold wI
  rw [nu_f h, nu_f h, nu_f h, sc_f h]
theorem pI_f {n : Nat} {t : Nat → Nat} {S : PS} (h : ¬ sf S = 0) : pI n t S = S := by
  unfold pI
  rw [so_f h, nu_f h, nu_f h, nu_f h, nu_f h, sc_f h]
theorem tI_f {n : Nat} {t : Nat → Nat} {S : PS} (h : ¬ sf S = 0) : tI n t S = S := by
  unfold tI
  rw [nu_f h, nu_f h, nu_f h, sc_f h]
def it2 (n : Nat) (t : Nat → Nat) (w : Nat) (S : PS) (h : Nat → Int32) : PS × (Nat → Int32) := if fuB h w = true then (fl 3 S, h) else (itS n t w S, itH n t w S h)
theorem fl3 {S : PS} (hf : sf S = 0) : ¬ sf (fl 3 S) = 0 := by
  unfold fl
  rw [if_pos hf]
  exact (by decide : ¬ (3 : Nat) = 0)
theorem ix5 {p : Nat} (hp : p ≤ 10) : ((28 : Int32) + 5 * nI (p) = nI (28 + 5 * p)) ∧ (nI (28 + 5 * p) + 1 = nI (29 + 5 * p)) ∧ (nI (28 + 5 * p) + 2 = nI (30 + 5 * p)) ∧ (nI (28 + 5 * p) + 3 = nI (31 + 5 * p)) ∧ (nI (28 + 5 * p) + 4 = nI (32 + 5 * p)) ∧ ((nI (28 + 5 * p)).toNatClampNeg = 28 + 5 * p) ∧ ((nI (29 + 5 * p)).toNatClampNeg = 29 + 5 * p) ∧ ((nI (30 + 5 * p)).toNatClampNeg = 30 + 5 * p) ∧ ((nI (31 + 5 * p)).toNatClampNeg = 31 + 5 * p) ∧ ((nI (32 + 5 * p)).toNatClampNeg = 32 + 5 * p) := ⟨(by rw [show (28 : Int32) = nI 28 from rfl, show (5 : Int32) = nI 5 from rfl, pk_mul, nI_add]), (by rw [nI_1]; congr 1; omega), (by rw [show (2 : Int32) = nI 2 from rfl, nI_add]; congr 1; omega), (by rw [show (3 : Int32) = nI 3 from rfl, nI_add]; congr 1; omega), (by rw [show (4 : Int32) = nI 4 from rfl, nI_add]; congr 1; omega), cl_nI (by omega), cl_nI (by omega), cl_nI (by omega), cl_nI (by omega), cl_nI (by omega)⟩
theorem ix3w {p : Nat} (hp : p ≤ 10) : ((4 : Int32) + 3 * nI (p) = nI (4 + 3 * p)) ∧ (nI (4 + 3 * p) + 1 = nI (5 + 3 * p)) ∧ (nI (4 + 3 * p) + 2 = nI (6 + 3 * p)) ∧ ((nI (4 + 3 * p)).toNatClampNeg = 4 + 3 * p) ∧ ((nI (5 + 3 * p)).toNatClampNeg = 5 + 3 * p) ∧ ((nI (6 + 3 * p)).toNatClampNeg = 6 + 3 * p) := ⟨(by rw [show (4 : Int32) = nI 4 from rfl, show (3 : Int32) = nI 3 from rfl, pk_mul, nI_add]), (by rw [nI_1]; congr 1; omega), (by rw [show (2 : Int32) = nI 2 from rfl, nI_add]; congr 1; omega), cl_nI (by omega), cl_nI (by omega), cl_nI (by omega)⟩
theorem ix3t {p : Nat} (hp : p ≤ 10) : ((78 : Int32) + 3 * nI (p) = nI (78 + 3 * p)) ∧ (nI (78 + 3 * p) + 1 = nI (79 + 3 * p)) ∧ (nI (78 + 3 * p) + 2 = nI (80 + 3 * p)) ∧ ((nI (78 + 3 * p)).toNatClampNeg = 78 + 3 * p) ∧ ((nI (79 + 3 * p)).toNatClampNeg = 79 + 3 * p) ∧ ((nI (80 + 3 * p)).toNatClampNeg = 80 + 3 * p) := ⟨(by rw [show (78 : Int32) = nI 78 from rfl, show (3 : Int32) = nI 3 from rfl, pk_mul, nI_add]), (by rw [nI_1]; congr 1; omega), (by rw [show (2 : Int32) = nI 2 from rfl, nI_add]; congr 1; omega), cl_nI (by omega), cl_nI (by omega), cl_nI (by omega)⟩
theorem c_RreadWall (n : Nat) (t : Nat → Nat) (S : PS) (h : Nat → Int32) (M : am_M) (hT : TR n t M) (hS : WS n t S) (hR : RR S M) (hD : HD h) (hF : RFr h M) (hf : sf S = 0) : ConP 5 mRef_readWall [aR 11 0 0] M (fun r M2 => r = none ∧ KU M2 M ∧ RR (it2 n t 0 S h).1 M2 ∧ RFr (it2 n t 0 S h).2 M2) := by
  have w8 := hD.1.1.2
  have e0 : M 11 0 5 0 = nI (nW h) := by rw [hF 0 (by omega), hD.1.1.1]
  refine con_of okRef_readWall [some (aR 11 0 0), none, none, none, none] none ?_
  intro J hgo
  have key : ∀ S1, S1 = (if nW h = 8 then fl 3 S else nx n t S) → WS n t S1 → (sf (wI n t S1) = 0 → nW h < 8 ∧ it2 n t 0 S h = (wI n t S1, addW h (nuv t S1) (nuv t (nu n t 1700 1999 S1)) (nuv t (nu n t 50 999 (nu n t 1700 1999 S1))))) ∧ (¬ sf (wI n t S1) = 0 → it2 n t 0 S h = (wI n t S1, h)) := by
    intro S1 e1 ws1
    by_cases q : nW h = 8
    · rw [if_pos q] at e1
      have hfu : fuB h 0 = true := by unfold fuB; simp [q]
      have h3 := fl3 hf
      rw [← e1] at h3
      rw [wI_f h3]
      refine ⟨fun z => absurd z h3, fun _ => ?_⟩
      unfold it2
      rw [if_pos hfu, e1]
    · rw [if_neg q] at e1
      have hfu : ¬ fuB h 0 = true := by unfold fuB; simp [q]
      unfold it2 itS itH wH
      rw [if_neg hfu, if_pos rfl, if_pos rfl, ← e1]
      refine ⟨fun z => ⟨by omega, by rw [if_pos z]⟩, fun z => by rw [if_neg z]⟩
  refine hgo [61] _ _ _ _ ?_
  refine clp (c_begins n t S 0 (nW h) 8 M hT hS hR hf (by omega) e0 (by omega) (by omega)) ?_
  rintro r M0 ⟨rfl, k0, rr0⟩
  have ws1 : WS n t (if nW h = 8 then fl 3 S else nx n t S) := by
    split
    · exact (WS_fl (by omega) hS).1
    · exact (WS_nx hS).1
  generalize hS1 : (if nW h = 8 then fl 3 S else nx n t S) = S1 at rr0 ws1
  obtain ⟨key1, key2⟩ := key S1 hS1.symm ws1
  have w1 := WS_nu (lo := 1700) (hi := 1999) ws1
  have w2 := WS_nu (lo := 50) (hi := 999) w1.1
  have w3 := WS_nu (lo := 100) (hi := 400) w2.1
  have w4 := WS_wI ws1
  refine clp (c_Rnumber n t S1 1700 1999 (nI 1700) M0 (TR_KT hT k0) ws1 rr0 (fun _ => rfl) (fun _ => by omega) (by omega)) ?_
  rintro r M1 ⟨⟨x1, rfl, e1⟩, k1', rr1⟩
  have k1 := k0.tr k1'
  refine clp (c_Rnumber n t _ 50 999 (nI 50) M1 (TR_KT hT k1) w1.1 rr1 (fun _ => rfl) (fun _ => by omega) (by omega)) ?_
  rintro r M2 ⟨⟨x2, rfl, e2⟩, k2, rr2⟩
  have k12 := k1.tr k2
  refine clp (c_Rnumber n t _ 100 400 (nI 100) M2 (TR_KT hT k12) w2.1 rr2 (fun _ => rfl) (fun _ => by omega) (by omega)) ?_
  rintro r M3 ⟨⟨x3, rfl, e3⟩, k3, rr3⟩
  have k13 := k12.tr k3
  refine clp (c_mustEnd n t _ M3 (TR_KT hT k13) w3.1 rr3) ?_
  rintro r M4 ⟨rfl, k4, rr4⟩
  have k14 := k13.tr k4
  have rr4 : RR (wI n t S1) M4 := rr4
  have hF4 : RFr h M4 := by unfold RFr; rw [k14.2.1 5 (by decide)]; exact hF
  have e04 : M4 11 0 5 0 = nI (nW h) := by rw [hF4 0 (by omega), hD.1.1.1]
  have hf3 : sf (wI n t S1) ≤ 3 := w4.1.2
  by_cases q : sf (wI n t S1) = 0
  · obtain ⟨a1, a2, a3, s1, s2, s3⟩ := wI_ok q
    obtain ⟨hlt, eit⟩ := key1 q
    obtain ⟨ea, ea1, ea2, c0, c1, c2⟩ := ix3w (p := nW h) (by omega)
    refine brt (show M4 11 0 0 16 = 0 by rw [rr4.2.2.2.2.1, q]; rfl) ?_
    refine ob_ (vp_in_nI (n := 0) (N := 198) (by omega) (by omega)) ?_
    show J 61 [some (aR 11 0 0), some (aI x1), some (aI x2), some (aI x3), some (aI (4 + 3 * M4 11 0 5 0))] [] M4
    rw [e1 s1, e2 s2, e3 s3, e04, ea]
    refine hgo [] _ _ _ _ ?_
    refine ob_ (vp_in_nI (by omega) (by omega)) ?_
    refine ob_ (by rw [ea1]; exact vp_in_nI (by omega) (by omega)) ?_
    refine ob_ (by rw [ea2]; exact vp_in_nI (by omega) (by omega)) ?_
    refine ob_ (vp_in_nI (n := 0) (N := 198) (by omega) (by omega)) ?_
    refine ob_ (vp_in_nI (n := 0) (N := 198) (by omega) (by omega)) ?_
    rw [ea1, ea2, c0, c1, c2]
    refine ⟨rfl, k14.ku.s5.s5.s5.s5, ?_, ?_⟩
    · rw [eit]
      exact rr4
    · rw [eit]
      show ∀ i, i < 198 → _ = addW h (nuv t S1) (nuv t (nu n t 1700 1999 S1)) (nuv t (nu n t 50 999 (nu n t 1700 1999 S1))) i
      rw [sA_s, sA_s, sA_s, sA_s]
      refine up_c (up_c (up_c (up_c hF4 rfl) rfl) rfl) ?_
      rw [show Int32.toNatClampNeg 0 = 0 from rfl, upd_n (by omega), upd_n (by omega), upd_n (by omega), e04, nI_1]
  · refine brf (show ¬ M4 11 0 0 16 = 0 by rw [rr4.2.2.2.2.1]; exact nI_ne0 (by omega) (by omega)) ?_
    refine hgo [] _ _ _ _ ?_
    rw [key2 q]
    exact ⟨rfl, k14.ku, rr4, hF4⟩
theorem c_RreadTenant (n : Nat) (t : Nat → Nat) (S : PS) (h : Nat → Int32) (M : am_M) (hT : TR n t M) (hS : WS n t S) (hR : RR S M) (hD : HD h) (hF : RFr h M) (hf : sf S = 0) : ConP 5 mRef_readTenant [aR 11 0 0] M (fun r M2 => r = none ∧ KU M2 M ∧ RR (it2 n t 2 S h).1 M2 ∧ RFr (it2 n t 2 S h).2 M2) := by
  have w8 := hD.1.2.2.1.2
  have e0 : M 11 0 5 2 = nI (nT h) := by rw [hF 2 (by omega), hD.1.2.2.1.1]
  refine con_of okRef_readTenant [some (aR 11 0 0), none, none, none, none] none ?_
  intro J hgo
  have key : ∀ S1, S1 = (if nT h = 10 then fl 3 S else nx n t S) → WS n t S1 → (sf (tI n t S1) = 0 → nT h < 10 ∧ it2 n t 2 S h = (tI n t S1, addT h (nuv t S1) (nuv t (nu n t 1700 1999 S1)) (nuv t (nu n t (nuv t S1) 1999 (nu n t 1700 1999 S1))))) ∧ (¬ sf (tI n t S1) = 0 → it2 n t 2 S h = (tI n t S1, h)) := by
    intro S1 e1 ws1
    by_cases q : nT h = 10
    · rw [if_pos q] at e1
      have hfu : fuB h 2 = true := by unfold fuB; simp [q]
      have h3 := fl3 hf
      rw [← e1] at h3
      rw [tI_f h3]
      refine ⟨fun z => absurd z h3, fun _ => ?_⟩
      unfold it2
      rw [if_pos hfu, e1]
    · rw [if_neg q] at e1
      have hfu : ¬ fuB h 2 = true := by unfold fuB; simp [q]
      unfold it2 itS itH tH
      rw [if_neg hfu, if_neg (by decide), if_neg (by decide), if_neg (by decide), if_neg (by decide), ← e1]
      refine ⟨fun z => ⟨by omega, by rw [if_pos z]⟩, fun z => by rw [if_neg z]⟩
  refine hgo [59] _ _ _ _ ?_
  refine clp (c_begins n t S 2 (nT h) 10 M hT hS hR hf (by omega) e0 (by omega) (by omega)) ?_
  rintro r M0 ⟨rfl, k0, rr0⟩
  have ws1 : WS n t (if nT h = 10 then fl 3 S else nx n t S) := by
    split
    · exact (WS_fl (by omega) hS).1
    · exact (WS_nx hS).1
  generalize hS1 : (if nT h = 10 then fl 3 S else nx n t S) = S1 at rr0 ws1
  obtain ⟨key1, key2⟩ := key S1 hS1.symm ws1
  have w1 := WS_nu (lo := 1700) (hi := 1999) ws1
  have w2 := WS_nu (lo := nuv t S1) (hi := 1999) w1.1
  have w3 := WS_nu (lo := 0) (hi := 99) w2.1
  have w4 := WS_tI ws1
  refine clp (c_Rnumber n t S1 1700 1999 (nI 1700) M0 (TR_KT hT k0) ws1 rr0 (fun _ => rfl) (fun _ => by omega) (by omega)) ?_
  rintro r M1 ⟨⟨x1, rfl, e1⟩, k1', rr1⟩
  have k1 := k0.tr k1'
  refine clp (c_Rnumber n t _ (nuv t S1) 1999 x1 M1 (TR_KT hT k1) w1.1 rr1 e1 (fun q => by have := nu_ok q; omega) (by omega)) ?_
  rintro r M2 ⟨⟨x2, rfl, e2⟩, k2, rr2⟩
  have k12 := k1.tr k2
  refine clp (c_Rnumber n t _ 0 99 (nI 0) M2 (TR_KT hT k12) w2.1 rr2 (fun _ => rfl) (fun _ => by omega) (by omega)) ?_
  rintro r M3 ⟨⟨x3, rfl, e3⟩, k3, rr3⟩
  have k13 := k12.tr k3
  refine clp (c_mustEnd n t _ M3 (TR_KT hT k13) w3.1 rr3) ?_
  rintro r M4 ⟨rfl, k4, rr4⟩
  have k14 := k13.tr k4
  have rr4 : RR (tI n t S1) M4 := rr4
  have hF4 : RFr h M4 := by unfold RFr; rw [k14.2.1 5 (by decide)]; exact hF
  have e04 : M4 11 0 5 2 = nI (nT h) := by rw [hF4 2 (by omega), hD.1.2.2.1.1]
  have hf3 : sf (tI n t S1) ≤ 3 := w4.1.2
  by_cases q : sf (tI n t S1) = 0
  · obtain ⟨a1, a2, a3, s1, s2, s3⟩ := tI_ok q
    obtain ⟨hlt, eit⟩ := key1 q
    obtain ⟨ea, ea1, ea2, c0, c1, c2⟩ := ix3t (p := nT h) (by omega)
    refine brt (show M4 11 0 0 16 = 0 by rw [rr4.2.2.2.2.1, q]; rfl) ?_
    refine ob_ (vp_in_nI (n := 2) (N := 198) (by omega) (by omega)) ?_
    show J 59 [some (aR 11 0 0), some (aI x1), some (aI x2), some (aI x3), some (aI (78 + 3 * M4 11 0 5 2))] [] M4
    rw [e1 s1, e2 s2, e3 s3, e04, ea]
    refine hgo [] _ _ _ _ ?_
    refine ob_ (vp_in_nI (by omega) (by omega)) ?_
    refine ob_ (by rw [ea1]; exact vp_in_nI (by omega) (by omega)) ?_
    refine ob_ (by rw [ea2]; exact vp_in_nI (by omega) (by omega)) ?_
    refine ob_ (vp_in_nI (n := 2) (N := 198) (by omega) (by omega)) ?_
    refine ob_ (vp_in_nI (n := 2) (N := 198) (by omega) (by omega)) ?_
    rw [ea1, ea2, c0, c1, c2]
    refine ⟨rfl, k14.ku.s5.s5.s5.s5, ?_, ?_⟩
    · rw [eit]
      exact rr4
    · rw [eit]
      show ∀ i, i < 198 → _ = addT h (nuv t S1) (nuv t (nu n t 1700 1999 S1)) (nuv t (nu n t (nuv t S1) 1999 (nu n t 1700 1999 S1))) i
      rw [sA_s, sA_s, sA_s, sA_s]
      refine up_c (up_c (up_c (up_c hF4 rfl) rfl) rfl) ?_
      rw [show Int32.toNatClampNeg 2 = 2 from rfl, upd_n (by omega), upd_n (by omega), upd_n (by omega), e04, nI_1]
  · refine brf (show ¬ M4 11 0 0 16 = 0 by rw [rr4.2.2.2.2.1]; exact nI_ne0 (by omega) (by omega)) ?_
    refine hgo [] _ _ _ _ ?_
    rw [key2 q]
    exact ⟨rfl, k14.ku, rr4, hF4⟩
set_option maxHeartbeats 6000000 in
theorem c_RreadPaper (n : Nat) (t : Nat → Nat) (S : PS) (h : Nat → Int32) (M : am_M) (hT : TR n t M) (hS : WS n t S) (hR : RR S M) (hD : HD h) (hF : RFr h M) (hf : sf S = 0) : ConP 5 mRef_readPaper [aR 11 0 0] M (fun r M2 => r = none ∧ KU M2 M ∧ RR (it2 n t 1 S h).1 M2 ∧ RFr (it2 n t 1 S h).2 M2) := by
  have w8 := hD.1.2.1.2
  have e0 : M 11 0 5 1 = nI (nP h) := by rw [hF 1 (by omega), hD.1.2.1.1]
  refine con_of okRef_readPaper [some (aR 11 0 0), none, none, none, none, none, none] none ?_
  intro J hgo
  have key : ∀ S1, S1 = (if nP h = 10 then fl 3 S else nx n t S) → WS n t S1 → (sf (pI n t S1) = 0 → nP h < 10 ∧ it2 n t 1 S h = (pI n t S1, addP h (kdn t S1) (nuv t (so n t S1)) (nuv t (nu n t 1700 1999 (so n t S1))) (nuv t (nu n t (nuv t (so n t S1)) 1999 (nu n t 1700 1999 (so n t S1)))) (nuv t (nu n t 0 99 (nu n t (nuv t (so n t S1)) 1999 (nu n t 1700 1999 (so n t S1))))))) ∧ (¬ sf (pI n t S1) = 0 → it2 n t 1 S h = (pI n t S1, h)) := by
    intro S1 e1 ws1
    by_cases q : nP h = 10
    · rw [if_pos q] at e1
      have hfu : fuB h 1 = true := by unfold fuB; simp [q]
      have h3 := fl3 hf
      rw [← e1] at h3
      rw [pI_f h3]
      refine ⟨fun z => absurd z h3, fun _ => ?_⟩
      unfold it2
      rw [if_pos hfu, e1]
    · rw [if_neg q] at e1
      have hfu : ¬ fuB h 1 = true := by unfold fuB; simp [q]
      unfold it2 itS itH pH
      rw [if_neg hfu, if_neg (by decide), if_pos rfl, if_neg (by decide), if_pos rfl, ← e1]
      refine ⟨fun z => ⟨by omega, by rw [if_pos z]⟩, fun z => by rw [if_neg z]⟩
  refine hgo [37] _ _ _ _ ?_
  refine clp (c_begins n t S 1 (nP h) 10 M hT hS hR hf (by omega) e0 (by omega) (by omega)) ?_
  rintro r M0 ⟨rfl, k0, rr0⟩
  have ws1 : WS n t (if nP h = 10 then fl 3 S else nx n t S) := by
    split
    · exact (WS_fl (by omega) hS).1
    · exact (WS_nx hS).1
  generalize hS1 : (if nP h = 10 then fl 3 S else nx n t S) = S1 at rr0 ws1
  obtain ⟨key1, key2⟩ := key S1 hS1.symm ws1
  have hT0 := TR_KT hT k0
  have w0 := WS_so ws1
  have w1 := WS_nu (lo := 1700) (hi := 1999) w0.1
  have w2 := WS_nu (lo := nuv t (so n t S1)) (hi := 1999) w1.1
  have w3 := WS_nu (lo := 0) (hi := 99) w2.1
  have w3b := WS_nu (lo := 1) (hi := 99) w3.1
  have w4 := WS_pI ws1
  have hnb := nmV_b ws1 hT.2.2.2
  have s37 : ∀ (x0 : Int32) Ma, KT Ma M → RR (so n t S1) Ma → (kdn t S1 ≠ 0 → sf S1 = 0 → x0 = nI (kdn t S1)) → J 37 [some (aR 11 0 0), some (aI x0), none, none, none, none, none] [] Ma := by
    intro x0 Ma ka rra ex0
    refine hgo [99] _ _ _ _ ?_
    refine clp (c_Rnumber n t _ 1700 1999 (nI 1700) Ma (TR_KT hT ka) w0.1 rra (fun _ => rfl) (fun _ => by omega) (by omega)) ?_
    rintro r M1 ⟨⟨x1, rfl, e1⟩, k1', rr1⟩
    have k1 := ka.tr k1'
    refine clp (c_Rnumber n t _ (nuv t (so n t S1)) 1999 x1 M1 (TR_KT hT k1) w1.1 rr1 e1 (fun q => by have := nu_ok q; omega) (by omega)) ?_
    rintro r M2 ⟨⟨x2, rfl, e2⟩, k2, rr2⟩
    have k12 := k1.tr k2
    refine clp (c_Rnumber n t _ 0 99 (nI 0) M2 (TR_KT hT k12) w2.1 rr2 (fun _ => rfl) (fun _ => by omega) (by omega)) ?_
    rintro r M3 ⟨⟨x3, rfl, e3⟩, k3, rr3⟩
    have k13 := k12.tr k3
    refine clp (c_Rnumber n t _ 1 99 (nI 1) M3 (TR_KT hT k13) w3.1 rr3 (fun _ => rfl) (fun _ => by omega) (by omega)) ?_
    rintro r M3b ⟨⟨x4, rfl, e4⟩, k3b, rr3b⟩
    have k13b := k13.tr k3b
    refine clp (c_mustEnd n t _ M3b (TR_KT hT k13b) w3b.1 rr3b) ?_
    rintro r M4 ⟨rfl, k4, rr4⟩
    have k14 := k13b.tr k4
    have rr4 : RR (pI n t S1) M4 := rr4
    have hF4 : RFr h M4 := by unfold RFr; rw [k14.2.1 5 (by decide)]; exact hF
    have e04 : M4 11 0 5 1 = nI (nP h) := by rw [hF4 1 (by omega), hD.1.2.1.1]
    have hf3 : sf (pI n t S1) ≤ 3 := w4.1.2
    by_cases q : sf (pI n t S1) = 0
    · obtain ⟨a0, a1, a2, a3, a4, s1, s2, s3, s4⟩ := pI_ok q
      obtain ⟨hlt, eit⟩ := key1 q
      have ex := ex0 (by omega) (so_ok (nu_ok s1).1).1
      obtain ⟨ea, ea1, ea2, ea3, ea4, c0, c1, c2, c3, c4⟩ := ix5 (p := nP h) w8
      refine brt (show M4 11 0 0 16 = 0 by rw [rr4.2.2.2.2.1, q]; rfl) ?_
      refine ob_ (vp_in_nI (n := 1) (N := 198) (by omega) (by omega)) ?_
      show J 99 [some (aR 11 0 0), some (aI x0), some (aI x1), some (aI x2), some (aI x3), some (aI x4), some (aI (28 + 5 * M4 11 0 5 1))] [] M4
      rw [ex, e1 s1, e2 s2, e3 s3, e4 s4, e04, ea]
      refine hgo [] _ _ _ _ ?_
      refine ob_ (vp_in_nI (by omega) (by omega)) ?_
      refine ob_ (by rw [ea1]; exact vp_in_nI (by omega) (by omega)) ?_
      refine ob_ (by rw [ea2]; exact vp_in_nI (by omega) (by omega)) ?_
      refine ob_ (by rw [ea3]; exact vp_in_nI (by omega) (by omega)) ?_
      refine ob_ (by rw [ea4]; exact vp_in_nI (by omega) (by omega)) ?_
      refine ob_ (vp_in_nI (n := 1) (N := 198) (by omega) (by omega)) ?_
      refine ob_ (vp_in_nI (n := 1) (N := 198) (by omega) (by omega)) ?_
      rw [ea1, ea2, ea3, ea4, c0, c1, c2, c3, c4]
      refine ⟨rfl, k14.ku.s5.s5.s5.s5.s5.s5, ?_, ?_⟩
      · rw [eit]
        exact rr4
      · rw [eit]
        show ∀ i, i < 198 → _ = addP h (kdn t S1) (nuv t (so n t S1)) (nuv t (nu n t 1700 1999 (so n t S1))) (nuv t (nu n t (nuv t (so n t S1)) 1999 (nu n t 1700 1999 (so n t S1)))) (nuv t (nu n t 0 99 (nu n t (nuv t (so n t S1)) 1999 (nu n t 1700 1999 (so n t S1))))) i
        rw [sA_s, sA_s, sA_s, sA_s, sA_s, sA_s]
        refine up_c (up_c (up_c (up_c (up_c (up_c hF4 rfl) rfl) rfl) rfl) rfl) ?_
        rw [show Int32.toNatClampNeg 1 = 1 from rfl, upd_n (by omega), upd_n (by omega), upd_n (by omega), upd_n (by omega), upd_n (by omega), e04, nI_1]
    · refine brf (show ¬ M4 11 0 0 16 = 0 by rw [rr4.2.2.2.2.1]; exact nI_ne0 (by omega) (by omega)) ?_
      refine hgo [] _ _ _ _ ?_
      rw [key2 q]
      exact ⟨rfl, k14.ku, rr4, hF4⟩
  refine cl_ (c_name n t S1 M0 hT0 ws1 rr0) ?_
  have hf1 := ws1.2
  by_cases q : sf S1 = 0
  · rw [if_pos q]
    refine cl_ (c_sortOf (nmV t S1) M0 (by omega)) ?_
    refine brt (show M0 11 0 0 16 = 0 by rw [rr0.2.2.2.2.1, q]; rfl) ?_
    have s34 : J 34 [some (aR 11 0 0), some (aI (sv (nmV t S1))), none, none, none, none, none] [aI (b2i (kdn t S1 ≠ 0)), aR 11 0 0] M0 := by
      refine hgo [37] _ _ _ _ ?_
      refine clp (c_must n t (kdn t S1 ≠ 0) S1 M0 hT0 ws1 rr0) ?_
      rintro r Ma ⟨rfl, ka, rra⟩
      have e2 : mus n t (kdn t S1 ≠ 0) S1 = so n t S1 := by
        unfold mus so
        rw [if_pos q, if_pos q]
        by_cases z : kdn t S1 = 0
        · rw [if_neg (fun y => y z), if_pos z]
        · rw [if_pos z, if_neg z]
      rw [e2] at rra
      refine s37 _ Ma (k0.tr ka) rra (fun hk _ => ?_)
      rcases sv_kd ws1 with ⟨g1, g2⟩ | ⟨g1, g2⟩
      · exact absurd g1 hk
      · exact g2
    rcases sv_kd ws1 with ⟨g1, g2⟩ | ⟨g1, g2⟩
    · rw [b2i_f (fun y => y g1)] at s34
      refine brt g2 ?_
      refine hgo [34] _ _ _ _ ?_
      exact s34
    · rw [b2i_t g1] at s34
      have hk5 := kdn_le (t := t) (S := S1)
      refine brf (by
        rw [g2]
        intro z
        have h1 := congrArg Int32.toInt z
        have e : Int32.toInt (-1000000) = -1000000 := by decide
        rw [i3_n (by omega), e] at h1
        omega) ?_
      exact s34
  · rw [if_neg q]
    refine cl_ (c_sortOf 0 M0 (by omega)) ?_
    refine brf (show ¬ M0 11 0 0 16 = 0 by rw [rr0.2.2.2.2.1]; exact nI_ne0 (by omega) (by omega)) ?_
    exact s37 _ M0 k0 (by rw [so_f q]; exact rr0) (fun _ z => absurd z q)
