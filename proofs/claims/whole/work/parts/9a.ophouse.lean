/-! house -/
theorem fl1 {S : PS} (hf : sf S = 0) : ¬ sf (fl 1 S) = 0 := by
  unfold fl
  rw [if_pos hf]
  exact (by decide : ¬ (1 : Nat) = 0)
theorem main_go {n : Nat} {t : Nat → Nat} {k g : Nat} {S : PS} {h : Nat → Int32} (hf : sf S = 0) (h1 : ¬ (ss S = 0 ∧ 0 < nW h)) (h2 : ¬ (wd t S = 3 ∨ wd t S < g ∨ (0 < wd t S ∧ nW h = 0))) : mainP n t (k + 1) g S h = if sf (it2 n t (wd t S) S h).1 = 0 then mainP n t k (wd t S) (it2 n t (wd t S) S h).1 (it2 n t (wd t S) S h).2 else it2 n t (wd t S) S h := by
  rw [mainP, if_neg h1, if_neg h2]
  unfold it2
  by_cases q : fuB h (wd t S) = true
  · rw [if_pos q, if_pos q]
    show _ = if sf (fl 3 S) = 0 then _ else _
    rw [if_neg (fl3 hf)]
  · rw [if_neg q, if_neg q]
theorem HD_it {n : Nat} {t : Nat → Nat} {S : PS} {h : Nat → Int32} {w : Nat} (hD : HD h) (hw : w < 3) : HD (it2 n t w S h).2 ∧ nW h ≤ nW (it2 n t w S h).2 ∧ (w = 0 → sf S = 0 → sf (it2 n t w S h).1 = 0 → 0 < nW (it2 n t w S h).2) := by
  have w8 := hD.1.1.2
  have p10 := hD.1.2.1.2
  have t10 := hD.1.2.2.1.2
  unfold it2
  by_cases q : fuB h w = true
  · rw [if_pos q]
    exact ⟨hD, Nat.le_refl _, fun _ hf z => absurd z (fl3 hf)⟩
  · rw [if_neg q]
    unfold fuB at q
    unfold itS itH
    match w, hw with
    | 0, _ =>
      rw [if_pos rfl, if_pos rfl]
      unfold wH
      by_cases z : sf (wI n t (nx n t S)) = 0
      · rw [if_pos z]
        obtain ⟨a1, a2, a3, -⟩ := wI_ok z
        have := HD_W hD (by simp at q; omega) a1 a2 a3
        exact ⟨this.1, by rw [this.2.1]; omega, fun _ _ _ => by rw [this.2.1]; omega⟩
      · rw [if_neg z]
        exact ⟨hD, Nat.le_refl _, fun _ _ y => absurd y z⟩
    | 1, _ =>
      rw [if_neg (by decide), if_pos rfl, if_neg (by decide), if_pos rfl]
      unfold pH
      by_cases z : sf (pI n t (nx n t S)) = 0
      · rw [if_pos z]
        obtain ⟨a0, a1, a2, a3, a4, -⟩ := pI_ok z
        have := HD_P hD (by simp at q; omega) a0 a1 a2 a3 a4
        exact ⟨this.1, by rw [this.2.1]; exact Nat.le_refl _, fun y => absurd y (by decide)⟩
      · rw [if_neg z]
        exact ⟨hD, Nat.le_refl _, fun y => absurd y (by decide)⟩
    | 2, _ =>
      rw [if_neg (by decide), if_neg (by decide), if_neg (by decide), if_neg (by decide)]
      unfold tH
      by_cases z : sf (tI n t (nx n t S)) = 0
      · rw [if_pos z]
        obtain ⟨a1, a2, a3, -⟩ := tI_ok z
        have := HD_T hD (by simp at q; omega) a1 a2 a3
        exact ⟨this.1, by rw [this.2.1]; exact Nat.le_refl _, fun y => absurd y (by decide)⟩
      · rw [if_neg z]
        exact ⟨hD, Nat.le_refl _, fun y => absurd y (by decide)⟩
theorem it2_WS {n : Nat} {t : Nat → Nat} {S : PS} {h : Nat → Int32} {w : Nat} (hS : WS n t S) (hn : ss S = 1) : WS n t (it2 n t w S h).1 ∧ (sf S = 0 → sf (it2 n t w S h).1 = 0 → sb S < sb (it2 n t w S h).1) := by
  unfold it2
  by_cases q : fuB h w = true
  · rw [if_pos q]
    exact ⟨(WS_fl (by omega) hS).1, fun hf z => absurd z (fl3 hf)⟩
  · rw [if_neg q]
    have := it_WS (w := w) hS hn
    exact ⟨this.1, fun _ _ => this.2⟩
theorem wd_v {n : Nat} {t : Nat → Nat} {S : PS} (hS : WS n t S) : (wd t S = 0 ↔ nmV t S = 2002873452) ∧ (wd t S = 1 ↔ nmV t S = 482671093106) ∧ (wd t S = 2 ↔ nmV t S = 127978992397940) := by
  unfold wd
  by_cases q0 : nmV t S = 2002873452
  · rw [if_pos ((nm_0 hS).mp q0), q0]
    exact ⟨by decide, by decide, by decide⟩
  · rw [if_neg (fun z => q0 ((nm_0 hS).mpr z))]
    by_cases q1 : nmV t S = 482671093106
    · rw [if_pos ((nm_1 hS).mp q1), q1]
      exact ⟨by decide, by decide, by decide⟩
    · rw [if_neg (fun z => q1 ((nm_1 hS).mpr z))]
      by_cases q2 : nmV t S = 127978992397940
      · rw [if_pos ((nm_2 hS).mp q2), q2]
        exact ⟨by decide, by decide, by decide⟩
      · rw [if_neg (fun z => q2 ((nm_2 hS).mpr z))]
        exact ⟨⟨fun z => absurd z (by decide), fun z => absurd z q0⟩, ⟨fun z => absurd z (by decide), fun z => absurd z q1⟩, ⟨fun z => absurd z (by decide), fun z => absurd z q2⟩⟩
theorem c_Rbegin (n : Nat) (t : Nat → Nat) (M : am_M) (h500 : n ≤ 500) (h9 : M 11 0 0 9 = nI n) (hb : ∀ i, i < n → M 11 0 6 i = nI (t i)) (h256 : ∀ i, i < n → t i < 256) : ConP 3 mRef_begin [aR 11 0 0] M (fun r M2 => r = none ∧ (∀ k, k ≠ 11 → M2 k = M k) ∧ (∀ o, o ≠ 0 → M2 11 0 o = M 11 0 o) ∧ (∀ i, (i < 9 ∨ i = 10 ∨ 18 ≤ i) → M2 11 0 0 i = M 11 0 0 i) ∧ M2 11 0 0 9 = 0 ∧ TR n t M2 ∧ RR ((tk n t 0).1, (tk n t 0).2.1, (tk n t 0).2.2, 0, 0) M2) := by
  refine con_of okRef_begin [some (aR 11 0 0)] none ?_
  intro J hgo
  have eM : sA (sA (sA (sA M 11 0 0 (upd (M 11 0 0) 11 (M 11 0 0 9))) 11 0 0 (upd ((sA M 11 0 0 (upd (M 11 0 0) 11 (M 11 0 0 9))) 11 0 0) 9 0)) 11 0 0 (upd ((sA (sA M 11 0 0 (upd (M 11 0 0) 11 (M 11 0 0 9))) 11 0 0 (upd ((sA M 11 0 0 (upd (M 11 0 0) 11 (M 11 0 0 9))) 11 0 0) 9 0)) 11 0 0) 12 0)) 11 0 0 (upd ((sA (sA (sA M 11 0 0 (upd (M 11 0 0) 11 (M 11 0 0 9))) 11 0 0 (upd ((sA M 11 0 0 (upd (M 11 0 0) 11 (M 11 0 0 9))) 11 0 0) 9 0)) 11 0 0 (upd ((sA (sA M 11 0 0 (upd (M 11 0 0) 11 (M 11 0 0 9))) 11 0 0 (upd ((sA M 11 0 0 (upd (M 11 0 0) 11 (M 11 0 0 9))) 11 0 0) 9 0)) 11 0 0) 12 0)) 11 0 0) 16 0) = sA M 11 0 0 (upd (upd (upd (upd (M 11 0 0) 11 (nI n)) 9 0) 12 0) 16 0) := by
    rw [sA_sA, sA_sA, sA_sA, sA_s, sA_s, sA_s, h9]
  refine hgo [] _ _ _ _ ?_
  refine clpe (c_next0 n t 0 0 0 (sA M 11 0 0 (upd (upd (upd (upd (M 11 0 0) 11 (nI n)) 9 0) 12 0) 16 0)) ⟨h500, rfl, hb, h256⟩ (by omega) rfl rfl (fun q => absurd rfl q)) rfl eM ?_
  rintro r M2 ⟨rfl, k2, r2⟩
  refine ⟨rfl, fun k hk => (k2.1 k hk).trans (sA_k hk), fun o ho => (k2.2.1 o ho).trans (sA_o ho), fun i hi => ?_, (k2.2.2 9 (by omega)).trans rfl, TR_KT (M := sA M 11 0 0 (upd (upd (upd (upd (M 11 0 0) 11 (nI n)) 9 0) 12 0) 16 0)) ⟨h500, rfl, hb, h256⟩ k2, r2⟩
  rw [k2.2.2 i (by omega)]
  show upd (upd (upd (upd (M 11 0 0) 11 (nI n)) 9 0) 12 0) 16 0 i = _
  rw [upd_n (by omega), upd_n (by omega), upd_n (by omega), upd_n (by omega)]
def hsF (r h : Nat → Int32) : Nat → Int32 := fun i => if i < 198 then r i else h i
def PoR (M : am_M) (res : PS × (Nat → Int32)) (r : Option am_V) (M2 : am_M) : Prop :=
  (∀ k, k ≠ 11 → M2 k = M k) ∧ M2 11 0 0 9 = 0 ∧ (∀ i, (i = 1 ∨ i = 28) → M2 11 0 0 i = M 11 0 0 i) ∧ ((¬ sf res.1 = 0 ∧ r = some (aI (-1000100 - nI (sl res.1))) ∧ M2 11 0 0 10 = nI (sf res.1) ∧ (∀ o, o ≠ 0 → o ≠ 5 → M2 11 0 o = M 11 0 o) ∧ ∀ i, (i = 7 ∨ i = 18) → M2 11 0 0 i = M 11 0 0 i) ∨ (sf res.1 = 0 ∧ HD res.2 ∧ 0 < nW res.2 ∧ r = some (aI (res.2 0)) ∧ M2 11 0 0 10 = M 11 0 0 10 ∧ M2 11 0 0 7 = 1 ∧ M2 11 0 4 = hsF res.2 (M 11 0 4) ∧ (∀ o, o ≠ 0 → o ≠ 4 → o ≠ 5 → o ≠ 7 → o ≠ 8 → o ≠ 9 → M2 11 0 o = M 11 0 o) ∧ FR (M2 11 0 0 18) (M2 11 0 7) (M2 11 0 8) (M2 11 0 9) (hsF res.2 (M 11 0 4))))
theorem c_Ref_house (n : Nat) (t : Nat → Nat) (k : Nat) (M : am_M) (h500 : n ≤ 500) (h9 : M 11 0 0 9 = nI n) (hb : ∀ i, i < n → M 11 0 6 i = nI (t i)) (h256 : ∀ i, i < n → t i < 256) (hk : n < k) : ConP 6 mRef_house [aR 11 0 0] M (PoR M (mainP n t k 0 ((tk n t 0).1, (tk n t 0).2.1, (tk n t 0).2.2, 0, 0) (fun _ => 0))) := by
  refine con_of okRef_house [some (aR 11 0 0), none] (some .int) ?_
  intro J hgo
  generalize hres : mainP n t k 0 ((tk n t 0).1, (tk n t 0).2.1, (tk n t 0).2.2, 0, 0) (fun _ => 0) = res at hgo
  have s121 : ∀ (S : PS) (h : Nat → Int32) (z : Int32) M2, (S, h) = res → (∀ k, k ≠ 11 → M2 k = M k) → (∀ o, o ≠ 0 → o ≠ 5 → M2 11 0 o = M 11 0 o) → (∀ i, (i = 1 ∨ i = 7 ∨ i = 10 ∨ 18 ≤ i) → M2 11 0 0 i = M 11 0 0 i) → M2 11 0 0 9 = 0 → WS n t S → RR S M2 → HD h → RFr h M2 → (sf S = 0 → 0 < nW h) → J 121 [some (aR 11 0 0), some (aI z)] [] M2 := by
    intro S h z M2 e k1 k2 k3 k4 wS rS hD hF hw
    subst e
    have hf3 := wS.2
    by_cases q : sf S = 0
    · have copy : ∀ m i iv f, m = 198 - i → i ≤ 198 → iv = nI i → (∀ j, j < i → f j = h j) → (∀ j, 198 ≤ j → f j = M 11 0 4 j) → J 151 [some (aR 11 0 0), some (aI iv)] [] (sA (sA M2 11 0 0 (upd (M2 11 0 0) 7 1)) 11 0 4 f) := by
        intro m
        induction m with
        | zero =>
          intro i iv f hm hi hv hf hf2
          obtain rfl : i = 198 := by omega
          subst hv
          have ef : f = hsF h (M 11 0 4) := by
            funext j
            unfold hsF
            by_cases hj : j < 198
            · rw [if_pos hj]; exact hf j hj
            · rw [if_neg hj]; exact hf2 j (by omega)
          have hvF : HV f := HV_cong hf hD.1
          refine hgo [] _ _ _ _ ?_
          refine brt (by decide) ?_
          refine hgo [] _ _ _ _ ?_
          refine clp (c_Ref_laySpots f _ hvF sA_s) ?_
          rintro r M3 ⟨rfl, a1, a2, a3, a4⟩
          have h4 : M3 11 0 4 = f := (a2 4 (by decide) (by decide) (by decide) (by decide)).trans sA_s
          refine ob_ (vp_in_nI (n := 0) (N := 198) (by omega) (by omega)) ?_
          refine ⟨fun k hk => (a1 k hk).trans ((sA_k hk).trans ((sA_k hk).trans (k1 k hk))), ?_, fun i hi => ?_, Or.inr ⟨q, hD, hw q, ?_, ?_, ?_, ?_, fun o g0 g4 g5 g7 g8 g9 => (a2 o g0 g7 g8 g9).trans ((sA_o g4).trans ((sA_o g0).trans (k2 o g0 g5))), ?_⟩⟩
          · rw [a3 9 (by decide)]
            show upd (M2 11 0 0) 7 1 9 = 0
            rw [upd_n (by decide)]
            exact k4
          · rw [a3 i (by omega)]
            show upd (M2 11 0 0) 7 1 i = _
            rw [upd_n (by omega)]
            exact k3 i (by omega)
          · show some (aI (M3 11 0 4 0)) = some (aI (h 0))
            rw [h4, hf 0 (by omega)]
          · rw [a3 10 (by decide)]
            show upd (M2 11 0 0) 7 1 10 = _
            rw [upd_n (by decide)]
            exact k3 10 (by omega)
          · rw [a3 7 (by decide)]
            rfl
          · rw [h4, ef]
          · rw [← ef]
            exact a4
        | succ m ih =>
          intro i iv f hm hi hv hf hf2
          subst hv
          have hi : i < 198 := by omega
          refine hgo [] _ _ _ _ ?_
          refine brf (nI_ge (b := 198) hi (by omega)) ?_
          refine ob_ (vp_in_nI (by omega) (by omega)) ?_
          refine ob_ (vp_in_nI (by omega) (by omega)) ?_
          have := ih (i + 1) (nI i + 1) (upd f i (h i)) (by omega) (by omega) (nI_1 i) (fun j hj => ?_) (fun j hj => by rw [upd_n (by omega)]; exact hf2 j hj)
          · have e5 : M2 11 0 5 (nI i).toNatClampNeg = h i := by rw [cl_nI (by omega)]; exact hF i hi
            rw [cl_nI (by omega), sA_sA, sA_s]
            rw [← e5, cl_nI (by omega)] at this
            exact this
          · by_cases e : j = i
            · rw [e, upd_s]
            · rw [upd_n e]
              exact hf j (by omega)
      refine hgo [] _ _ _ _ ?_
      refine brt (show M2 11 0 0 16 ≤ 0 by rw [rS.2.2.2.2.1, q]; decide) ?_
      refine hgo [151] _ _ _ _ ?_
      refine ob_ (by decide) ?_
      have := copy _ 0 0 (M2 11 0 4) rfl (by omega) rfl (fun j hj => by omega) (fun j _ => by rw [k2 4 (by decide) (by decide)])
      have e4 : M2 11 0 4 = (sA M2 11 0 0 (upd (M2 11 0 0) 7 1)) 11 0 4 := (sA_o (by decide)).symm
      rw [e4, sA_id] at this
      exact this
    · refine hgo [] _ _ _ _ ?_
      refine brf (show ¬ M2 11 0 0 16 ≤ 0 by rw [rS.2.2.2.2.1]; exact nI_nle (by omega) (by omega)) ?_
      refine ⟨fun k hk => (sA_k hk).trans (k1 k hk), ?_, fun i hi => ?_, Or.inl ⟨q, ?_, ?_, fun o h0 h5 => (sA_o h0).trans (k2 o h0 h5), fun i hi => ?_⟩⟩
      · show upd (M2 11 0 0) 10 (M2 11 0 0 16) 9 = 0
        rw [upd_n (by decide)]
        exact k4
      · show upd (M2 11 0 0) 10 (M2 11 0 0 16) i = _
        rw [upd_n (by omega)]
        exact k3 i (by omega)
      · show some (aI (-1000100 - upd (M2 11 0 0) 10 (M2 11 0 0 16) 17)) = _
        rw [upd_n (by decide), rS.2.2.2.2.2 q]
      · show upd (M2 11 0 0) 10 (M2 11 0 0 16) 10 = _
        rw [upd_s, rS.2.2.2.2.1]
      · show upd (M2 11 0 0) 10 (M2 11 0 0 16) i = _
        rw [upd_n (by omega)]
        exact k3 i (by omega)
  have s101 : ∀ (S : PS) (h : Nat → Int32) (z : Int32) M2, ((if sf S = 0 then (if ss S = 0 then S else fl 1 S) else S), h) = res → (∀ k, k ≠ 11 → M2 k = M k) → (∀ o, o ≠ 0 → o ≠ 5 → M2 11 0 o = M 11 0 o) → (∀ i, (i = 1 ∨ i = 7 ∨ i = 10 ∨ 18 ≤ i) → M2 11 0 0 i = M 11 0 0 i) → M2 11 0 0 9 = 0 → WS n t S → RR S M2 → HD h → RFr h M2 → (sf S = 0 → 0 < nW h) → J 101 [some (aR 11 0 0), some (aI z)] [] M2 := by
    intro S h z M2 e k1 k2 k3 k4 wS rS hD hF hw
    have hf3 := wS.2
    have hs4 := wS.1.2.2.1
    have et : M2 11 0 0 13 = 1 ↔ ss S = 0 := by rw [rS.1]; exact tkc_i (k := 0) hs4 (by omega)
    refine hgo [121] _ _ _ _ ?_
    by_cases q : sf S = 0
    · rw [if_pos q] at e
      refine brt (show M2 11 0 0 16 = 0 by rw [rS.2.2.2.2.1, q]; rfl) ?_
      by_cases c : ss S = 0
      · rw [if_pos c] at e
        refine brt (et.mpr c) ?_
        exact s121 S h z M2 e k1 k2 k3 k4 wS rS hD hF hw
      · rw [if_neg c] at e
        refine brf (fun y => c (et.mp y)) ?_
        refine clp (c_bad 1 S M2 hf3 rS) ?_
        rintro r M3 ⟨rfl, b1, b2⟩
        have hff : ¬ sf (fl 1 S) = 0 := by unfold fl; rw [if_pos q]; exact (by decide : ¬ (1 : Nat) = 0)
        exact s121 _ h z M3 e (fun k hk => (b1.1 k hk).trans (k1 k hk)) (fun o h0 h5 => (b1.2.1 o h0).trans (k2 o h0 h5)) (fun i hi => (b1.2.2 i (by omega)).trans (k3 i hi)) ((b1.2.2 9 (by omega)).trans k4) (WS_fl (by omega) wS).1 b2 hD (by unfold RFr; rw [b1.2.1 5 (by decide)]; exact hF) (fun y => absurd y hff)
    · rw [if_neg q] at e
      refine brf (show ¬ M2 11 0 0 16 = 0 by rw [rS.2.2.2.2.1]; exact nI_ne0 (by omega) (by omega)) ?_
      exact s121 S h z M2 e k1 k2 k3 k4 wS rS hD hF hw
  have nmF : ∀ (S : PS) M2, TR n t M2 → WS n t S → RR S M2 → ¬ sf S = 0 → Con 1 mRef_name [aR 11 0 0] M2 (some (aL (lN 0))) M2 := by
    intro S M2 hT wS rS q
    have := c_name n t S M2 hT wS rS
    rw [if_neg q] at this
    exact this
  have nmT : ∀ (S : PS) M2, TR n t M2 → WS n t S → RR S M2 → sf S = 0 → Con 1 mRef_name [aR 11 0 0] M2 (some (aL (lN (nmV t S)))) M2 := by
    intro S M2 hT wS rS q
    have := c_name n t S M2 hT wS rS
    rw [if_pos q] at this
    exact this
  have l0 : lg_cmp (lN 0) 2002873452 = 0 → False := fun y => absurd ((lcN (a := 0) (b := 2002873452) (by omega) (by omega)).mp y) (by decide)
  have l1 : lg_cmp (lN 0) 482671093106 = 0 → False := fun y => absurd ((lcN (a := 0) (b := 482671093106) (by omega) (by omega)).mp y) (by decide)
  have l2 : lg_cmp (lN 0) 127978992397940 = 0 → False := fun y => absurd ((lcN (a := 0) (b := 127978992397940) (by omega) (by omega)).mp y) (by decide)
  have F83 : ∀ S h (z : Int32) M2, ¬ sf S = 0 → (S, h) = res → (∀ k, k ≠ 11 → M2 k = M k) → (∀ o, o ≠ 0 → o ≠ 5 → M2 11 0 o = M 11 0 o) → (∀ i, (i = 1 ∨ i = 7 ∨ i = 10 ∨ 18 ≤ i) → M2 11 0 0 i = M 11 0 0 i) → M2 11 0 0 9 = 0 → TR n t M2 → WS n t S → RR S M2 → HD h → RFr h M2 → J 83 [some (aR 11 0 0), some (aI z)] [] M2 := by
    intro S h z M2 q hm k1 k2 k3 k4 hT wS rS hD hF
    refine hgo [101] _ _ _ _ ?_
    refine cl_ (nmF S M2 hT wS rS q) ?_
    refine brf l2 ?_
    exact s101 S h z M2 (by rw [if_neg q]; exact hm) k1 k2 k3 k4 wS rS hD hF (fun y => absurd y q)
  have F65 : ∀ S h (z : Int32) M2, ¬ sf S = 0 → (S, h) = res → (∀ k, k ≠ 11 → M2 k = M k) → (∀ o, o ≠ 0 → o ≠ 5 → M2 11 0 o = M 11 0 o) → (∀ i, (i = 1 ∨ i = 7 ∨ i = 10 ∨ 18 ≤ i) → M2 11 0 0 i = M 11 0 0 i) → M2 11 0 0 9 = 0 → TR n t M2 → WS n t S → RR S M2 → HD h → RFr h M2 → J 65 [some (aR 11 0 0), some (aI z)] [] M2 := by
    intro S h z M2 q hm k1 k2 k3 k4 hT wS rS hD hF
    refine hgo [83] _ _ _ _ ?_
    refine cl_ (nmF S M2 hT wS rS q) ?_
    refine brf l1 ?_
    exact F83 S h z M2 q hm k1 k2 k3 k4 hT wS rS hD hF
  have F47 : ∀ S h (z : Int32) M2, ¬ sf S = 0 → (S, h) = res → (∀ k, k ≠ 11 → M2 k = M k) → (∀ o, o ≠ 0 → o ≠ 5 → M2 11 0 o = M 11 0 o) → (∀ i, (i = 1 ∨ i = 7 ∨ i = 10 ∨ 18 ≤ i) → M2 11 0 0 i = M 11 0 0 i) → M2 11 0 0 9 = 0 → TR n t M2 → WS n t S → RR S M2 → HD h → RFr h M2 → J 47 [some (aR 11 0 0), some (aI z)] [] M2 := by
    intro S h z M2 q hm k1 k2 k3 k4 hT wS rS hD hF
    refine hgo [65] _ _ _ _ ?_
    refine cl_ (nmF S M2 hT wS rS q) ?_
    refine brf l0 ?_
    exact F65 S h z M2 q hm k1 k2 k3 k4 hT wS rS hD hF
  have L3 : ∀ k g S h (z : Int32) M2, n - sb S < k → g ≤ 2 → sf S = 0 → mainP n t k g S h = res → (∀ k, k ≠ 11 → M2 k = M k) → (∀ o, o ≠ 0 → o ≠ 5 → M2 11 0 o = M 11 0 o) → (∀ i, (i = 1 ∨ i = 7 ∨ i = 10 ∨ 18 ≤ i) → M2 11 0 0 i = M 11 0 0 i) → M2 11 0 0 9 = 0 → TR n t M2 → WS n t S → RR S M2 → HD h → RFr h M2 → 0 < nW h → (wd t S = 0 → 1 ≤ g) → (wd t S = 1 → g = 2) → J 83 [some (aR 11 0 0), some (aI z)] [] M2 := by
    intro k
    induction k with
    | zero => intro g S h z M2 h1; exact absurd h1 (Nat.not_lt_zero _)
    | succ k ih =>
      intro g S h z M2 h1 hg q hm k1 k2 k3 k4 hT wS rS hD hF hw hg0 hg1
      obtain ⟨v0, v1, v2⟩ := wd_v wS
      have hwl := wd_le (t := t) (S := S)
      have hnb := nmV_b wS h256
      have lc := lcN (a := nmV t S) (b := 127978992397940) (by omega) (by omega)
      refine hgo [101] _ _ _ _ ?_
      refine cl_ (nmT S M2 hT wS rS q) ?_
      by_cases c : wd t S = 2
      · have hnm := wd_name (t := t) (S := S) (by omega)
        rw [main_go q (by omega) (by omega), c] at hm
        refine brt (lc.mpr (v2.mp c)) ?_
        refine clp (c_RreadTenant n t S h M2 hT wS rS hD hF q) ?_
        rintro r M3 ⟨rfl, b1, b2, b3⟩
        have w3 := it2_WS (h := h) (w := 2) wS hnm
        have d3 := HD_it (n := n) (t := t) (S := S) (w := 2) hD (by omega)
        have hbn := w3.1.1.1
        have hbn2 := w3.1.1.2.1
        by_cases y : sf (it2 n t 2 S h).1 = 0
        · rw [if_pos y] at hm
          have hb3 := w3.2 q y
          refine ih 2 _ _ z M3 (by omega) (by omega) y hm (fun k hk => (b1.1 k hk).trans (k1 k hk)) (fun o h0 h5 => (b1.2.1 o h0 h5).trans (k2 o h0 h5)) (fun i hi => (b1.2.2 i (by omega)).trans (k3 i hi)) ((b1.2.2 9 (by omega)).trans k4) (TR_KU hT b1) w3.1 b2 d3.1 b3 (by omega) (fun _ => by omega) (fun _ => rfl)
        · rw [if_neg y] at hm
          exact F83 _ _ z M3 y hm (fun k hk => (b1.1 k hk).trans (k1 k hk)) (fun o h0 h5 => (b1.2.1 o h0 h5).trans (k2 o h0 h5)) (fun i hi => (b1.2.2 i (by omega)).trans (k3 i hi)) ((b1.2.2 9 (by omega)).trans k4) (TR_KU hT b1) w3.1 b2 d3.1 b3
      · refine brf (fun y => c (v2.mpr (lc.mp y))) ?_
        refine s101 S h z M2 ?_ k1 k2 k3 k4 wS rS hD hF (fun _ => hw)
        rw [if_pos q, ← hm, mainP]
        by_cases c2 : ss S = 0
        · rw [if_pos c2, if_pos ⟨c2, hw⟩]
        · rw [if_neg c2, if_neg (fun y => c2 y.1), if_pos (by omega)]
  have L2 : ∀ k g S h (z : Int32) M2, n - sb S < k → g ≤ 1 → sf S = 0 → mainP n t k g S h = res → (∀ k, k ≠ 11 → M2 k = M k) → (∀ o, o ≠ 0 → o ≠ 5 → M2 11 0 o = M 11 0 o) → (∀ i, (i = 1 ∨ i = 7 ∨ i = 10 ∨ 18 ≤ i) → M2 11 0 0 i = M 11 0 0 i) → M2 11 0 0 9 = 0 → TR n t M2 → WS n t S → RR S M2 → HD h → RFr h M2 → 0 < nW h → (wd t S = 0 → g = 1) → J 65 [some (aR 11 0 0), some (aI z)] [] M2 := by
    intro k
    induction k with
    | zero => intro g S h z M2 h1; exact absurd h1 (Nat.not_lt_zero _)
    | succ k ih =>
      intro g S h z M2 h1 hg q hm k1 k2 k3 k4 hT wS rS hD hF hw hg0
      obtain ⟨v0, v1, v2⟩ := wd_v wS
      have hwl := wd_le (t := t) (S := S)
      have hnb := nmV_b wS h256
      have lc := lcN (a := nmV t S) (b := 482671093106) (by omega) (by omega)
      refine hgo [83] _ _ _ _ ?_
      refine cl_ (nmT S M2 hT wS rS q) ?_
      by_cases c : wd t S = 1
      · have hnm := wd_name (t := t) (S := S) (by omega)
        rw [main_go q (by omega) (by omega), c] at hm
        refine brt (lc.mpr (v1.mp c)) ?_
        refine clp (c_RreadPaper n t S h M2 hT wS rS hD hF q) ?_
        rintro r M3 ⟨rfl, b1, b2, b3⟩
        have w3 := it2_WS (h := h) (w := 1) wS hnm
        have d3 := HD_it (n := n) (t := t) (S := S) (w := 1) hD (by omega)
        have hbn := w3.1.1.1
        have hbn2 := w3.1.1.2.1
        by_cases y : sf (it2 n t 1 S h).1 = 0
        · rw [if_pos y] at hm
          have hb3 := w3.2 q y
          refine ih 1 _ _ z M3 (by omega) (by omega) y hm (fun k hk => (b1.1 k hk).trans (k1 k hk)) (fun o h0 h5 => (b1.2.1 o h0 h5).trans (k2 o h0 h5)) (fun i hi => (b1.2.2 i (by omega)).trans (k3 i hi)) ((b1.2.2 9 (by omega)).trans k4) (TR_KU hT b1) w3.1 b2 d3.1 b3 (by omega) (fun _ => rfl)
        · rw [if_neg y] at hm
          exact F65 _ _ z M3 y hm (fun k hk => (b1.1 k hk).trans (k1 k hk)) (fun o h0 h5 => (b1.2.1 o h0 h5).trans (k2 o h0 h5)) (fun i hi => (b1.2.2 i (by omega)).trans (k3 i hi)) ((b1.2.2 9 (by omega)).trans k4) (TR_KU hT b1) w3.1 b2 d3.1 b3
      · refine brf (fun y => c (v1.mpr (lc.mp y))) ?_
        exact L3 (k + 1) g S h z M2 h1 (by omega) q hm k1 k2 k3 k4 hT wS rS hD hF hw (fun y => by have := hg0 y; omega) (fun y => absurd y c)
  have L1 : ∀ k S h (z : Int32) M2, n - sb S < k → sf S = 0 → mainP n t k 0 S h = res → (∀ k, k ≠ 11 → M2 k = M k) → (∀ o, o ≠ 0 → o ≠ 5 → M2 11 0 o = M 11 0 o) → (∀ i, (i = 1 ∨ i = 7 ∨ i = 10 ∨ 18 ≤ i) → M2 11 0 0 i = M 11 0 0 i) → M2 11 0 0 9 = 0 → TR n t M2 → WS n t S → RR S M2 → HD h → RFr h M2 → (0 < nW h ∨ wd t S = 0) → J 47 [some (aR 11 0 0), some (aI z)] [] M2 := by
    intro k
    induction k with
    | zero => intro S h z M2 h1; exact absurd h1 (Nat.not_lt_zero _)
    | succ k ih =>
      intro S h z M2 h1 q hm k1 k2 k3 k4 hT wS rS hD hF hw
      obtain ⟨v0, v1, v2⟩ := wd_v wS
      have hwl := wd_le (t := t) (S := S)
      have hnb := nmV_b wS h256
      have lc := lcN (a := nmV t S) (b := 2002873452) (by omega) (by omega)
      refine hgo [65] _ _ _ _ ?_
      refine cl_ (nmT S M2 hT wS rS q) ?_
      by_cases c : wd t S = 0
      · have hnm := wd_name (t := t) (S := S) (by omega)
        rw [main_go q (by omega) (by omega), c] at hm
        refine brt (lc.mpr (v0.mp c)) ?_
        refine clp (c_RreadWall n t S h M2 hT wS rS hD hF q) ?_
        rintro r M3 ⟨rfl, b1, b2, b3⟩
        have w3 := it2_WS (h := h) (w := 0) wS hnm
        have d3 := HD_it (n := n) (t := t) (S := S) (w := 0) hD (by omega)
        have hbn := w3.1.1.1
        have hbn2 := w3.1.1.2.1
        by_cases y : sf (it2 n t 0 S h).1 = 0
        · rw [if_pos y] at hm
          have hb3 := w3.2 q y
          refine ih _ _ z M3 (by omega) y hm (fun k hk => (b1.1 k hk).trans (k1 k hk)) (fun o h0 h5 => (b1.2.1 o h0 h5).trans (k2 o h0 h5)) (fun i hi => (b1.2.2 i (by omega)).trans (k3 i hi)) ((b1.2.2 9 (by omega)).trans k4) (TR_KU hT b1) w3.1 b2 d3.1 b3 (Or.inl (d3.2.2 rfl q y))
        · rw [if_neg y] at hm
          exact F47 _ _ z M3 y hm (fun k hk => (b1.1 k hk).trans (k1 k hk)) (fun o h0 h5 => (b1.2.1 o h0 h5).trans (k2 o h0 h5)) (fun i hi => (b1.2.2 i (by omega)).trans (k3 i hi)) ((b1.2.2 9 (by omega)).trans k4) (TR_KU hT b1) w3.1 b2 d3.1 b3
      · refine brf (fun y => c (v0.mpr (lc.mp y))) ?_
        have hw : 0 < nW h := by omega
        exact L2 (k + 1) 0 S h z M2 h1 (by omega) q hm k1 k2 k3 k4 hT wS rS hD hF hw (fun y => absurd y c)
  have tk0 := tk_in (n := n) (t := t) (e := 0) (by omega)
  have wS0 : WS n t ((tk n t 0).1, (tk n t 0).2.1, (tk n t 0).2.2, 0, 0) := ⟨tk0.2, by show 0 ≤ 3; omega⟩
  have clr : ∀ Mb : am_M, (∀ k, k ≠ 11 → Mb k = M k) → (∀ o, o ≠ 0 → Mb 11 0 o = M 11 0 o) → (∀ i, (i = 1 ∨ i = 7 ∨ i = 10 ∨ 18 ≤ i) → Mb 11 0 0 i = M 11 0 0 i) → Mb 11 0 0 9 = 0 → TR n t Mb → RR ((tk n t 0).1, (tk n t 0).2.1, (tk n t 0).2.2, 0, 0) Mb → ∀ m i iv f, m = 198 - i → i ≤ 198 → iv = nI i → (∀ j, j < i → f j = 0) → J 11 [some (aR 11 0 0), some (aI iv)] [] (sA Mb 11 0 5 f) := by
    intro Mb k1 k2 k3 k4 hT rS m
    induction m with
    | zero =>
      intro i iv f hm hi hv hf
      obtain rfl : i = 198 := by omega
      subst hv
      have hT2 : TR n t (sA Mb 11 0 5 f) := hT
      have rS2 : RR ((tk n t 0).1, (tk n t 0).2.1, (tk n t 0).2.2, 0, 0) (sA Mb 11 0 5 f) := rS
      have hF2 : RFr (fun _ => 0) (sA Mb 11 0 5 f) := fun j hj => by rw [sA_s]; exact hf j hj
      have k12 : ∀ k, k ≠ 11 → (sA Mb 11 0 5 f) k = M k := fun k hk => (sA_k hk).trans (k1 k hk)
      have k22 : ∀ o, o ≠ 0 → o ≠ 5 → (sA Mb 11 0 5 f) 11 0 o = M 11 0 o := fun o h0 h5 => (sA_o h5).trans (k2 o h0)
      have k32 : ∀ i, (i = 1 ∨ i = 7 ∨ i = 10 ∨ 18 ≤ i) → (sA Mb 11 0 5 f) 11 0 0 i = M 11 0 0 i := fun i hi => k3 i hi
      have k42 : (sA Mb 11 0 5 f) 11 0 0 9 = 0 := k4
      generalize sA Mb 11 0 5 f = Mc at hT2 rS2 hF2 k12 k22 k32 k42
      have hnb := nmV_b wS0 h256
      have lc := lcN (a := nmV t ((tk n t 0).1, (tk n t 0).2.1, (tk n t 0).2.2, 0, 0)) (b := 2002873452) (by omega) (by omega)
      obtain ⟨v0, v1, v2⟩ := wd_v wS0
      have n0 : nW (fun _ => 0) = 0 := rfl
      refine hgo [] _ _ _ _ ?_
      refine brt (by decide) ?_
      refine hgo [47] _ _ _ _ ?_
      refine cl_ (nmT _ Mc hT2 wS0 rS2 rfl) ?_
      by_cases c : wd t ((tk n t 0).1, (tk n t 0).2.1, (tk n t 0).2.2, 0, 0) = 0
      · refine brt (lc.mpr (v0.mp c)) ?_
        exact L1 k _ _ _ Mc (by omega) rfl hres k12 k22 k32 k42 hT2 wS0 rS2 HD_0 hF2 (Or.inr c)
      · refine brf (fun y => c (v0.mpr (lc.mp y))) ?_
        refine clp (c_bad 1 _ Mc (by show 0 ≤ 3; omega) rS2) ?_
        rintro r M3 ⟨rfl, b1, b2⟩
        obtain ⟨k', rfl⟩ : ∃ k', k = k' + 1 := ⟨k - 1, by omega⟩
        rw [mainP, if_neg (fun y => by have := y.2; rw [n0] at this; omega), if_pos (Or.inr (Or.inr ⟨by omega, n0⟩))] at hres
        exact F47 _ _ _ M3 (fl1 rfl) hres (fun k hk => (b1.1 k hk).trans (k12 k hk)) (fun o h0 h5 => (b1.2.1 o h0).trans (k22 o h0 h5)) (fun i hi => (b1.2.2 i (by omega)).trans (k32 i hi)) ((b1.2.2 9 (by omega)).trans k42) (TR_KT hT2 b1) (WS_fl (by omega) wS0).1 b2 HD_0 (by unfold RFr; rw [b1.2.1 5 (by decide)]; exact hF2)
    | succ m ih =>
      intro i iv f hm hi hv hf
      subst hv
      refine hgo [] _ _ _ _ ?_
      refine brf (nI_ge (b := 198) (by omega) (by omega)) ?_
      refine ob_ (vp_in_nI (by omega) (by omega)) ?_
      rw [cl_nI (by omega), sA_sA, sA_s]
      refine ih (i + 1) _ _ (by omega) (by omega) (nI_1 i) (fun j hj => ?_)
      by_cases e : j = i
      · rw [e, upd_s]
      · rw [upd_n e]
        exact hf j (by omega)
  refine hgo [11] _ _ _ _ ?_
  refine clp (c_Rbegin n t (rT M) h500 (by exact h9) hb h256) ?_
  rintro r Mb ⟨rfl, b1, b2, b3, b4, b5, b6⟩
  have := clr Mb (fun k hk => (b1 k hk).trans (sA_k hk)) (fun o ho => (b2 o ho).trans (sA_o ho)) (fun i hi => (b3 i (by omega)).trans (show upd (M 11 0 0) 0 0 i = _ from upd_n (by omega))) b4 b5 b6 _ 0 0 (Mb 11 0 5) rfl (by omega) rfl (fun j hj => by omega)
  rw [sA_id] at this
  exact this
