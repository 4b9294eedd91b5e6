/-! the class's reader -/
def KH (M2 M : am_M) : Prop := (∀ k, k ≠ 3 → k ≠ 4 → M2 k = M k) ∧ ∀ i, i ≠ 1 → M2 4 i = M 4 i
theorem KH.tr {M M1 M2 : am_M} (h1 : KH M1 M) (h2 : KH M2 M1) : KH M2 M := ⟨fun k a b => (h2.1 k a b).trans (h1.1 k a b), fun i hi => (h2.2 i hi).trans (h1.2 i hi)⟩
theorem K3.kh {M M2 : am_M} (h : K3 M2 M) : KH M2 M := ⟨fun k a _ => h k a, fun i _ => by rw [h 4 (by decide)]⟩
theorem TC_KH {n : Nat} {t : Nat → Nat} {M M2 : am_M} (h : TC n t M) (hK : KH M2 M) : TC n t M2 := by
  unfold TC
  rw [hK.1 2 (by decide) (by decide)]
  exact h
theorem HSame.kh {M M2 : am_M} (h : HSame M M2 1) : KH M2 M := ⟨fun k _ b => h.1 k b, h.2⟩
theorem RC_4 {t : Nat → Nat} {S : PS} {M M2 : am_M} (h : RC t S M) (e : M2 3 = M 3) : RC t S M2 := by
  unfold RC
  rw [e]
  exact h
theorem c_CreadWall (n : Nat) (t : Nat → Nat) (S : PS) (h : Nat → Int32) (M : am_M) (hT : TC n t M) (hS : WS n t S) (hR : RC t S M) (hD : DR h (M 4 1)) (h8 : nW h < 8) (hf : sf S = 0) : ConP 4 mReader_readWall [aR 3 0 0] M (fun r M2 => r = none ∧ KH M2 M ∧ RC t (wI n t S) M2 ∧ DR (wH n t S h) (M2 4 1)) := by
  refine con_of okReader_readWall [some (aR 3 0 0), none, none, none] none ?_
  intro J hgo
  have w1 := WS_nu (lo := 1700) (hi := 1999) hS
  have w2 := WS_nu (lo := 50) (hi := 999) w1.1
  have w3 := WS_nu (lo := 100) (hi := 400) w2.1
  have w4 := WS_wI hS
  refine hgo [] _ _ _ _ ?_
  refine clp (c_Cnumber n t S 1700 1999 (nI 1700) M hT hS hR (fun _ => rfl) (fun _ => by omega) (by omega)) ?_
  rintro r M1 ⟨⟨x1, rfl, e1⟩, k1, rr1⟩
  refine clp (c_Cnumber n t _ 50 999 (nI 50) M1 (TC_K3 hT k1) w1.1 rr1 (fun _ => rfl) (fun _ => by omega) (by omega)) ?_
  rintro r M2 ⟨⟨x2, rfl, e2⟩, k2, rr2⟩
  have k12 := k1.tr k2
  refine clp (c_Cnumber n t _ 100 400 (nI 100) M2 (TC_K3 hT k12) w2.1 rr2 (fun _ => rfl) (fun _ => by omega) (by omega)) ?_
  rintro r M3 ⟨⟨x3, rfl, e3⟩, k3, rr3⟩
  have k13 := k12.tr k3
  refine clp (c_semicolon n t _ M3 (TC_K3 hT k13) w3.1 rr3) ?_
  rintro r M4 ⟨rfl, k4, rr4⟩
  have k14 := k13.tr k4
  have e4 : M4 4 = M 4 := k14 4 (by decide)
  have r4 : M4 3 0 0 6 = nI (sf (wI n t S)) := rr4.2.2.2.1
  have hf3 : sf (wI n t S) ≤ 3 := w4.1.2
  by_cases q : sf (wI n t S) = 0
  · obtain ⟨a1, a2, a3, s1, s2, s3⟩ := wI_ok q
    have d4 : DR h (M4 4 1) := by rw [e4]; exact hD
    have en : M4 4 1 0 0 = nI (nW h) := by rw [d4.2.1.1, d4.1.1.1.1]
    refine brt (show M4 3 0 0 6 = 0 by rw [r4, q]; rfl) ?_
    rw [e1 s1, e2 s2, e3 s3]
    refine clp (c_House_addWall 1 (nW h) _ _ _ M4 en h8) ?_
    rintro r M5 ⟨rfl, b0, b1, b2, b3, b4, b5⟩
    refine ⟨rfl, k14.kh.tr b0.kh, RC_4 rr4 (b0.1 3 (by decide)), ?_⟩
    unfold wH
    rw [if_pos q]
    exact DR_W d4 h8 a1 a2 a3 b1 b2 b3 b4 b5
  · refine brf (show ¬ M4 3 0 0 6 = 0 by rw [r4]; exact nI_ne0 (by omega) (by omega)) ?_
    refine hgo [] _ _ _ _ ?_
    refine ⟨rfl, k14.kh, rr4, ?_⟩
    unfold wH
    rw [if_neg q, e4]
    exact hD
theorem c_CreadTenant (n : Nat) (t : Nat → Nat) (S : PS) (h : Nat → Int32) (M : am_M) (hT : TC n t M) (hS : WS n t S) (hR : RC t S M) (hD : DR h (M 4 1)) (h8 : nT h < 10) (hf : sf S = 0) : ConP 4 mReader_readTenant [aR 3 0 0] M (fun r M2 => r = none ∧ KH M2 M ∧ RC t (tI n t S) M2 ∧ DR (tH n t S h) (M2 4 1)) := by
  refine con_of okReader_readTenant [some (aR 3 0 0), none, none, none] none ?_
  intro J hgo
  have w1 := WS_nu (lo := 1700) (hi := 1999) hS
  have w2 := WS_nu (lo := nuv t S) (hi := 1999) w1.1
  have w3 := WS_nu (lo := 0) (hi := 99) w2.1
  have w4 := WS_tI hS
  refine hgo [] _ _ _ _ ?_
  refine clp (c_Cnumber n t S 1700 1999 (nI 1700) M hT hS hR (fun _ => rfl) (fun _ => by omega) (by omega)) ?_
  rintro r M1 ⟨⟨x1, rfl, e1⟩, k1, rr1⟩
  refine clp (c_Cnumber n t _ (nuv t S) 1999 x1 M1 (TC_K3 hT k1) w1.1 rr1 e1 (fun q => by have := nu_ok q; omega) (by omega)) ?_
  rintro r M2 ⟨⟨x2, rfl, e2⟩, k2, rr2⟩
  have k12 := k1.tr k2
  refine clp (c_Cnumber n t _ 0 99 (nI 0) M2 (TC_K3 hT k12) w2.1 rr2 (fun _ => rfl) (fun _ => by omega) (by omega)) ?_
  rintro r M3 ⟨⟨x3, rfl, e3⟩, k3, rr3⟩
  have k13 := k12.tr k3
  refine clp (c_semicolon n t _ M3 (TC_K3 hT k13) w3.1 rr3) ?_
  rintro r M4 ⟨rfl, k4, rr4⟩
  have k14 := k13.tr k4
  have e4 : M4 4 = M 4 := k14 4 (by decide)
  have r4 : M4 3 0 0 6 = nI (sf (tI n t S)) := rr4.2.2.2.1
  have hf3 : sf (tI n t S) ≤ 3 := w4.1.2
  by_cases q : sf (tI n t S) = 0
  · obtain ⟨a1, a2, a3, s1, s2, s3⟩ := tI_ok q
    have d4 : DR h (M4 4 1) := by rw [e4]; exact hD
    have en : M4 4 1 0 10 = nI (nT h) := by rw [d4.2.2.2.1, d4.1.1.2.2.1.1]
    refine brt (show M4 3 0 0 6 = 0 by rw [r4, q]; rfl) ?_
    rw [e1 s1, e2 s2, e3 s3]
    refine clp (c_House_addTenant 1 (nT h) _ _ _ M4 en h8) ?_
    rintro r M5 ⟨rfl, b0, b1, b2, b3, b4, b5⟩
    refine ⟨rfl, k14.kh.tr b0.kh, RC_4 rr4 (b0.1 3 (by decide)), ?_⟩
    unfold tH
    rw [if_pos q]
    exact DR_T d4 h8 a1 a2 a3 b1 b2 b3 b4 b5
  · refine brf (show ¬ M4 3 0 0 6 = 0 by rw [r4]; exact nI_ne0 (by omega) (by omega)) ?_
    refine hgo [] _ _ _ _ ?_
    refine ⟨rfl, k14.kh, rr4, ?_⟩
    unfold tH
    rw [if_neg q, e4]
    exact hD
theorem c_CreadPaper (n : Nat) (t : Nat → Nat) (S : PS) (h : Nat → Int32) (M : am_M) (hT : TC n t M) (hS : WS n t S) (hR : RC t S M) (hD : DR h (M 4 1)) (h8 : nP h < 10) (hf : sf S = 0) : ConP 7 mReader_readPaper [aR 3 0 0] M (fun r M2 => r = none ∧ KH M2 M ∧ RC t (pI n t S) M2 ∧ DR (pH n t S h) (M2 4 1)) := by
  refine con_of okReader_readPaper [some (aR 3 0 0), none, none, none, none, none] none ?_
  intro J hgo
  have w0 := WS_so hS
  have w1 := WS_nu (lo := 1700) (hi := 1999) w0.1
  have w2 := WS_nu (lo := nuv t (so n t S)) (hi := 1999) w1.1
  have w3 := WS_nu (lo := 0) (hi := 99) w2.1
  have w3b := WS_nu (lo := 1) (hi := 99) w3.1
  have w4 := WS_pI hS
  refine hgo [] _ _ _ _ ?_
  refine clp (c_sortOfPaper n t S M hT hS hR hf) ?_
  rintro r M0 ⟨rfl, k0, rr0⟩
  refine clp (c_Cnumber n t _ 1700 1999 (nI 1700) M0 (TC_K3 hT k0) w0.1 rr0 (fun _ => rfl) (fun _ => by omega) (by omega)) ?_
  rintro r M1 ⟨⟨x1, rfl, e1⟩, k1', rr1⟩
  have k1 := k0.tr k1'
  refine clp (c_Cnumber n t _ (nuv t (so n t S)) 1999 x1 M1 (TC_K3 hT k1) w1.1 rr1 e1 (fun q => by have := nu_ok q; omega) (by omega)) ?_
  rintro r M2 ⟨⟨x2, rfl, e2⟩, k2, rr2⟩
  have k12 := k1.tr k2
  refine clp (c_Cnumber n t _ 0 99 (nI 0) M2 (TC_K3 hT k12) w2.1 rr2 (fun _ => rfl) (fun _ => by omega) (by omega)) ?_
  rintro r M3 ⟨⟨x3, rfl, e3⟩, k3, rr3⟩
  have k13 := k12.tr k3
  refine clp (c_Cnumber n t _ 1 99 (nI 1) M3 (TC_K3 hT k13) w3.1 rr3 (fun _ => rfl) (fun _ => by omega) (by omega)) ?_
  rintro r M3b ⟨⟨x4, rfl, e3b⟩, k3b, rr3b⟩
  have k13b := k13.tr k3b
  refine clp (c_semicolon n t _ M3b (TC_K3 hT k13b) w3b.1 rr3b) ?_
  rintro r M4 ⟨rfl, k4, rr4⟩
  have k14 := k13b.tr k4
  have e4 : M4 4 = M 4 := k14 4 (by decide)
  have r4 : M4 3 0 0 6 = nI (sf (pI n t S)) := rr4.2.2.2.1
  have hf3 : sf (pI n t S) ≤ 3 := w4.1.2
  by_cases q : sf (pI n t S) = 0
  · obtain ⟨a0, a1, a2, a3, a4, s1, s2, s3, s4⟩ := pI_ok q
    have d4 : DR h (M4 4 1) := by rw [e4]; exact hD
    have en : M4 4 1 0 4 = nI (nP h) := by rw [d4.2.2.1.1, d4.1.1.2.1.1]
    refine brt (show M4 3 0 0 6 = 0 by rw [r4, q]; rfl) ?_
    rw [e1 s1, e2 s2, e3 s3, e3b s4]
    refine clp (c_House_addPaper 1 (nP h) _ _ _ _ _ M4 en h8) ?_
    rintro r M5 ⟨rfl, b0, b1, b2, b3, b4, b5, b6, b7⟩
    refine ⟨rfl, k14.kh.tr b0.kh, RC_4 rr4 (b0.1 3 (by decide)), ?_⟩
    unfold pH
    rw [if_pos q]
    exact DR_P d4 h8 a0 a1 a2 a3 a4 b1 b2 b3 b4 b5 b6 b7
  · refine brf (show ¬ M4 3 0 0 6 = 0 by rw [r4]; exact nI_ne0 (by omega) (by omega)) ?_
    refine hgo [] _ _ _ _ ?_
    refine ⟨rfl, k14.kh, rr4, ?_⟩
    unfold pH
    rw [if_neg q, e4]
    exact hD
def fuB (h : Nat → Int32) (w : Nat) : Bool := (decide (w = 0) && decide (nW h = 8)) || ((decide (w = 1) && decide (nP h = 10)) || (decide (w = 2) && decide (nT h = 10)))
def wx (w : Nat) : Int32 := if w = 3 then -1 else nI w
theorem c_isFull (h : Nat → Int32) (w : Nat) (M : am_M) (hD : DR h (M 4 1)) (hw : w ≤ 3) : Con 1 mReader_isFull [aR 3 0 0, aI (wx w)] M (some (aI (b2i (fuB h w = true)))) M := by
  obtain ⟨⟨hv, -⟩, r1, r2, r3⟩ := hD
  have w8 := hv.1.2
  have p10 := hv.2.1.2
  have t10 := hv.2.2.1.2
  have e0 : M 4 1 0 0 = nI (nW h) := by rw [r1.1, hv.1.1]
  have e1 : M 4 1 0 4 = nI (nP h) := by rw [r2.1, hv.2.1.1]
  have e2 : M 4 1 0 10 = nI (nT h) := by rw [r3.1, hv.2.2.1.1]
  refine con_of okReader_isFull [some (aR 3 0 0), some (aI (wx w))] (some .boolean) ?_
  intro J hgo
  match w, hw with
  | 0, _ =>
    refine hgo [] _ _ _ _ ?_
    refine brt rfl ?_
    refine br_ (fun g => ?_) (fun g => ?_)
    · have g : M 4 1 0 0 < nI 8 := g
      rw [e0, nI_ltI (by omega) (by omega)] at g
      refine hgo [] _ _ _ _ ?_
      refine ob_ (by decide) ⟨?_, rfl⟩
      rw [b2i_f]
      unfold fuB
      simp
      omega
    · have g : ¬ M 4 1 0 0 < nI 8 := g
      rw [e0, nI_ltI (by omega) (by omega)] at g
      refine hgo [] _ _ _ _ ?_
      refine ob_ (by decide) ⟨?_, rfl⟩
      rw [b2i_t]
      unfold fuB
      simp
      omega
  | 1, _ =>
    refine hgo [] _ _ _ _ ?_
    refine brf (by decide) ?_
    refine hgo [] _ _ _ _ ?_
    refine brt rfl ?_
    refine br_ (fun g => ?_) (fun g => ?_)
    · have g : M 4 1 0 4 < nI 10 := g
      rw [e1, nI_ltI (by omega) (by omega)] at g
      refine hgo [] _ _ _ _ ?_
      refine ob_ (by decide) ⟨?_, rfl⟩
      rw [b2i_f]
      unfold fuB
      simp
      omega
    · have g : ¬ M 4 1 0 4 < nI 10 := g
      rw [e1, nI_ltI (by omega) (by omega)] at g
      refine hgo [] _ _ _ _ ?_
      refine ob_ (by decide) ⟨?_, rfl⟩
      rw [b2i_t]
      unfold fuB
      simp
      omega
  | 2, _ =>
    refine hgo [] _ _ _ _ ?_
    refine brf (by decide) ?_
    refine hgo [] _ _ _ _ ?_
    refine brf (by decide) ?_
    refine hgo [] _ _ _ _ ?_
    refine brt rfl ?_
    refine br_ (fun g => ?_) (fun g => ?_)
    · have g : M 4 1 0 10 < nI 10 := g
      rw [e2, nI_ltI (by omega) (by omega)] at g
      refine hgo [] _ _ _ _ ?_
      refine ob_ (by decide) ⟨?_, rfl⟩
      rw [b2i_f]
      unfold fuB
      simp
      omega
    · have g : ¬ M 4 1 0 10 < nI 10 := g
      rw [e2, nI_ltI (by omega) (by omega)] at g
      refine hgo [] _ _ _ _ ?_
      refine ob_ (by decide) ⟨?_, rfl⟩
      rw [b2i_t]
      unfold fuB
      simp
      omega
  | 3, _ =>
    refine hgo [] _ _ _ _ ?_
    refine brf (by decide) ?_
    refine hgo [] _ _ _ _ ?_
    refine brf (by decide) ?_
    refine hgo [] _ _ _ _ ?_
    refine brf (by decide) ?_
    refine hgo [] _ _ _ _ ?_
    refine ob_ (by decide) ⟨?_, rfl⟩
    rw [b2i_f]
    unfold fuB
    simp
/-- one item from its word on -/
def itS (n : Nat) (t : Nat → Nat) (w : Nat) (S : PS) : PS := if w = 0 then wI n t (nx n t S) else if w = 1 then pI n t (nx n t S) else tI n t (nx n t S)
def itH (n : Nat) (t : Nat → Nat) (w : Nat) (S : PS) (h : Nat → Int32) : Nat → Int32 := if w = 0 then wH n t (nx n t S) h else if w = 1 then pH n t (nx n t S) h else tH n t (nx n t S) h
theorem c_readOne_f (x : Int32) (M : am_M) (hf : ¬ M 3 0 0 6 = 0) : Con 8 mReader_readOne [aR 3 0 0, aI x] M none M := by
  refine con_of okReader_readOne [some (aR 3 0 0), some (aI x)] none ?_
  intro J hgo
  refine hgo [] _ _ _ _ ?_
  refine brf hf ?_
  exact ⟨rfl, rfl⟩
theorem c_readOne (n : Nat) (t : Nat → Nat) (S : PS) (h : Nat → Int32) (w : Nat) (M : am_M) (hT : TC n t M) (hS : WS n t S) (hR : RC t S M) (hD : DR h (M 4 1)) (hw : w < 3) (hfu : fuB h w = false) (hf : sf S = 0) : ConP 8 mReader_readOne [aR 3 0 0, aI (nI w)] M (fun r M2 => r = none ∧ KH M2 M ∧ RC t (itS n t w S) M2 ∧ DR (itH n t w S h) (M2 4 1)) := by
  have w1 := WS_nx hS
  have w8 := hD.1.1.1.2
  have p10 := hD.1.1.2.1.2
  have t10 := hD.1.1.2.2.1.2
  refine con_of okReader_readOne [some (aR 3 0 0), some (aI (nI w))] none ?_
  intro J hgo
  refine hgo [] _ _ _ _ ?_
  refine brt (show M 3 0 0 6 = 0 by rw [hR.2.2.2.1, hf]; rfl) ?_
  refine hgo [] _ _ _ _ ?_
  refine clp (c_step n t S M hT hS hR) ?_
  rintro r M1 ⟨rfl, k1, rr1⟩
  have d1 : DR h (M1 4 1) := by rw [k1 4 (by decide)]; exact hD
  have f1 : sf (nx n t S) = 0 := hf
  match w, hw with
  | 0, _ =>
    have h8 : nW h < 8 := by
      unfold fuB at hfu
      simp at hfu
      omega
    refine brt rfl ?_
    refine clp (c_CreadWall n t _ h M1 (TC_K3 hT k1) w1.1 rr1 d1 h8 f1) ?_
    rintro r M2 ⟨rfl, k2, rr2, d2⟩
    refine brf (by decide) ?_
    refine hgo [] _ _ _ _ ?_
    refine brf (by decide) ?_
    refine hgo [] _ _ _ _ ?_
    refine ⟨rfl, k1.kh.tr k2, ?_, ?_⟩
    · rw [itS, if_pos rfl]
      exact rr2
    · rw [itH, if_pos rfl]
      exact d2
  | 1, _ =>
    have h8 : nP h < 10 := by
      unfold fuB at hfu
      simp at hfu
      omega
    refine brf (by decide) ?_
    refine hgo [] _ _ _ _ ?_
    refine brt rfl ?_
    refine clp (c_CreadPaper n t _ h M1 (TC_K3 hT k1) w1.1 rr1 d1 h8 f1) ?_
    rintro r M2 ⟨rfl, k2, rr2, d2⟩
    refine brf (by decide) ?_
    refine hgo [] _ _ _ _ ?_
    refine ⟨rfl, k1.kh.tr k2, ?_, ?_⟩
    · rw [itS, if_neg (by decide), if_pos rfl]
      exact rr2
    · rw [itH, if_neg (by decide), if_pos rfl]
      exact d2
  | 2, _ =>
    have h8 : nT h < 10 := by
      unfold fuB at hfu
      simp at hfu
      omega
    refine brf (by decide) ?_
    refine hgo [] _ _ _ _ ?_
    refine brf (by decide) ?_
    refine hgo [] _ _ _ _ ?_
    refine brt rfl ?_
    refine clp (c_CreadTenant n t _ h M1 (TC_K3 hT k1) w1.1 rr1 d1 h8 f1) ?_
    rintro r M2 ⟨rfl, k2, rr2, d2⟩
    refine ⟨rfl, k1.kh.tr k2, ?_, ?_⟩
    · rw [itS, if_neg (by decide), if_neg (by decide)]
      exact rr2
    · rw [itH, if_neg (by decide), if_neg (by decide)]
      exact d2
/-! the whole text -/
def mainP (n : Nat) (t : Nat → Nat) : Nat → Nat → PS → (Nat → Int32) → PS × (Nat → Int32)
  | 0, _, S, h => (S, h)
  | k + 1, g, S, h => if ss S = 0 ∧ 0 < nW h then (S, h) else if wd t S = 3 ∨ wd t S < g ∨ (0 < wd t S ∧ nW h = 0) then (fl 1 S, h) else if fuB h (wd t S) = true then (fl 3 S, h) else if sf (itS n t (wd t S) S) = 0 then mainP n t k (wd t S) (itS n t (wd t S) S) (itH n t (wd t S) S h) else (itS n t (wd t S) S, itH n t (wd t S) S h)
theorem wd_name {t : Nat → Nat} {S : PS} (h : wd t S ≠ 3) : ss S = 1 := by
  have key : ∀ i, nmD t S i = true → ss S = 1 := by
    intro i q
    unfold nmD at q
    rw [Bool.and_eq_true] at q
    exact of_decide_eq_true q.1
  unfold wd at h
  by_cases q0 : nmD t S 0 = true
  · exact key 0 q0
  · rw [if_neg q0] at h
    by_cases q1 : nmD t S 1 = true
    · exact key 1 q1
    · rw [if_neg q1] at h
      by_cases q2 : nmD t S 2 = true
      · exact key 2 q2
      · rw [if_neg q2] at h
        exact absurd rfl h
theorem wd_le {t : Nat → Nat} {S : PS} : wd t S ≤ 3 := by
  unfold wd
  repeat' split
  all_goals omega
theorem it_WS {n : Nat} {t : Nat → Nat} {S : PS} {w : Nat} (h : WS n t S) (hn : ss S = 1) : WS n t (itS n t w S) ∧ sb S < sb (itS n t w S) := by
  have w1 := WS_nx h
  have h2 := h.1.2.2.2.2.1 (by omega)
  unfold itS
  by_cases q0 : w = 0
  · rw [if_pos q0]
    have := WS_wI w1.1
    exact ⟨this.1, by omega⟩
  · rw [if_neg q0]
    by_cases q1 : w = 1
    · rw [if_pos q1]
      have := WS_pI w1.1
      exact ⟨this.1, by omega⟩
    · rw [if_neg q1]
      have := WS_tI w1.1
      exact ⟨this.1, by omega⟩
theorem HD_0 : HD (fun _ => 0) := by
  have n0 : nW (fun _ => 0) = 0 := rfl
  have n1 : nP (fun _ => 0) = 0 := rfl
  have n2 : nT (fun _ => 0) = 0 := rfl
  have n3 : nS (fun _ => 0) = 0 := rfl
  refine ⟨⟨⟨rfl, by omega⟩, ⟨rfl, by omega⟩, ⟨rfl, by omega⟩, ⟨rfl, by omega⟩, fun w hw => by omega, fun w hw => by omega, fun w hw => by omega, fun w hw => by omega⟩, n3⟩
theorem c_read (n : Nat) (t : Nat → Nat) (M : am_M) (hT : TC n t M) (k : Nat) (hk : n < k) : ConP 9 mReader_read [aR 3 0 0] M (fun r M2 => r = some (aI (b2i (sf (mainP n t k 0 ((tk n t 0).1, (tk n t 0).2.1, (tk n t 0).2.2, 0, 0) (fun _ => 0)).1 = 0))) ∧ KH M2 M ∧ RC t (mainP n t k 0 ((tk n t 0).1, (tk n t 0).2.1, (tk n t 0).2.2, 0, 0) (fun _ => 0)).1 M2 ∧ DR (mainP n t k 0 ((tk n t 0).1, (tk n t 0).2.1, (tk n t 0).2.2, 0, 0) (fun _ => 0)).2 (M2 4 1)) := by
  have h500 := hT.1
  refine con_of okReader_read [some (aR 3 0 0), none, none, none] (some .boolean) ?_
  intro J hgo
  generalize hres : mainP n t k 0 ((tk n t 0).1, (tk n t 0).2.1, (tk n t 0).2.2, 0, 0) (fun _ => 0) = res at hgo
  have loop : ∀ k g S h rd rv (z : Option am_V) M2, n - sb S < k → rd ≤ sb S → rv = nI rd → g ≤ 2 → mainP n t k g S h = res → KH M2 M → WS n t S → RC t S M2 → DR h (M2 4 1) → sf S = 0 → J 25 [some (aR 3 0 0), some (aI (nI g)), some (aI rv), z] [] M2 := by
    intro k
    induction k with
    | zero => intro g S h rd rv z M2 h1; exact absurd h1 (Nat.not_lt_zero _)
    | succ k ih =>
      intro g S h rd rv z M2 h1 h2 h3 hg hm hK hS hR hD hf
      subst h3
      have hbn : sb S ≤ n := by have := hS.1.1; have := hS.1.2.1; omega
      have hs4 := hS.1.2.2.1
      have hT2 := TC_KH hT hK
      have w8 := hD.1.1.1.2
      have est : M2 4 1 0 0 = nI (nW h) := by rw [hD.2.1.1, hD.1.1.1.1]
      have e2 : M2 3 0 0 2 = 0 ↔ ss S = 0 := by rw [hR.1]; exact nI_eq (b := 0) (by omega) (by omega)
      have hwl := wd_le (t := t) (S := S)
      have stop : ∀ (S' : PS) (hh : Nat → Int32) (M3 : am_M), (S', hh) = res → KH M3 M → RC t S' M3 → DR hh (M3 4 1) → ¬ sf S' = 0 → sf S' ≤ 3 → J 98 [some (aR 3 0 0), some (aI (nI g)), some (aI (nI rd)), some (aI (wx (wd t S)))] [] M3 := by
        intro S' hh M3 e k3 r3 d3 f3 f4
        subst e
        refine hgo [] _ _ _ _ ?_
        refine brf (show ¬ M3 3 0 0 6 = 0 by rw [r3.2.2.2.1]; exact nI_ne0 (by omega) (by omega)) ?_
        refine ob_ (by decide) ⟨?_, k3, r3, d3⟩
        rw [b2i_f f3]
      have s80 : ∀ (S' : PS) (M3 : am_M), KH M3 M → RC t S' M3 → DR h (M3 4 1) → WS n t S' → ((S' = fl 1 S ∧ (fl 1 S, h) = res) ∨ (S' = S ∧ wd t S < 3 ∧ g ≤ wd t S ∧ (if fuB h (wd t S) = true then (fl 3 S, h) else if sf (itS n t (wd t S) S) = 0 then mainP n t k (wd t S) (itS n t (wd t S) S) (itH n t (wd t S) S h) else (itS n t (wd t S) S, itH n t (wd t S) S h)) = res)) → J 80 [some (aR 3 0 0), some (aI (nI g)), some (aI (nI rd)), some (aI (wx (wd t S)))] [] M3 := by
        intro S' M3 k3 r3 d3 w3 hor
        have hT3 := TC_KH hT k3
        refine hgo [93] _ _ _ _ ?_
        refine cl_ (c_isFull h (wd t S) M3 d3 hwl) ?_
        rcases hor with ⟨rfl, e⟩ | ⟨rfl, hw3, hgw, e⟩
        · have hff : sf (fl 1 S) = 1 := by unfold fl; rw [if_pos hf]; rfl
          have s93 : ∀ M4, KH M4 M → RC t (fl 1 S) M4 → DR h (M4 4 1) → J 93 [some (aR 3 0 0), some (aI (nI g)), some (aI (nI rd)), some (aI (wx (wd t S)))] [] M4 := by
            intro M4 k4 r4 d4
            refine hgo [98] _ _ _ _ ?_
            refine cl_ (c_readOne_f _ M4 (show ¬ M4 3 0 0 6 = 0 by rw [r4.2.2.2.1, hff]; decide)) ?_
            exact stop _ h M4 e k4 r4 d4 (by rw [hff]; decide) (by omega)
          refine brb (fun _ => s93 M3 k3 r3 d3) (fun _ => ?_)
          refine clp (c_fail 3 t (fl 1 S) M3 (by omega) (by omega) r3) ?_
          rintro r M4 ⟨rfl, k4, r4⟩
          have e3 : fl 3 (fl 1 S) = fl 1 S := by
            rw [fl, if_neg (by rw [hff]; decide)]
          rw [e3] at r4
          exact s93 M4 (k3.tr k4.kh) r4 (by rw [k4 4 (by decide)]; exact d3)
        · refine brb (fun q => ?_) (fun q => ?_)
          · rw [if_neg q] at e
            refine hgo [98] _ _ _ _ ?_
            refine clpe (c_readOne n t S' h (wd t S') M3 hT3 w3 r3 d3 hw3 (Bool.eq_false_iff.mpr q) hf) (by
              unfold wx
              rw [if_neg (by omega)]) rfl ?_
            rintro r M4 ⟨rfl, k4, r4, d4⟩
            have hnm := wd_name (t := t) (S := S') (by omega)
            have wit := it_WS (w := wd t S') w3 hnm
            have hbn2 : sb (itS n t (wd t S') S') ≤ n := by have := wit.1.1.1; have := wit.1.1.2.1; omega
            by_cases q2 : sf (itS n t (wd t S') S') = 0
            · rw [if_pos q2] at e
              refine hgo [] _ _ _ _ ?_
              refine brt (show M4 3 0 0 6 = 0 by rw [r4.2.2.2.1, q2]; rfl) ?_
              refine hgo [] _ _ _ _ ?_
              have := ih (wd t S') _ _ (rd + 1) (nI rd + 1) (some (aI (wx (wd t S')))) M4 (by omega) (by omega) (nI_1 rd) (by omega) e (k3.tr k4) wit.1 r4 d4 q2
              have ew : wx (wd t S') = nI (wd t S') := by unfold wx; rw [if_neg (by omega)]
              rw [ew] at this ⊢
              exact this
            · rw [if_neg q2] at e
              exact stop _ _ M4 e (k3.tr k4) r4 d4 q2 wit.1.2
          · rw [if_pos q] at e
            refine clp (c_fail 3 t S' M3 (by omega) (by omega) r3) ?_
            rintro r M4 ⟨rfl, k4, r4⟩
            have hff : sf (fl 3 S') = 3 := by unfold fl; rw [if_pos hf]; rfl
            refine hgo [98] _ _ _ _ ?_
            refine cl_ (c_readOne_f _ M4 (show ¬ M4 3 0 0 6 = 0 by rw [r4.2.2.2.1, hff]; decide)) ?_
            exact stop _ h M4 e (k3.tr k4.kh) r4 (by rw [k4 4 (by decide)]; exact d3) (by rw [hff]; decide) (by omega)
      have s51 : ¬ (ss S = 0 ∧ 0 < nW h) → J 51 [some (aR 3 0 0), some (aI (nI g)), some (aI (nI rd)), z] [] M2 := by
        intro hne
        rw [mainP, if_neg hne] at hm
        have s75 : (wd t S = 3 ∨ wd t S < g ∨ (0 < wd t S ∧ nW h = 0)) → J 75 [some (aR 3 0 0), some (aI (nI g)), some (aI (nI rd)), some (aI (wx (wd t S)))] [] M2 := by
          intro hb
          rw [if_pos hb] at hm
          refine hgo [80] _ _ _ _ ?_
          refine clp (c_fail 1 t S M2 (by omega) (by omega) hR) ?_
          rintro r M3 ⟨rfl, k3, r3⟩
          exact s80 _ M3 (hK.tr k3.kh) r3 (by rw [k3 4 (by decide)]; exact hD) (WS_fl (by omega) hS).1 (Or.inl ⟨rfl, hm⟩)
        have go : ¬ (wd t S = 3 ∨ wd t S < g ∨ (0 < wd t S ∧ nW h = 0)) → J 80 [some (aR 3 0 0), some (aI (nI g)), some (aI (nI rd)), some (aI (wx (wd t S)))] [] M2 := by
          intro hb
          rw [if_neg hb] at hm
          exact s80 S M2 hK hR hD hS (Or.inr ⟨rfl, by omega, by omega, hm⟩)
        refine hgo [56] _ _ _ _ ?_
        refine cl_ (c_word n t S M2 hT2 hS hR) ?_
        refine hgo [75, 80] _ _ _ _ ?_
        by_cases q3 : wd t S = 3
        · refine brt (show wx (wd t S) < nI g by
            unfold wx
            rw [if_pos q3, i3_lt, i3_m1, i3_n (by omega)]
            omega) ?_
          exact s75 (Or.inl q3)
        · have ew : wx (wd t S) = nI (wd t S) := by unfold wx; rw [if_neg q3]
          refine br_ (fun q => ?_) (fun q => ?_)
          · have q : wx (wd t S) < nI g := q
            rw [ew, nI_ltI (by omega) (by omega)] at q
            exact s75 (Or.inr (Or.inl q))
          · have q : ¬ wx (wd t S) < nI g := q
            rw [ew, nI_ltI (by omega) (by omega)] at q
            by_cases q0 : wd t S = 0
            · refine brt (show wx (wd t S) ≤ 0 by rw [ew, q0]; decide) ?_
              exact go (by omega)
            · refine brf (show ¬ wx (wd t S) ≤ 0 by rw [ew]; exact nI_nle (by omega) (by omega)) ?_
              refine cl_ (c_House_stands (nW h) 1 M2 est (by omega)) ?_
              refine brb (fun g2 => ?_) (fun g2 => ?_)
              · exact s75 (Or.inr (Or.inr ⟨by omega, by omega⟩))
              · exact go (by omega)
      refine hgo [51] _ _ _ _ ?_
      refine brf (show ¬ nI 500 < nI rd from nI_nlt (by omega) (by omega)) ?_
      refine br_ (fun q => ?_) (fun q => ?_)
      · have q := e2.mp q
        refine cl_ (c_House_stands (nW h) 1 M2 est (by omega)) ?_
        refine brb (fun g2 => s51 (fun z => g2 z.2)) (fun g2 => ?_)
        rw [mainP, if_pos ⟨q, g2⟩] at hm
        subst hm
        refine ob_ (by decide) ⟨?_, hK, hR, hD⟩
        rw [b2i_t hf]
      · exact s51 (fun z => q (e2.mpr z.1))
  refine hgo [25] _ _ _ _ ?_
  refine clp (c_House_clear 1 M) ?_
  rintro r M1 ⟨rfl, a0, a1, a2, a3⟩
  have hT0 : TC n t M1 := TC_KH hT a0.kh
  have hT1 : TC n t (sA (sA M1 3 0 0 (upd (M1 3 0 0) 6 0)) 3 0 0 (upd ((sA M1 3 0 0 (upd (M1 3 0 0) 6 0)) 3 0 0) 4 0)) := hT0
  have tk0 := tk_in (n := n) (t := t) (e := 0) (by omega)
  refine clp (c_step0 n t 0 0 0 _ hT1 (by omega) rfl rfl (fun q => absurd rfl q)) ?_
  rintro r M2 ⟨rfl, k2, r2⟩
  have k12 : KH M2 M := by
    refine a0.kh.tr ⟨fun k b c => (k2 k b).trans ((sA_k b).trans (sA_k b)), fun i hi => ?_⟩
    rw [k2 4 (by decide)]
    rfl
  refine loop k 0 _ (fun _ => 0) 0 _ _ M2 (by omega) (by omega) rfl (by omega) hres k12 ⟨tk0.2, by show 0 ≤ 3; omega⟩ r2 ⟨HD_0, ?_⟩ rfl
  have e4 : M2 4 = M1 4 := k2 4 (by decide)
  rw [e4]
  exact ⟨⟨a1, fun w hw => absurd hw (by rw [show nW (fun _ => 0) = 0 from rfl]; omega)⟩, ⟨a2, fun w hw => absurd hw (by rw [show nP (fun _ => 0) = 0 from rfl]; omega)⟩, ⟨a3, fun w hw => absurd hw (by rw [show nT (fun _ => 0) = 0 from rfl]; omega)⟩⟩
