/-! years of one paper -/
theorem mx_i (x y : Int32) : (if x < y then y else x).toInt = max x.toInt y.toInt := by
  by_cases h : x < y
  · rw [if_pos h]
    have := i3_lt.mp h
    omega
  · rw [if_neg h]
    have : ¬ x.toInt < y.toInt := fun q => h (i3_lt.mpr q)
    omega
theorem mn_i (x y : Int32) : (if y < x then y else x).toInt = min x.toInt y.toInt := by
  by_cases h : y < x
  · rw [if_pos h]
    have := i3_lt.mp h
    omega
  · rw [if_neg h]
    have : ¬ y.toInt < x.toInt := fun q => h (i3_lt.mpr q)
    omega
theorem hN_i {h : Nat → Int32} {i n : Nat} (e : h i = nI n) (hn : n < 1000000) : (h i).toInt = (hN h i : Int) := by
  unfold hN
  rw [e, cl_nI hn, i3_n (by omega)]
theorem c_dateLeast (h : Nat → Int32) (p : Nat) (M : am_M) (hv : HV h) (hw : RHw (M 4 0) h) (hpp : RHp (M 4 0) h) (hp : p < nP h) (hon : ∀ w, w < 8 → M 7 0 1 w = bs (On h w)) (hah : M 7 0 2 p = bs (Ah h p)) (hL : ∀ q, q < 10 → Ah h p q = true → (M 7 0 5 q).toInt = YL h q ∧ 0 ≤ YL h q ∧ YL h q < 5000) : ConP 2 mFacts_dateLeast [aR 7 0 0, aI (nI p)] M (fun r M2 => r = none ∧ ∃ v, M2 = sA M 7 0 5 (upd (M 7 0 5) p v) ∧ v.toInt = mxF (Ah h p) (fun q => YL h q + 1) (bL h p) 10) := by
  obtain ⟨⟨v0, w8⟩, ⟨v1, p10⟩, -, -, vw, vp, -, -⟩ := id hv
  have hpc : (nI p).toNatClampNeg = p := cl_nI (by omega)
  have en : M 4 0 0 0 = nI (nW h) := by rw [hw.1, v0]
  refine con_of okFacts_dateLeast [some (aR 7 0 0), some (aI (nI p)), none, none] none ?_
  intro J hgo
  have l2 : ∀ m c cv x, m = 10 - c → c ≤ 10 → cv = nI c → x.toInt = mxF (Ah h p) (fun q => YL h q + 1) (bL h p) c → J 58 [some (aR 7 0 0), some (aI (nI p)), some (aI x), some (aI cv)] [] M := by
    intro m
    induction m with
    | zero =>
      intro c cv x hm hc hv2 hx
      obtain rfl : c = 10 := by omega
      subst hv2
      refine hgo [] _ _ _ _ ?_
      refine brt (by decide) ?_
      refine hgo [] _ _ _ _ ?_
      refine ob_ (vp_in_nI (by omega) (by omega)) ?_
      exact ⟨rfl, x, by rw [hpc], hx⟩
    | succ m ih =>
      intro c cv x hm hc hv2 hx
      subst hv2
      have hc10 : c < 10 := by omega
      have hcc : (nI c).toNatClampNeg = c := cl_nI (by omega)
      have nx : ∀ x, x.toInt = mxF (Ah h p) (fun q => YL h q + 1) (bL h p) (c + 1) → J 90 [some (aR 7 0 0), some (aI (nI p)), some (aI x), some (aI (nI c))] [] M := by
        intro x hx
        refine hgo [] _ _ _ _ ?_
        exact ih (c + 1) _ _ (by omega) (by omega) (nI_1 c) hx
      refine hgo [90] _ _ _ _ ?_
      refine brf (nI_ge (b := 10) hc10 (by omega)) ?_
      refine ob_ (vp_in_nI (by omega) (by omega)) ?_
      refine cle (c_Main_has (Ah h p) c M hc10) (by rw [hpc, hah]) rfl ?_
      refine brb (fun g1 => ?_) (fun g1 => ?_)
      · refine nx _ ?_
        unfold mxF
        rw [if_neg g1]
        exact hx
      · obtain ⟨e1, e2, e3⟩ := hL c hc10 g1
        refine ob_ (vp_in_nI (by omega) (by omega)) ?_
        refine cl_ (c_Math_max _ _ _) ?_
        refine nx _ ?_
        unfold mxF
        have o1 : Int32.toInt 1 = 1 := by decide
        rw [if_pos g1, mx_i, hcc, i3_add (by rw [e1, o1]; omega) (by rw [e1, o1]; omega), e1, o1, hx]
  have l1 : ∀ m c cv x, m = nW h - c → c ≤ nW h → cv = nI c → x.toInt = mxF (fun w => On h w p) (fun w => (hN h (4 + 3 * w) : Int)) (hN h (29 + 5 * p) : Int) c → J 12 [some (aR 7 0 0), some (aI (nI p)), some (aI x), some (aI cv)] [] M := by
    intro m
    induction m with
    | zero =>
      intro c cv x hm hc hv2 hx
      have hc : c = nW h := by omega
      subst hv2
      refine hgo [] _ _ _ _ ?_
      refine brt (by show M 4 0 0 0 ≤ nI c; rw [en, hc]; exact nI_le (Nat.le_refl _) (by omega)) ?_
      refine hgo [58] _ _ _ _ ?_
      rw [hc] at hx
      exact l2 _ 0 _ _ rfl (by omega) rfl hx
    | succ m ih =>
      intro c cv x hm hc hv2 hx
      subst hv2
      have hlt : c < nW h := by omega
      have hcc : (nI c).toNatClampNeg = c := cl_nI (by omega)
      obtain ⟨b, wd, hg, b1, b2, b3, -⟩ := vw c hlt
      have nx : ∀ x, x.toInt = mxF (fun w => On h w p) (fun w => (hN h (4 + 3 * w) : Int)) (hN h (29 + 5 * p) : Int) (c + 1) → J 50 [some (aR 7 0 0), some (aI (nI p)), some (aI x), some (aI (nI c))] [] M := by
        intro x hx
        refine hgo [] _ _ _ _ ?_
        exact ih (c + 1) _ _ (by omega) (by omega) (nI_1 c) hx
      refine hgo [50] _ _ _ _ ?_
      refine brf (by show ¬ M 4 0 0 0 ≤ nI c; rw [en]; exact nI_ge hlt (by omega)) ?_
      refine ob_ (vp_in_nI (by omega) (by omega)) ?_
      refine cle (c_Main_has (On h c) p M (by omega)) (by rw [hcc, hon c (by omega)]) rfl ?_
      refine brb (fun g1 => ?_) (fun g1 => ?_)
      · refine nx _ ?_
        unfold mxF
        rw [if_neg g1]
        exact hx
      · refine ob_ (vp_in_nI (by omega) (by omega)) ?_
        refine cl_ (c_Math_max _ _ _) ?_
        refine nx _ ?_
        unfold mxF
        rw [if_pos g1, mx_i, hcc, (hw.2 c hlt).1, hN_i b1 (by omega), hx]
  obtain ⟨kd, md, la, pr, re, -, -, -, m1, m2, m3, -⟩ := vp p hp
  refine hgo [12] _ _ _ _ ?_
  refine ob_ (vp_in_nI (by omega) (by omega)) ?_
  refine l1 _ 0 _ _ rfl (by omega) rfl ?_
  rw [hpc, (hpp.2 p hp).2.1, hN_i m1 (by omega)]
  rfl
