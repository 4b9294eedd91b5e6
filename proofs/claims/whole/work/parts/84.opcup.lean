/-! cupboard -/
def sp (h : Nat → Int32) (x : Int32) : Prop := 0 ≤ x.toInt ∧ x.toInt < nS h
def miB (h : Nat → Int32) (s p : Nat) : Bool := On h (wl h s) p && !atB h s (dp h s) p
def mnV (h : Nat → Int32) (f : Nat → Bool) (n : Nat) : Int := - mxF f (fun p => - YL h p) (-9999) n
def mxV (h : Nat → Int32) (f : Nat → Bool) (n : Nat) : Int := mxF f (fun p => YU h p) 0 n
theorem c_isSpot (h : Nat → Int32) (x : Int32) (M : am_M) (c : CF h M) : Con 1 mSpots_isSpot [aR 5 0 0, aI x] M (some (aI (b2i (0 ≤ x.toInt ∧ x.toInt < nS h)))) M :=
  c_Spots_isSpot (nS h) 0 x M (by rw [c.2.1.2.2.2.1, c.1.2.2.2.1.1]) (by have := c.1.2.2.2.1.2; omega)
theorem c_RisSpot (h : Nat → Int32) (x : Int32) (M : am_M) (c : CR h M) : Con 2 mRef_isSpot [aR 11 0 0, aI x] M (some (aI (b2i (0 ≤ x.toInt ∧ x.toInt < nS h)))) M :=
  c_Ref_isSpot (nS h) x M (by rw [c.2.1, c.1.2.2.2.1.1]) (by have := c.1.2.2.2.1.2; omega)
theorem c_missingAt (h : Nat → Int32) (s : Nat) (M : am_M) (c : CF h M) (hs : s < nS h) : Con 4 mFacts_missingAt [aR 7 0 0, aI (nI s)] M (some (aI (bs (miB h s)))) M := by
  obtain ⟨hv, hr, hf, -⟩ := c
  have s9 := hv.2.2.2.1.2
  obtain ⟨a1, a2, a3, a4, a5, a6⟩ := HV_sp hv hs
  obtain ⟨r1, r2, r3⟩ := hr.2.2.2.2 s hs
  have hsc : (nI s).toNatClampNeg = s := cl_nI (by omega)
  have ew : M 5 0 1 (nI s).toNatClampNeg = nI (wl h s) := by rw [hsc, r1, a1]
  have wc : (nI (wl h s)).toNatClampNeg = wl h s := cl_nI (by omega)
  refine con_of okFacts_missingAt [some (aR 7 0 0), some (aI (nI s)), none] (some .int) ?_
  intro J hgo
  refine hgo [] _ _ _ _ ?_
  refine cl_ (c_wall h M hv hr.2.2.2 s hs) ?_
  refine cl_ (c_isWal h M hv hr.1 _) ?_
  refine brbt (nI_bd (HV_sq hv hs).1 (by have := hv.1.2; omega)) ?_
  refine ob_ (vp_in_nI (by omega) (by omega)) ?_
  refine cl_ (c_Facts_at h M hv hr.2.1 hr.2.2.2 s hs) ?_
  refine hgo [] _ _ _ _ ?_
  refine ⟨?_, rfl⟩
  rw [wc, hf.2.2.1 _ a2, bs_andn]
  rfl
theorem c_leastOf (h : Nat → Int32) (f : Nat → Bool) (M : am_M) (c : CF h M) (hn : NoRing h) (hf : ∀ p, p < 10 → f p = true → Seen h p = true) : Con 2 mFacts_leastOf [aR 7 0 0, aI (bs f)] M (some (aI (Int32.ofInt (mnV h f 10)))) M := by
  refine con_of okFacts_leastOf [some (aR 7 0 0), some (aI (bs f)), none, none] (some .int) ?_
  intro J hgo
  have loop : ∀ m p pv y, m = 10 - p → p ≤ 10 → pv = nI p → y.toInt = mnV h f p → J 6 [some (aR 7 0 0), some (aI (bs f)), some (aI y), some (aI pv)] [] M := by
    intro m
    induction m with
    | zero =>
      intro p pv y hm hp hv2 hy
      obtain rfl : p = 10 := by omega
      subst hv2
      refine hgo [] _ _ _ _ ?_
      refine brt (by decide) ?_
      refine hgo [] _ _ _ _ ?_
      exact ⟨by rw [i3_val hy], rfl⟩
    | succ m ih =>
      intro p pv y hm hp hv2 hy
      subst hv2
      have hp10 : p < 10 := by omega
      have hpc : (nI p).toNatClampNeg = p := cl_nI (by omega)
      have nx : ∀ y : Int32, y.toInt = mnV h f (p + 1) → J 31 [some (aR 7 0 0), some (aI (bs f)), some (aI y), some (aI (nI p))] [] M := by
        intro y hy
        refine hgo [] _ _ _ _ ?_
        exact ih (p + 1) _ _ (by omega) (by omega) (nI_1 p) hy
      refine hgo [31] _ _ _ _ ?_
      refine brf (nI_ge (b := 10) hp10 (by omega)) ?_
      refine cl_ (c_Main_has f p M hp10) ?_
      refine brb (fun g => ?_) (fun g => ?_)
      · refine nx _ ?_
        unfold mnV mxF
        rw [if_neg g]
        exact hy
      · have y1 := (CF_y c hn hp10 (hf p hp10 g)).1
        refine ob_ (vp_in_nI (by omega) (by omega)) ?_
        refine cl_ (c_Math_min _ _ _) ?_
        refine nx _ ?_
        unfold mnV at hy ⊢
        unfold mxF
        rw [if_pos g, mn_i, hpc, y1, hy]
        omega
  refine hgo [6] _ _ _ _ ?_
  exact loop _ 0 _ _ rfl (by omega) rfl (show Int32.toInt 9999 = - (-9999 : Int) by decide)
theorem c_mostOf (h : Nat → Int32) (f : Nat → Bool) (M : am_M) (c : CF h M) (hn : NoRing h) (hf : ∀ p, p < 10 → f p = true → Seen h p = true) : Con 2 mFacts_mostOf [aR 7 0 0, aI (bs f)] M (some (aI (Int32.ofInt (mxV h f 10)))) M := by
  refine con_of okFacts_mostOf [some (aR 7 0 0), some (aI (bs f)), none, none] (some .int) ?_
  intro J hgo
  have loop : ∀ m p pv y, m = 10 - p → p ≤ 10 → pv = nI p → y.toInt = mxV h f p → J 4 [some (aR 7 0 0), some (aI (bs f)), some (aI y), some (aI pv)] [] M := by
    intro m
    induction m with
    | zero =>
      intro p pv y hm hp hv2 hy
      obtain rfl : p = 10 := by omega
      subst hv2
      refine hgo [] _ _ _ _ ?_
      refine brt (by decide) ?_
      refine hgo [] _ _ _ _ ?_
      exact ⟨by rw [i3_val hy], rfl⟩
    | succ m ih =>
      intro p pv y hm hp hv2 hy
      subst hv2
      have hp10 : p < 10 := by omega
      have hpc : (nI p).toNatClampNeg = p := cl_nI (by omega)
      have nx : ∀ y : Int32, y.toInt = mxV h f (p + 1) → J 29 [some (aR 7 0 0), some (aI (bs f)), some (aI y), some (aI (nI p))] [] M := by
        intro y hy
        refine hgo [] _ _ _ _ ?_
        exact ih (p + 1) _ _ (by omega) (by omega) (nI_1 p) hy
      refine hgo [29] _ _ _ _ ?_
      refine brf (nI_ge (b := 10) hp10 (by omega)) ?_
      refine cl_ (c_Main_has f p M hp10) ?_
      refine brb (fun g => ?_) (fun g => ?_)
      · refine nx _ ?_
        unfold mxV mxF
        rw [if_neg g]
        exact hy
      · have y1 := (CF_y c hn hp10 (hf p hp10 g)).2
        refine ob_ (vp_in_nI (by omega) (by omega)) ?_
        refine cl_ (c_Math_max _ _ _) ?_
        refine nx _ ?_
        unfold mxV at hy ⊢
        unfold mxF
        rw [if_pos g, mx_i, hpc, y1, hy]
  refine hgo [4] _ _ _ _ ?_
  exact loop _ 0 _ _ rfl (by omega) rfl (show Int32.toInt 0 = (0 : Int) by decide)
theorem c_Main_cup_bad (h : Nat → Int32) (x k : Int32) (M : am_M) (c : CF h M) (hb : ¬ (sp h x ∧ (k = 0 ∨ k = 1))) : Con 5 mMain_cupboard [aR 0 0 0, aI x, aI k] M (some (aI (-1000001))) M := by
  refine con_of okMain_cupboard [some (aR 0 0 0), some (aI x), some (aI k), none] (some .int) ?_
  intro J hgo
  have no : J 18 [some (aR 0 0 0), some (aI x), some (aI k), none] [] M := by
    refine hgo [] _ _ _ _ ?_
    exact ⟨rfl, rfl⟩
  refine hgo [18] _ _ _ _ ?_
  refine cl_ (c_isSpot h x M c) ?_
  refine brb (fun _ => no) (fun g1 => ?_)
  refine cl_ (c_Main_isSwitch k M) ?_
  exact brbf (fun q => hb ⟨g1, q⟩) no
theorem c_Ref_cup_bad (h : Nat → Int32) (x k : Int32) (M : am_M) (c : CR h M) (hb : ¬ (sp h x ∧ (k = 0 ∨ k = 1))) : Con 5 mRef_cupboard [aR 11 0 0, aI x, aI k] M (some (aI (-1000001))) (rT M) := by
  refine con_of okRef_cupboard [some (aR 11 0 0), some (aI x), some (aI k), none, none, none, none] (some .int) ?_
  intro J hgo
  have no : J 23 [some (aR 11 0 0), some (aI x), some (aI k), none, none, none, none] [] (rT M) := by
    refine hgo [] _ _ _ _ ?_
    exact ⟨rfl, rfl⟩
  refine hgo [23] _ _ _ _ ?_
  refine cl_ (c_RisSpot h x _ (CR_T c)) ?_
  refine brb (fun _ => no) (fun g1 => ?_)
  refine cl_ (c_Ref_in k 0 1 _ _ _ rfl (by decide) (by decide) _) ?_
  exact brbf (fun q => hb ⟨g1, swIn.mp q⟩) no
theorem c_Main_cup_ring (h : Nat → Int32) (x k : Int32) (M : am_M) (c : CF h M) (g1 : sp h x) (g2 : k = 0 ∨ k = 1) (hn : ¬ NoRing h) : Con 5 mMain_cupboard [aR 0 0 0, aI x, aI k] M (some (aI (-1000002))) M := by
  refine con_of okMain_cupboard [some (aR 0 0 0), some (aI x), some (aI k), none] (some .int) ?_
  intro J hgo
  refine hgo [] _ _ _ _ ?_
  refine cl_ (c_isSpot h x M c) ?_
  refine brbt g1 ?_
  refine cl_ (c_Main_isSwitch k M) ?_
  refine brbt g2 ?_
  refine hgo [] _ _ _ _ ?_
  refine cl_ (c_hasRing h M c 1 (Or.inr ⟨hn, rfl⟩)) ?_
  refine brf (by decide) ?_
  exact ⟨rfl, rfl⟩
theorem c_Ref_cup_ring (h : Nat → Int32) (x k : Int32) (M : am_M) (c : CR h M) (g1 : sp h x) (g2 : k = 0 ∨ k = 1) (hn : ¬ NoRing h) : Con 5 mRef_cupboard [aR 11 0 0, aI x, aI k] M (some (aI (-1000002))) (rT M) := by
  refine con_of okRef_cupboard [some (aR 11 0 0), some (aI x), some (aI k), none, none, none, none] (some .int) ?_
  intro J hgo
  refine hgo [] _ _ _ _ ?_
  refine cl_ (c_RisSpot h x _ (CR_T c)) ?_
  refine brbt g1 ?_
  refine cl_ (c_Ref_in k 0 1 _ _ _ rfl (by decide) (by decide) _) ?_
  refine brbt (swIn.mpr g2) ?_
  refine hgo [] _ _ _ _ ?_
  refine cl_ (c_inRings h _ (CR_T c)) ?_
  refine brf (fun q => hn (ring_iff.mp q)) ?_
  exact ⟨rfl, rfl⟩
def cuV (h : Nat → Int32) (s k : Nat) : Int32 := if bs (miB h s) = 0 then -1000000 else if k = 0 then Int32.ofInt (mnV h (miB h s) 10) else Int32.ofInt (mxV h (miB h s) 10)
theorem mi_Seen {h : Nat → Int32} {s p : Nat} (g : miB h s p = true) : Seen h p = true := by
  unfold miB at g
  rw [Bool.and_eq_true] at g
  exact On_Seen g.1
theorem c_Main_cup_ok (h : Nat → Int32) (s k : Nat) (M : am_M) (c : CF h M) (hs : s < nS h) (hk : k ≤ 1) (hn : NoRing h) : Con 5 mMain_cupboard [aR 0 0 0, aI (nI s), aI (nI k)] M (some (aI (cuV h s k))) M := by
  have s9 := c.1.2.2.2.1.2
  refine con_of okMain_cupboard [some (aR 0 0 0), some (aI (nI s)), some (aI (nI k)), none] (some .int) ?_
  intro J hgo
  refine hgo [] _ _ _ _ ?_
  refine cl_ (c_isSpot h (nI s) M c) ?_
  refine brbt (by rw [i3_n (by omega)]; omega) ?_
  refine cl_ (c_Main_isSwitch (nI k) M) ?_
  refine brbt (by
    have : k = 0 ∨ k = 1 := by omega
    rcases this with rfl | rfl
    · exact Or.inl rfl
    · exact Or.inr rfl) ?_
  refine hgo [] _ _ _ _ ?_
  refine cl_ (c_hasRing h M c 0 (Or.inl ⟨hn, rfl⟩)) ?_
  refine brt rfl ?_
  refine hgo [] _ _ _ _ ?_
  refine cl_ (c_missingAt h s M c hs) ?_
  refine br_ (fun g => ?_) (fun g => ?_)
  · refine ⟨?_, rfl⟩
    unfold cuV
    rw [if_pos g]
  · refine hgo [] _ _ _ _ ?_
    match k, hk with
    | 0, _ =>
      refine brt rfl ?_
      refine cl_ (c_leastOf h (miB h s) M c hn (fun p _ q => mi_Seen q)) ?_
      refine hgo [] _ _ _ _ ?_
      refine ⟨?_, rfl⟩
      unfold cuV
      rw [if_neg g, if_pos rfl]
    | 1, _ =>
      refine brf (by decide) ?_
      refine hgo [] _ _ _ _ ?_
      refine cl_ (c_mostOf h (miB h s) M c hn (fun p _ q => mi_Seen q)) ?_
      refine ⟨?_, rfl⟩
      unfold cuV
      rw [if_neg g, if_neg (by decide)]
theorem c_Ref_cup_ok (h : Nat → Int32) (s k : Nat) (M : am_M) (c : CR h M) (hs : s < nS h) (hk : k ≤ 1) (hn : NoRing h) : ConP 5 mRef_cupboard [aR 11 0 0, aI (nI s), aI (nI k)] M (fun r M2 => r = some (aI (cuV h s k)) ∧ KY M2 (rT M)) := by
  have hv := c.1
  have s9 := hv.2.2.2.1.2
  obtain ⟨a1, a2, a3, a4, a5, a6⟩ := HV_sp hv hs
  have wc : (nI (wl h s)).toNatClampNeg = wl h s := cl_nI (by omega)
  refine con_of okRef_cupboard [some (aR 11 0 0), some (aI (nI s)), some (aI (nI k)), none, none, none, none] (some .int) ?_
  intro J hgo
  have loop : ∀ M2, KY M2 (rT M) → CR h M2 → YR h M2 → ∀ m p pv x y, m = 10 - p → p ≤ 10 → pv = nI p → x.toInt = mnV h (miB h s) p → y.toInt = mxV h (miB h s) p → J 95 [some (aR 11 0 0), some (aI (nI s)), some (aI (nI k)), some (aI (bs (miB h s))), some (aI x), some (aI y), some (aI pv)] [] M2 := by
    intro M2 hK c2 hY m
    induction m with
    | zero =>
      intro p pv x y hm hp hv2 hx hy
      obtain rfl : p = 10 := by omega
      subst hv2
      refine hgo [] _ _ _ _ ?_
      refine brt (by decide) ?_
      refine hgo [] _ _ _ _ ?_
      refine br_ (fun g => ?_) (fun g => ?_)
      · refine hgo [] _ _ _ _ ?_
        refine ⟨?_, hK⟩
        unfold cuV
        rw [if_pos g]
      · refine hgo [] _ _ _ _ ?_
        match k, hk with
        | 0, _ =>
          refine brt rfl ?_
          refine hgo [] _ _ _ _ ?_
          refine ⟨?_, hK⟩
          unfold cuV
          rw [if_neg g, if_pos rfl, i3_val hx]
        | 1, _ =>
          refine brf (by decide) ?_
          refine hgo [] _ _ _ _ ?_
          refine ⟨?_, hK⟩
          unfold cuV
          rw [if_neg g, if_neg (by decide), i3_val hy]
    | succ m ih =>
      intro p pv x y hm hp hv2 hx hy
      subst hv2
      have hp10 : p < 10 := by omega
      have hpc : (nI p).toNatClampNeg = p := cl_nI (by omega)
      have nx : ∀ x y : Int32, x.toInt = mnV h (miB h s) (p + 1) → y.toInt = mxV h (miB h s) (p + 1) → J 163 [some (aR 11 0 0), some (aI (nI s)), some (aI (nI k)), some (aI (bs (miB h s))), some (aI x), some (aI y), some (aI (nI p))] [] M2 := by
        intro x y hx hy
        refine hgo [] _ _ _ _ ?_
        exact ih (p + 1) _ _ _ (by omega) (by omega) (nI_1 p) hx hy
      refine hgo [135, 163] _ _ _ _ ?_
      refine brf (nI_ge (b := 10) hp10 (by omega)) ?_
      refine cl_ (c_Ref_isIn (miB h s) p M2 hp10) ?_
      refine brb (fun g => ?_) (fun g => ?_)
      · refine nx _ _ ?_ ?_
        · unfold mnV mxF
          rw [if_neg g]
          exact hx
        · unfold mxV mxF
          rw [if_neg g]
          exact hy
      · obtain ⟨y1, y2⟩ := hY p (Seen_in hv (mi_Seen g))
        have e1 : mnV h (miB h s) (p + 1) = min (mnV h (miB h s) p) (YL h p) := by
          unfold mnV
          rw [mxF, if_pos g]
          omega
        have e2 : mxV h (miB h s) (p + 1) = max (mxV h (miB h s) p) (YU h p) := by
          unfold mxV
          rw [mxF, if_pos g]
        have s161 : ∀ x y v : Int32, x.toInt = mnV h (miB h s) (p + 1) → v.toInt = mxV h (miB h s) (p + 1) → J 161 [some (aR 11 0 0), some (aI (nI s)), some (aI (nI k)), some (aI (bs (miB h s))), some (aI x), some (aI y), some (aI (nI p))] [aI v] M2 := by
          intro x y v hx hv3
          refine hgo [163] _ _ _ _ ?_
          exact nx _ _ hx hv3
        have s135 : ∀ x v : Int32, v.toInt = mnV h (miB h s) (p + 1) → J 135 [some (aR 11 0 0), some (aI (nI s)), some (aI (nI k)), some (aI (bs (miB h s))), some (aI x), some (aI y), some (aI (nI p))] [aI v] M2 := by
          intro x v hv3
          refine hgo [161] _ _ _ _ ?_
          refine ob_ (vp_in_nI (by omega) (by omega)) ?_
          rw [hpc]
          refine br_ (fun g2 => ?_) (fun g2 => ?_)
          · rw [i3_le, y2, hy] at g2
            refine hgo [161] _ _ _ _ ?_
            refine s161 _ _ _ hv3 ?_
            rw [hy, e2]
            omega
          · rw [i3_le, y2, hy] at g2
            refine ob_ (vp_in_nI (by omega) (by omega)) ?_
            refine s161 _ _ _ hv3 ?_
            rw [hpc, y2, e2]
            omega
        refine ob_ (vp_in_nI (by omega) (by omega)) ?_
        rw [hpc]
        refine br_ (fun g2 => ?_) (fun g2 => ?_)
        · rw [i3_le, y1, hx] at g2
          refine hgo [135] _ _ _ _ ?_
          refine s135 _ _ ?_
          rw [hx, e1]
          omega
        · rw [i3_le, y1, hx] at g2
          refine ob_ (vp_in_nI (by omega) (by omega)) ?_
          refine s135 _ _ ?_
          rw [hpc, y1, e1]
          omega
  have strip : ∀ M2, KY M2 (rT M) → CR h M2 → YR h M2 → ∀ m j jv x, m = dp h s - j → j ≤ dp h s → jv = nI j → x = bs (fun p => On h (wl h s) p && !atB h s j p) → J 54 [some (aR 11 0 0), some (aI (nI s)), some (aI (nI k)), some (aI x), some (aI jv), none, none] [] M2 := by
    intro M2 hK c2 hY m
    have h4 := c2.2.1
    induction m with
    | zero =>
      intro j jv x hm hj hv2 hx
      have hj : j = dp h s := by omega
      subst hv2 hx
      rw [hj]
      refine hgo [] _ _ _ _ ?_
      refine cl_ (c_manyAt h M2 hv h4 s hs) ?_
      refine brt (nI_le (Nat.le_refl _) (by omega)) ?_
      refine hgo [95] _ _ _ _ ?_
      exact loop M2 hK c2 hY _ 0 _ _ _ rfl (by omega) rfl (show Int32.toInt 9999 = - (-9999 : Int) by decide) (show Int32.toInt 0 = (0 : Int) by decide)
    | succ m ih =>
      intro j jv x hm hj hv2 hx
      subst hv2 hx
      have hlt : j < dp h s := by omega
      have l10 := (a6 j hlt).2
      refine hgo [] _ _ _ _ ?_
      refine cl_ (c_manyAt h M2 hv h4 s hs) ?_
      refine brf (nI_ge hlt (by omega)) ?_
      refine cl_ (c_lies h M2 hv h4 s j hs hlt) ?_
      refine ih (j + 1) _ _ (by omega) (by omega) (nI_1 j) ?_
      rw [bs_one l10, bs_andn]
      apply bs_cong
      intro i hi
      show ((On h (wl h s) i && !atB h s j i) && !decide (i = ly h s j)) = (On h (wl h s) i && !(atB h s j i || (ly h s j == i)))
      have : (ly h s j == i) = decide (i = ly h s j) := by
        by_cases e : i = ly h s j
        · subst e
          simp
        · have e2 : ¬ ly h s j = i := fun q => e q.symm
          simp [e, e2]
      rw [this]
      cases On h (wl h s) i <;> cases atB h s j i <;> cases decide (i = ly h s j) <;> rfl
  refine hgo [] _ _ _ _ ?_
  refine cl_ (c_RisSpot h (nI s) _ (CR_T c)) ?_
  refine brbt (by rw [i3_n (by omega)]; omega) ?_
  refine cl_ (c_Ref_in (nI k) 0 1 _ _ _ rfl (by decide) (by decide) _) ?_
  refine brbt ⟨nI_pos' (by omega), nI_le (b := 1) hk (by omega)⟩ ?_
  refine hgo [] _ _ _ _ ?_
  refine cl_ (c_inRings h _ (CR_T c)) ?_
  refine brt (ring_iff.mpr hn) ?_
  refine hgo [54] _ _ _ _ ?_
  refine clp (c_lay h _ (CR_T c) hn) ?_
  rintro r M2 ⟨rfl, hK, hY⟩
  have c2 := CR_KY (CR_T c) hK
  refine cl_ (c_wallOf h M2 hv c2.2.1 s hs) ?_
  refine ob_ (vp_in_nI (by omega) (by omega)) ?_
  refine strip M2 hK c2 hY _ 0 _ _ rfl (by omega) rfl ?_
  rw [wc, c2.2.2.2.1 _ a2]
  apply bs_cong
  intro i hi
  show _ = (On h (wl h s) i && !false)
  simp
theorem sp_nat {h : Nat → Int32} {x : Int32} (g : sp h x) : ∃ p : Nat, p < nS h ∧ x = nI p := ⟨x.toNatClampNeg, by have := i3_cl g.1; have := g.2; omega, i3_of g.1⟩
theorem op_cupboard (x k : Int32) (M : am_M) (hR : Rel M) : OpAt mMain_cupboard mRef_cupboard [aI x, aI k] M := by
  obtain ⟨c1, c2⟩ := Rel_CF hR
  by_cases hb : sp (M 11 0 4) x ∧ (k = 0 ∨ k = 1)
  · obtain ⟨b1, b2⟩ := hb
    by_cases hr : NoRing (M 11 0 4)
    · obtain ⟨p, hp, rfl⟩ := sp_nat b1
      rcases b2 with rfl | rfl
      · exact op_KY hR (c_Main_cup_ok _ p 0 M c1 hp (by omega) hr) (c_Ref_cup_ok _ p 0 M c2 hp (by omega) hr)
      · exact op_KY hR (c_Main_cup_ok _ p 1 M c1 hp (by omega) hr) (c_Ref_cup_ok _ p 1 M c2 hp (by omega) hr)
    · exact op_mk (c_Main_cup_ring _ x k M c1 b1 b2 hr) (c_Ref_cup_ring _ x k M c2 b1 b2 hr) (Rel_bad hR)
  · exact op_mk (c_Main_cup_bad _ x k M c1 hb) (c_Ref_cup_bad _ x k M c2 hb) (Rel_bad hR)
/-! first -/
theorem c_stands (h : Nat → Int32) (M : am_M) (c : CF h M) : Con 1 mHouse_stands [aR 4 0 0] M (some (aI (b2i (0 < nW h)))) M :=
  c_House_stands (nW h) 0 M (by rw [c.2.1.1.1, c.1.1.1]) (by have := c.1.1.2; omega)
theorem c_Main_first_state (h : Nat → Int32) (x : Int32) (M : am_M) (c : CF h M) (hw : nW h = 0) : Con 3 mMain_first [aR 0 0 0, aI x] M (some (aI (-1000002))) M := by
  refine con_of okMain_first [some (aR 0 0 0), some (aI x)] (some .int) ?_
  intro J hgo
  refine hgo [] _ _ _ _ ?_
  refine cl_ (c_stands h M c) ?_
  refine brbf (by omega) ?_
  exact ⟨rfl, rfl⟩
theorem c_Main_first_bad (h : Nat → Int32) (x : Int32) (M : am_M) (c : CF h M) (hw : 0 < nW h) (hx : x < 0) : Con 3 mMain_first [aR 0 0 0, aI x] M (some (aI (-1000001))) M := by
  refine con_of okMain_first [some (aR 0 0 0), some (aI x)] (some .int) ?_
  intro J hgo
  refine hgo [] _ _ _ _ ?_
  refine cl_ (c_stands h M c) ?_
  refine brbt hw ?_
  refine hgo [] _ _ _ _ ?_
  refine brf (by simp only [i3_lt, i3_le, Int32.reduceToInt] at hx ⊢; omega) ?_
  exact ⟨rfl, rfl⟩
theorem c_Main_first_none (h : Nat → Int32) (x : Int32) (n : Nat) (M : am_M) (c : CF h M) (hw : 0 < nW h) (hx : ¬ x < 0) (hn : M 7 0 0 8 = nI n) (hn2 : n ≤ 10) (hnx : (n : Int) ≤ x.toInt) : Con 3 mMain_first [aR 0 0 0, aI x] M (some (aI (-1000000))) M := by
  refine con_of okMain_first [some (aR 0 0 0), some (aI x)] (some .int) ?_
  intro J hgo
  refine hgo [] _ _ _ _ ?_
  refine cl_ (c_stands h M c) ?_
  refine brbt hw ?_
  refine hgo [] _ _ _ _ ?_
  refine brt (by simp only [i3_lt, i3_le, Int32.reduceToInt] at hx ⊢; omega) ?_
  refine hgo [] _ _ _ _ ?_
  refine brt (show M 7 0 0 8 ≤ x by rw [hn, i3_le, i3_n (by omega)]; exact hnx) ?_
  refine hgo [] _ _ _ _ ?_
  exact ⟨rfl, rfl⟩
theorem c_Main_first_in (h : Nat → Int32) (i n : Nat) (v : Int32) (M : am_M) (c : CF h M) (hw : 0 < nW h) (hn : M 7 0 0 8 = nI n) (hn2 : n ≤ 10) (hi : i < n) (hv : M 7 0 4 i = v) : Con 3 mMain_first [aR 0 0 0, aI (nI i)] M (some (aI v)) M := by
  refine con_of okMain_first [some (aR 0 0 0), some (aI (nI i))] (some .int) ?_
  intro J hgo
  refine hgo [] _ _ _ _ ?_
  refine cl_ (c_stands h M c) ?_
  refine brbt hw ?_
  refine hgo [] _ _ _ _ ?_
  refine brt (nI_pos' (by omega)) ?_
  refine hgo [] _ _ _ _ ?_
  refine brf (show ¬ M 7 0 0 8 ≤ nI i by rw [hn]; exact nI_ge hi (by omega)) ?_
  refine ob_ (vp_in_nI (by omega) (by omega)) ?_
  refine hgo [] _ _ _ _ ?_
  refine ⟨?_, rfl⟩
  rw [cl_nI (by omega), hv]
theorem c_Ref_first_state (x : Int32) (M : am_M) (h : M 11 0 0 7 = 0) : Con 3 mRef_first [aR 11 0 0, aI x] M (some (aI (-1000002))) (rT M) := by
  refine con_of okRef_first [some (aR 11 0 0), some (aI x), none, none, none] (some .int) ?_
  intro J hgo
  refine hgo [] _ _ _ _ ?_
  refine brt h ?_
  exact ⟨rfl, rfl⟩
theorem c_Ref_first_bad (x : Int32) (M : am_M) (h : M 11 0 0 7 = 1) (hx : x < 0) : Con 3 mRef_first [aR 11 0 0, aI x] M (some (aI (-1000001))) (rT M) := by
  refine con_of okRef_first [some (aR 11 0 0), some (aI x), none, none, none] (some .int) ?_
  intro J hgo
  refine hgo [] _ _ _ _ ?_
  refine brf (show ¬ M 11 0 0 7 = 0 by rw [h]; decide) ?_
  refine hgo [] _ _ _ _ ?_
  refine brf (by simp only [i3_lt, i3_le, Int32.reduceToInt] at hx ⊢; omega) ?_
  exact ⟨rfl, rfl⟩
theorem c_Ref_first_ring (h : Nat → Int32) (x : Int32) (M : am_M) (c : CR h M) (ht : M 11 0 0 7 = 1) (hx : ¬ x < 0) (hn : ¬ NoRing h) : Con 3 mRef_first [aR 11 0 0, aI x] M (some (aI (-1000000))) (rT M) := by
  refine con_of okRef_first [some (aR 11 0 0), some (aI x), none, none, none] (some .int) ?_
  intro J hgo
  refine hgo [] _ _ _ _ ?_
  refine brf (show ¬ M 11 0 0 7 = 0 by rw [ht]; decide) ?_
  refine hgo [] _ _ _ _ ?_
  refine brt (by simp only [i3_lt, i3_le, Int32.reduceToInt] at hx ⊢; omega) ?_
  refine hgo [] _ _ _ _ ?_
  refine cl_ (c_inRings h _ (CR_T c)) ?_
  refine brf (fun q => hn (ring_iff.mp q)) ?_
  exact ⟨rfl, rfl⟩
theorem ord_seen {h : Nat → Int32} (hv : HV h) (hn : NoRing h) {m : Nat} {g : Nat → Nat} (hO : OrdG h m g) : bs (gG g m) = bs (Seen h) := by
  apply bs_cong
  intro p hp
  rw [Bool.eq_iff_iff]
  constructor
  · intro q
    obtain ⟨j, hj, e⟩ := exB_iff.mp q
    have e : g j = p := by simpa using e
    rw [← e]
    exact (fo_S (hO.2.1 j hj).2.1).1
  · exact ord_all hv hn hO p hp
theorem ord_ne {h : Nat → Int32} {m : Nat} {g : Nat → Nat} (hO : OrdG h m g) {i : Nat} (hi : i < m) : ¬ bs (gG g i) = bs (Seen h) := by
  intro q
  obtain ⟨h1, h2, -⟩ := fo_S (hO.2.1 i hi).2.1
  have := bs_inj q (g i) (hO.2.1 i hi).1
  rw [h1, h2] at this
  cases this
theorem c_Ref_first_ok (h : Nat → Int32) (x : Int32) (m : Nat) (g : Nat → Nat) (v : Int32) (M : am_M) (c : CR h M) (ht : M 11 0 0 7 = 1) (hx : ¬ x < 0) (hn : NoRing h) (hO : OrdG h m g) (hv : (∃ i, i < m ∧ x = nI i ∧ v = nI (g i)) ∨ ((m : Int) ≤ x.toInt ∧ v = -1000000)) : Con 3 mRef_first [aR 11 0 0, aI x] M (some (aI v)) (rT M) := by
  obtain ⟨hvv, h4, f1, f3, f4, f5⟩ := id c
  have m10 := hO.1
  refine con_of okRef_first [some (aR 11 0 0), some (aI x), none, none, none] (some .int) ?_
  intro J hgo
  have outer : ∀ t i iv y (z : Option am_V), t = m - i → i ≤ m → iv = nI i → y = bs (gG g i) → (∀ j, j < i → ¬ x = nI j) → J 36 [some (aR 11 0 0), some (aI x), some (aI y), some (aI iv), z] [] (rT M) := by
    intro t
    induction t with
    | zero =>
      intro i iv y z hm hi hv2 hy hj
      obtain rfl : i = m := by omega
      subst hv2 hy
      refine hgo [] _ _ _ _ ?_
      refine brt (show bs (gG g i) = M 11 0 0 18 by rw [f1, ord_seen hvv hn hO]) ?_
      refine hgo [] _ _ _ _ ?_
      refine ⟨?_, rfl⟩
      rcases hv with ⟨j, h1, h2, -⟩ | ⟨-, rfl⟩
      · exact absurd h2 (hj j h1)
      · rfl
    | succ t ih =>
      intro i iv y z hm hi hv2 hy hj
      subst hv2 hy
      have hlt : i < m := by omega
      obtain ⟨L1, L2, L3⟩ := hO.2.1 i hlt
      have inner : ∀ t p pv, t = g i - p → p ≤ g i → pv = nI p → J 47 [some (aR 11 0 0), some (aI x), some (aI (bs (gG g i))), some (aI (nI i)), some (aI pv)] [] (rT M) := by
        intro t
        induction t with
        | zero =>
          intro p pv ht hp hv2
          obtain rfl : p = g i := by omega
          subst hv2
          obtain ⟨q1, q2, q3⟩ := fo_S L2
          have hpc : (nI (g i)).toNatClampNeg = g i := cl_nI (by omega)
          refine hgo [] _ _ _ _ ?_
          refine cle (c_Ref_isIn (fun j => Seen h j && !gG g i j) (g i) (rT M) L1) (by show [aI (M 11 0 0 18 &&& (bs (gG g i) ^^^ -1)), aI (nI (g i))] = _; rw [f1, bs_andn]) rfl ?_
          refine brbt (by rw [q1, q2]; rfl) ?_
          refine ob_ (vp_in_nI (by omega) (by omega)) ?_
          refine brt (by
            show M 11 0 8 (nI (g i)).toNatClampNeg &&& (bs (gG g i) ^^^ -1) = 0
            rw [hpc, f4 _ L1, bs_andn, bs_zero]
            intro q hq
            by_cases e : Ah h (g i) q = true
            · rw [q3 q hq e]
              simp
            · rw [Bool.eq_false_iff.mpr e]
              rfl) ?_
          refine hgo [] _ _ _ _ ?_
          by_cases e : nI i = x
          · refine brt e ?_
            refine ⟨?_, rfl⟩
            rcases hv with ⟨j, h1, h2, rfl⟩ | ⟨h1, -⟩
            · rw [h2, nI_eq (by omega) (by omega)] at e
              rw [e]
            · rw [← e, i3_n (by omega)] at h1
              omega
          · refine brf e ?_
            refine hgo [] _ _ _ _ ?_
            refine ih (i + 1) _ _ _ (by omega) (by omega) (nI_1 i) ?_ (fun j hj2 => ?_)
            · rw [bs_one L1, bs_or]
              apply bs_cong
              intro q hq
              show _ = (gG g i q || (g i == q))
              congr 1
              by_cases e2 : q = g i
              · subst e2
                simp
              · have e3 : ¬ g i = q := fun z => e2 z.symm
                simp [e2, e3]
            · by_cases e2 : j = i
              · rw [e2]
                exact fun q => e q.symm
              · exact hj j (by omega)
        | succ t ih2 =>
          intro p pv ht hp hv2
          subst hv2
          have hp10 : p < 10 := by omega
          have hpc : (nI p).toNatClampNeg = p := cl_nI (by omega)
          have hno := L3 p (by omega)
          have nx : J 77 [some (aR 11 0 0), some (aI x), some (aI (bs (gG g i))), some (aI (nI i)), some (aI (nI p))] [] (rT M) := by
            refine hgo [] _ _ _ _ ?_
            exact ih2 (p + 1) _ (by omega) (by omega) (nI_1 p)
          refine hgo [77] _ _ _ _ ?_
          refine cle (c_Ref_isIn (fun j => Seen h j && !gG g i j) p (rT M) hp10) (by show [aI (M 11 0 0 18 &&& (bs (gG g i) ^^^ -1)), aI (nI p)] = _; rw [f1, bs_andn]) rfl ?_
          refine brb (fun _ => nx) (fun g1 => ?_)
          refine ob_ (vp_in_nI (by omega) (by omega)) ?_
          refine brf (fun g2 => ?_) nx
          have g2 : M 11 0 8 (nI p).toNatClampNeg &&& (bs (gG g i) ^^^ -1) = 0 := g2
          rw [hpc, f4 _ hp10, bs_andn, bs_zero] at g2
          rw [Bool.and_eq_true] at g1
          have := fo_mk (S := gG g i) g1.1 (by simpa using g1.2) (fun q hq ha => by
            have := g2 q hq
            rw [ha] at this
            simpa using this)
          rw [hno] at this
          cases this
      refine hgo [47] _ _ _ _ ?_
      refine brf (show ¬ bs (gG g i) = M 11 0 0 18 by rw [f1]; exact ord_ne hO hlt) ?_
      exact inner _ 0 _ rfl (by omega) rfl
  refine hgo [] _ _ _ _ ?_
  refine brf (show ¬ M 11 0 0 7 = 0 by rw [ht]; decide) ?_
  refine hgo [] _ _ _ _ ?_
  refine brt (by simp only [i3_lt, i3_le, Int32.reduceToInt] at hx ⊢; omega) ?_
  refine hgo [] _ _ _ _ ?_
  refine cl_ (c_inRings h _ (CR_T c)) ?_
  refine brt (ring_iff.mpr hn) ?_
  refine hgo [36] _ _ _ _ ?_
  exact outer _ 0 _ _ _ rfl (by omega) rfl (by rw [← bs_0]; rfl) (fun j hj => by omega)
theorem op_first (x : Int32) (M : am_M) (hR : Rel M) : OpAt mMain_first mRef_first [aI x] M := by
  obtain ⟨c1, c2⟩ := Rel_CF hR
  rcases Rel_there hR with ⟨t1, t2⟩ | ⟨t1, t2⟩
  · exact op_mk (c_Main_first_state _ x M c1 t1) (c_Ref_first_state x M t2) (Rel_bad hR)
  · by_cases hx : x < 0
    · exact op_mk (c_Main_first_bad _ x M c1 t1 hx) (c_Ref_first_bad x M t2 hx) (Rel_bad hR)
    · by_cases hr : NoRing (M 11 0 4)
      · obtain ⟨⟨m, g, hO, h8, h4⟩, -⟩ := c1.2.2.2.1 hr
        have m10 := hO.1
        by_cases hm : (m : Int) ≤ x.toInt
        · exact op_mk (c_Main_first_none _ x m M c1 t1 hx h8 m10 hm) (c_Ref_first_ok _ x m g _ M c2 t2 hx hr hO (Or.inr ⟨hm, rfl⟩)) (Rel_bad hR)
        · have hx0 : 0 ≤ x.toInt := by simp only [i3_lt, Int32.reduceToInt] at hx; omega
          have hx1 := i3_of hx0
          have hx2 := i3_cl hx0
          generalize x.toNatClampNeg = i at hx1 hx2
          subst hx1
          have hi : i < m := by omega
          exact op_mk (c_Main_first_in _ i m (nI (g i)) M c1 t1 h8 m10 hi (h4 i hi)) (c_Ref_first_ok _ (nI i) m g _ M c2 t2 hx hr hO (Or.inl ⟨i, hi, rfl, rfl⟩)) (Rel_bad hR)
      · have h8 : M 7 0 0 8 = nI 0 := c1.2.2.2.2 hr
        have hx0 : 0 ≤ x.toInt := by simp only [i3_lt, Int32.reduceToInt] at hx; omega
        exact op_mk (c_Main_first_none _ x 0 M c1 t1 hx h8 (by omega) hx0) (c_Ref_first_ring _ x M c2 t2 hx hr) (Rel_bad hR)
