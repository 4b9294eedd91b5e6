/-! papers -/
theorem off_in {x : Int32} {c n : Nat} (hc : c < 1000) (hn : n < 1000) : (0 ≤ (x - nI c).toInt ∧ (x - nI c).toInt < n) ↔ (c ≤ x.toInt ∧ x.toInt < c + n) := by
  have hr := i3_rng x
  have e0 := i3_n (n := c) (by omega)
  by_cases h : -2147483648 ≤ x.toInt - (nI c).toInt
  · rw [i3_sub h (by omega), e0]
    omega
  · have e1 : (x - nI c).toInt = x.toInt - c + 4294967296 := by
      rw [Int32.toInt_sub, e0, Int.bmod_def]
      split <;> omega
    rw [e1]
    omega
theorem off_ix {x : Int32} {c : Nat} (hc : c < 1000) (h : c ≤ x.toInt) : x - nI c = nI (x.toInt.toNat - c) := by
  have hr := i3_rng x
  have e0 := i3_n (n := c) (by omega)
  have e1 := i3_n (n := x.toInt.toNat - c) (by omega)
  rw [i3_eq, e1, i3_sub (by omega) (by omega), e0]
  omega
theorem c_Ref_inRings (S : Nat → Nat → Bool) (M : am_M) (hs : ∀ p, p < 10 → M 11 0 9 p = bs (S p)) : Con 1 mRef_inRings [aR 11 0 0] M (some (aI (bs (fun p => S p p)))) M := by
  refine con_of okRef_inRings [some (aR 11 0 0), none, none] (some .int) ?_
  intro J hgo
  have loop : ∀ m i iv x, m = 10 - i → i ≤ 10 → iv = nI i → x = bs (fun p => decide (p < i) && S p p) → J 4 [some (aR 11 0 0), some (aI x), some (aI iv)] [] M := by
    intro m
    induction m with
    | zero =>
      intro i iv x hm hi hv hx
      obtain rfl : i = 10 := by omega
      subst hv
      refine hgo [] _ _ _ _ ?_
      refine brt (by decide) ?_
      refine hgo [] _ _ _ _ ?_
      refine ⟨?_, rfl⟩
      rw [hx]
      congr 2
    | succ m ih =>
      intro i iv x hm hi hv hx
      subst hv
      have hi : i < 10 := by omega
      refine hgo [] _ _ _ _ ?_
      refine brf (nI_ge (b := 10) hi (by omega)) ?_
      refine ob_ (vp_in_nI (by omega) (by omega)) ?_
      refine ih (i + 1) _ _ (by omega) (by omega) (nI_1 i) ?_
      rw [cl_nI (by omega), hs i hi, bs_one hi, bs_and, hx, bs_or]
      apply bs_cong
      intro p hp
      by_cases h1 : p = i
      · subst h1
        simp
      · have h2 : decide (p < i + 1) = decide (p < i) := by
          apply decide_eq_decide.mpr
          omega
        simp [h1, h2]
  refine hgo [4] _ _ _ _ ?_
  exact loop _ 0 _ _ rfl (by omega) rfl (by rw [← bs_0]; exact bs_cong (fun p hp => by simp))
def ppA (x : Int32) (seen ring : Int32) (sure on : Nat → Int32) (w n : Nat) : Int32 := if x = 0 then seen else if x = 1 then ring else if 10 ≤ x.toInt ∧ x.toInt < 10 + n then sure (x.toInt.toNat - 10) else if 30 ≤ x.toInt ∧ x.toInt < 30 + w then on (x.toInt.toNat - 30) else -1000001
theorem c_Main_papers_state (x : Int32) (M : am_M) (hn : M 4 0 0 0 = nI 0) : Con 4 mMain_papers [aR 0 0 0, aI x] M (some (aI (-1000002))) M := by
  refine con_of okMain_papers [some (aR 0 0 0), some (aI x)] (some .int) ?_
  intro J hgo
  refine hgo [] _ _ _ _ ?_
  refine cl_ (c_House_stands 0 0 _ hn (by omega)) ?_
  refine brbf (by omega) ?_
  exact ⟨rfl, rfl⟩
theorem c_Main_papers (w n : Nat) (x : Int32) (M : am_M) (hnw : M 4 0 0 0 = nI w) (hw : 0 < w) (hw8 : w ≤ 8) (hn : M 4 0 0 4 = nI n) (h10 : n ≤ 10) : Con 4 mMain_papers [aR 0 0 0, aI x] M (some (aI (ppA x (M 7 0 0 2) (M 7 0 0 3) (M 7 0 3) (M 7 0 1) w n))) M := by
  refine con_of okMain_papers [some (aR 0 0 0), some (aI x)] (some .int) ?_
  intro J hgo
  have p104 : ¬ x = 0 → ¬ x = 1 → ¬ (10 ≤ x.toInt ∧ x.toInt < 10 + n) → ¬ (30 ≤ x.toInt ∧ x.toInt < 30 + w) → J 104 [some (aR 0 0 0), some (aI x)] [] M := by
    intro h0 h1 h2 h3
    refine hgo [] _ _ _ _ ?_
    refine ⟨?_, rfl⟩
    unfold ppA
    rw [if_neg h0, if_neg h1, if_neg h2, if_neg h3]
  have p71 : ¬ x = 0 → ¬ x = 1 → ¬ (10 ≤ x.toInt ∧ x.toInt < 10 + n) → J 71 [some (aR 0 0 0), some (aI x)] [] M := by
    intro h0 h1 h2
    refine hgo [] _ _ _ _ ?_
    refine br_ (fun h3 => ?_) (fun h3 => ?_)
    · have h3 : x.toInt < 30 := i3_lt.mp h3
      exact p104 h0 h1 h2 (by omega)
    · have h3 : ¬ x.toInt < 30 := fun q => h3 (i3_lt.mpr q)
      refine cl_ (c_House_isWall w 0 _ _ hnw (by omega)) ?_
      refine brb (fun h4 => ?_) (fun h4 => ?_)
      · exact p104 h0 h1 h2 (fun q => h4 ((off_in (c := 30) (by omega) (by omega)).mpr q))
      · have h4 : 30 ≤ x.toInt ∧ x.toInt < 30 + w := (off_in (c := 30) (n := w) (by omega) (by omega)).mp h4
        have h5 := off_ix (x := x) (c := 30) (by omega) (by omega)
        refine ob_ (by rw [show x - 30 = _ from h5]; exact vp_in_nI (by omega) (by omega)) ⟨?_, rfl⟩
        rw [show x - 30 = _ from h5, cl_nI (by omega)]
        unfold ppA
        rw [if_neg h0, if_neg h1, if_neg h2, if_pos h4]
  refine hgo [] _ _ _ _ ?_
  refine cl_ (c_House_stands w 0 _ hnw (by omega)) ?_
  refine brbt hw ?_
  refine hgo [] _ _ _ _ ?_
  refine br_ (fun h0 => ?_) (fun h0 => ?_)
  · refine ⟨?_, rfl⟩
    unfold ppA
    rw [if_pos h0]
  · refine hgo [] _ _ _ _ ?_
    refine br_ (fun h1 => ?_) (fun h1 => ?_)
    · refine ⟨?_, rfl⟩
      unfold ppA
      rw [if_neg h0, if_pos h1]
    · refine hgo [] _ _ _ _ ?_
      refine br_ (fun h2 => ?_) (fun h2 => ?_)
      · have h2 : x.toInt < 10 := i3_lt.mp h2
        exact p71 h0 h1 (by omega)
      · have h2 : ¬ x.toInt < 10 := fun q => h2 (i3_lt.mpr q)
        refine cl_ (c_House_isPaper n 0 _ _ hn (by omega)) ?_
        refine brb (fun h4 => ?_) (fun h4 => ?_)
        · exact p71 h0 h1 (fun q => h4 ((off_in (c := 10) (by omega) (by omega)).mpr q))
        · have h4 : 10 ≤ x.toInt ∧ x.toInt < 10 + n := (off_in (c := 10) (n := n) (by omega) (by omega)).mp h4
          have h5 := off_ix (x := x) (c := 10) (by omega) (by omega)
          refine ob_ (by rw [show x - 10 = _ from h5]; exact vp_in_nI (by omega) (by omega)) ⟨?_, rfl⟩
          rw [show x - 10 = _ from h5, cl_nI (by omega)]
          unfold ppA
          rw [if_neg h0, if_neg h1, if_pos h4]
theorem c_Ref_papers_state (x : Int32) (M : am_M) (hn : M 11 0 0 7 = 0) : Con 4 mRef_papers [aR 11 0 0, aI x] M (some (aI (-1000002))) (rT M) := by
  refine con_of okRef_papers [some (aR 11 0 0), some (aI x)] (some .int) ?_
  intro J hgo
  refine hgo [] _ _ _ _ ?_
  refine brt hn ?_
  exact ⟨rfl, rfl⟩
theorem c_Ref_papers (w n : Nat) (S : Nat → Nat → Bool) (x : Int32) (M : am_M) (hth : M 11 0 0 7 = 1) (hnw : M 11 0 4 0 = nI w) (hw8 : w ≤ 8) (hn : M 11 0 4 1 = nI n) (h10 : n ≤ 10) (hs : ∀ p, p < 10 → M 11 0 9 p = bs (S p)) : Con 4 mRef_papers [aR 11 0 0, aI x] M (some (aI (ppA x (M 11 0 0 18) (bs (fun p => S p p)) (M 11 0 9) (M 11 0 7) w n))) (rT M) := by
  refine con_of okRef_papers [some (aR 11 0 0), some (aI x)] (some .int) ?_
  intro J hgo
  have p24 : x = 0 ∨ x = 1 → J 24 [some (aR 11 0 0), some (aI x)] [] (rT M) := by
    intro h
    refine hgo [] _ _ _ _ ?_
    refine br_ (fun h0 => ?_) (fun h0 => ?_)
    · refine hgo [] _ _ _ _ ?_
      refine ⟨?_, rfl⟩
      unfold ppA
      rw [if_pos h0]
      rfl
    · have h1 : x = 1 := by
        rcases h with h | h
        · exact absurd h h0
        · exact h
      refine hgo [] _ _ _ _ ?_
      refine cl_ (c_Ref_inRings S _ hs) ?_
      refine ⟨?_, rfl⟩
      unfold ppA
      rw [if_neg h0, if_pos h1]
  refine hgo [] _ _ _ _ ?_
  refine brf (show ¬ M 11 0 0 7 = 0 by rw [hth]; decide) ?_
  refine hgo [24] _ _ _ _ ?_
  refine br_ (fun h0 => p24 (Or.inl h0)) (fun h0 => ?_)
  refine br_ (fun h1 => ?_) (fun h1 => ?_)
  · exact p24 (Or.inr h1)
  · refine hgo [] _ _ _ _ ?_
    refine cl_ (c_Ref_isPaper n _ _ hn (by omega)) ?_
    refine brb (fun h4 => ?_) (fun h4 => ?_)
    · have h4 : ¬ (10 ≤ x.toInt ∧ x.toInt < 10 + n) := fun q => h4 ((off_in (c := 10) (by omega) (by omega)).mpr q)
      refine hgo [] _ _ _ _ ?_
      refine cl_ (c_Ref_isWall w _ _ hnw (by omega)) ?_
      refine brb (fun h5 => ?_) (fun h5 => ?_)
      · have h5 : ¬ (30 ≤ x.toInt ∧ x.toInt < 30 + w) := fun q => h5 ((off_in (c := 30) (by omega) (by omega)).mpr q)
        refine hgo [] _ _ _ _ ?_
        refine ⟨?_, rfl⟩
        unfold ppA
        rw [if_neg h0, if_neg h1, if_neg h4, if_neg h5]
      · have h5 : 30 ≤ x.toInt ∧ x.toInt < 30 + w := (off_in (c := 30) (n := w) (by omega) (by omega)).mp h5
        have h6 := off_ix (x := x) (c := 30) (by omega) (by omega)
        refine ob_ (by rw [show x - 30 = _ from h6]; exact vp_in_nI (by omega) (by omega)) ?_
        refine hgo [] _ _ _ _ ?_
        refine ⟨?_, rfl⟩
        rw [show x - 30 = _ from h6, cl_nI (by omega)]
        unfold ppA
        rw [if_neg h0, if_neg h1, if_neg h4, if_pos h5]
        rfl
    · have h4 : 10 ≤ x.toInt ∧ x.toInt < 10 + n := (off_in (c := 10) (n := n) (by omega) (by omega)).mp h4
      have h5 := off_ix (x := x) (c := 10) (by omega) (by omega)
      refine ob_ (by rw [show x - 10 = _ from h5]; exact vp_in_nI (by omega) (by omega)) ?_
      refine hgo [] _ _ _ _ ?_
      refine ⟨?_, rfl⟩
      rw [show x - 10 = _ from h5, cl_nI (by omega)]
      unfold ppA
      rw [if_neg h0, if_neg h1, if_pos h4]
      rfl
theorem op_papers (x : Int32) (M : am_M) (hR : Rel M) : OpAt mMain_papers mRef_papers [aI x] M := by
  obtain ⟨w1, w2, w3⟩ := Rel_nw hR
  obtain ⟨p1, p2, p3⟩ := Rel_np hR
  obtain ⟨-, -, -, ⟨-, -, -, f1, f2, f3, f4⟩, ⟨⟨g1, g2, g3, g4, g5⟩, -⟩, -, -⟩ := id hR
  rcases Rel_there hR with ⟨t1, t2⟩ | ⟨t1, t2⟩
  · rw [t1] at w1
    exact op_mk (c_Main_papers_state x M w1) (c_Ref_papers_state x M t2) (Rel_bad hR)
  · have e : ppA x (M 7 0 0 2) (M 7 0 0 3) (M 7 0 3) (M 7 0 1) (nW (M 11 0 4)) (nP (M 11 0 4)) = ppA x (M 11 0 0 18) (bs (fun p => Su (M 11 0 4) p p)) (M 11 0 9) (M 11 0 7) (nW (M 11 0 4)) (nP (M 11 0 4)) := by
      unfold ppA
      rw [g1, g2, f1]
      have e1 : bs (Ring (M 11 0 4)) = bs (fun p => Su (M 11 0 4) p p) := rfl
      rw [e1]
      by_cases h1 : 10 ≤ x.toInt ∧ x.toInt < 10 + nP (M 11 0 4)
      · rw [if_pos h1, if_pos h1, g5 _ (by omega), f4 _ (by omega)]
      · rw [if_neg h1, if_neg h1]
        by_cases h2 : 30 ≤ x.toInt ∧ x.toInt < 30 + nW (M 11 0 4)
        · rw [if_pos h2, if_pos h2, g3 _ (by omega), f2 _ (by omega)]
        · rw [if_neg h2, if_neg h2]
    refine op_mk (c_Main_papers _ _ x M w1 t1 w3 p1 p3) ?_ (Rel_bad hR) (d2 := 4)
    rw [e]
    exact c_Ref_papers _ _ (Su (M 11 0 4)) x M t2 w2 w3 p2 p3 f4
