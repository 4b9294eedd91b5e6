theorem c_Main_rolls_bad (np nw : Nat) (p y x : Int32) (M : am_M) (hnp : M 4 0 0 4 = nI np) (h10 : np ≤ 10) (hn : M 4 0 0 0 = nI nw) (h8 : nw ≤ 8) (hb : ¬ ((0 ≤ p.toInt ∧ p.toInt < np) ∧ (0 ≤ y.toInt ∧ y.toInt < (2 ^ nw : Nat)) ∧ (0 ≤ x ∧ x ≤ 2))) : Con 4 mMain_rolls [aR 0 0 0, aI p, aI y, aI x] M (some (aI (-1000001))) M := by
  refine con_of okMain_rolls [some (aR 0 0 0), some (aI p), some (aI y), some (aI x)] (some .int) ?_
  intro J hgo
  have p34 : J 34 [some (aR 0 0 0), some (aI p), some (aI y), some (aI x)] [] M := by
    refine hgo [] _ _ _ _ ?_
    exact ⟨rfl, rfl⟩
  refine hgo [34] _ _ _ _ ?_
  refine cl_ (c_House_isPaper np 0 p _ hnp (by omega)) ?_
  refine brb (fun h1 => p34) (fun h1 => ?_)
  refine cle (c_Main_isSetOf y nw M (by omega)) (by show [aI y, aI (M 4 0 0 0)] = _; rw [hn]) rfl ?_
  refine brb (fun h2 => p34) (fun h2 => ?_)
  refine br_ (fun h3 => p34) (fun h3 => ?_)
  refine brf (fun h4 => hb ⟨h1, h2, Int32.not_lt.mp h3, h4⟩) ?_
  exact p34
theorem c_Main_rolls_ok (nw np p kd re : Nat) (wd : Nat → Nat) (f : Nat → Bool) (y x : Int32) (M : am_M) (hn : M 4 0 0 0 = nI nw) (h8 : nw ≤ 8) (hnp : M 4 0 0 4 = nI np) (h10 : np ≤ 10) (hp : p < np) (hy : 0 ≤ y.toInt ∧ y.toInt < (2 ^ nw : Nat)) (hyf : y = bs f) (hx : 0 ≤ x ∧ x ≤ 2) (hk : M 4 0 4 p = nI kd) (hk1 : 1 ≤ kd) (hk5 : kd ≤ 5) (hre : M 4 0 8 p = nI re) (r1 : 1 ≤ re) (r2 : re ≤ 99) (hd : ∀ w, w < nw → M 4 0 2 w = nI (wd w) ∧ wd w ≤ 999) : ConP 4 mMain_rolls [aR 0 0 0, aI (nI p), aI y, aI x] M (fun r M2 => r = some (aI (pick x (rlS kd f (M 4 0 2) (fun w => lenI (M 4 0 3 w) (nI re)) (fun w => (wd w + 49) / 50) nw))) ∧ ∀ k, k ≠ 9 → M2 k = M k) := by
  refine con_of okMain_rolls [some (aR 0 0 0), some (aI (nI p)), some (aI y), some (aI x)] (some .int) ?_
  intro J hgo
  refine hgo [] _ _ _ _ ?_
  refine cl_ (c_House_isPaper np 0 (nI p) _ hnp (by omega)) ?_
  refine brbt (by rw [i3_n (by omega)]; omega) ?_
  refine cle (c_Main_isSetOf y nw M (by omega)) (by show [aI y, aI (M 4 0 0 0)] = _; rw [hn]) rfl ?_
  refine brbt hy ?_
  refine brf (Int32.not_lt.mpr hx.1) ?_
  refine brt hx.2 ?_
  refine hgo [] _ _ _ _ ?_
  refine clpe (c_Cutter_cut nw np p kd re wd f M hn h8 hnp h10 hp hk hk1 hk5 hre r1 r2 hd) (by rw [hyf]) rfl ?_
  rintro r M2 ⟨rfl, q0, q1, q2, q3⟩
  refine br_ (fun h1 => ?_) (fun h1 => ?_)
  · refine ⟨?_, q0⟩
    unfold pick
    rw [if_pos h1, ← q1]
  · refine hgo [] _ _ _ _ ?_
    refine br_ (fun h2 => ?_) (fun h2 => ?_)
    · refine hgo [] _ _ _ _ ?_
      refine ⟨?_, q0⟩
      unfold pick
      rw [if_neg h1, if_pos h2, ← q2]
    · refine hgo [] _ _ _ _ ?_
      refine ⟨?_, q0⟩
      unfold pick
      rw [if_neg h1, if_neg h2, ← q3]
theorem wS_cong {f : Nat → Bool} {a b : Nat → Int32} : ∀ {n : Nat}, (∀ w, w < n → a w = b w) → wS f a n = wS f b n
  | 0, _ => rfl
  | n + 1, h => by
    unfold wS
    rw [wS_cong (fun w hw => h w (by omega)), h n (by omega)]
theorem cW_cong {f : Nat → Bool} {a b : Nat → Int32} {c : Nat → Nat} : ∀ {n : Nat}, (∀ w, w < n → a w = b w) → cW f a c n = cW f b c n
  | 0, _ => rfl
  | n + 1, h => by
    unfold cW
    rw [cW_cong (fun w hw => h w (by omega)), h n (by omega)]
theorem rlS_cong {kd : Nat} {f : Nat → Bool} {a b g h : Nat → Int32} {c : Nat → Nat} {n : Nat} (e1 : ∀ w, w < n → a w = b w) (e2 : ∀ w, w < n → g w = h w) : rlS kd f a g c n = rlS kd f b h c n := by
  unfold rlS
  rw [wS_cong e1, cW_cong e2]
theorem Rel_wallF {M : am_M} (hR : Rel M) : ∀ w, w < nW (M 11 0 4) → M 4 0 1 w = M 11 0 4 (4 + 3 * w) ∧ M 4 0 2 w = M 11 0 4 (5 + 3 * w) ∧ M 4 0 3 w = M 11 0 4 (6 + 3 * w) ∧ ∃ b wd hg : Nat, M 11 0 4 (4 + 3 * w) = nI b ∧ 1700 ≤ b ∧ b ≤ 1999 ∧ M 11 0 4 (5 + 3 * w) = nI wd ∧ 50 ≤ wd ∧ wd ≤ 999 ∧ M 11 0 4 (6 + 3 * w) = nI hg ∧ 100 ≤ hg ∧ hg ≤ 400 := by
  obtain ⟨-, -, -, ⟨hv, hr, -, -⟩, -, -, -⟩ := hR
  intro w hw
  obtain ⟨a1, a2, a3⟩ := hr.1.2 w hw
  exact ⟨a1, a2, a3, hv.2.2.2.2.1 w hw⟩
theorem Rel_off9 {M M1 : am_M} (hR : Rel M) (h : ∀ k, k ≠ 9 → M1 k = M k) : Rel M1 := by
  have h0 := h 0 (by decide)
  have h11 := h 11 (by decide)
  exact Rel_keep hR (by rw [h 1 (by decide)]) (by rw [h 2 (by decide)]) (h 4 (by decide)) (h 5 (by decide)) (by rw [h 7 (by decide)]) (by rw [h 8 (by decide)]) (by rw [h 10 (by decide)]) (fun o _ => by rw [h11]) (fun i _ => by rw [h11]) (by rw [h0]) (by rw [h0, h11]; exact hR.2.2.1.2)
theorem op_rolls (p y x : Int32) (M : am_M) (hR : Rel M) : OpAt mMain_rolls mRef_rolls [aI p, aI y, aI x] M := by
  obtain ⟨w1, w2, w3⟩ := Rel_nw hR
  obtain ⟨p1, p2, p3⟩ := Rel_np hR
  by_cases hb : ((0 ≤ p.toInt ∧ p.toInt < nP (M 11 0 4)) ∧ (0 ≤ y.toInt ∧ y.toInt < (2 ^ nW (M 11 0 4) : Nat)) ∧ (0 ≤ x ∧ x ≤ 2))
  · obtain ⟨b1, b2, b3⟩ := hb
    have hpp := i3_of b1.1
    have hcl := i3_cl b1.1
    have := p2le (show nW (M 11 0 4) < 11 by omega)
    obtain ⟨f, hf, -⟩ := bs_ofx b2.1 (by omega)
    generalize p.toNatClampNeg = q at hpp hcl
    subst hpp
    have hq : q < nP (M 11 0 4) := by omega
    obtain ⟨f1, f2⟩ := Rel_papF hR
    have hw := Rel_wallF hR
    have hwd : ∀ w, w < nW (M 11 0 4) → M 11 0 4 (5 + 3 * w) = nI (hN (M 11 0 4) (5 + 3 * w)) ∧ hN (M 11 0 4) (5 + 3 * w) ≤ 999 := by
      intro w hw2
      obtain ⟨-, -, -, b, wd, hg, -, -, -, e1, -, e2, -⟩ := hw w hw2
      unfold hN
      rw [e1, cl_nI (by omega)]
      exact ⟨rfl, e2⟩
    refine op_mkP (d2 := 4) (v := pick x (rlS (hN (M 11 0 4) (28 + 5 * q)) f (M 4 0 2) (fun w => lenI (M 4 0 3 w) (nI (hN (M 11 0 4) (32 + 5 * q)))) (fun w => (hN (M 11 0 4) (5 + 3 * w) + 49) / 50) (nW (M 11 0 4)))) (c_Main_rolls_ok _ _ q _ _ (fun w => hN (M 11 0 4) (5 + 3 * w)) f y x M w1 w3 p1 p3 hq b2 hf b3 (f1 q hq).1 (f1 q hq).2.2.1 (f1 q hq).2.2.2 (f2 q hq).1 (f2 q hq).2.2.1 (f2 q hq).2.2.2 (fun w hw2 => ⟨by rw [(hw w hw2).2.1]; exact (hwd w hw2).1, (hwd w hw2).2⟩)) ?_
    rintro r M1 ⟨e1, e2⟩
    have h11 := e2 11 (by decide)
    refine ⟨e1, _, c_Ref_rolls_ok (nP (M 11 0 4)) (nW (M 11 0 4)) q (hN (M 11 0 4) (28 + 5 * q)) (hN (M 11 0 4) (32 + 5 * q)) (fun w => hN (M 11 0 4) (5 + 3 * w)) (fun w => M 11 0 4 (6 + 3 * w)) f y x M1 (by rw [h11]; exact p2) p3 (by rw [h11]; exact w2) w3 hq b2 hf b3 (by rw [h11]; exact (f1 q hq).2.1) (f1 q hq).2.2.2 (by rw [h11, show 28 + 5 * q + 4 = 32 + 5 * q by omega]; exact (f2 q hq).2.1) (f2 q hq).2.2.1 (f2 q hq).2.2.2 (fun w hw2 => ?_), ?_⟩
    · rw [h11, show 4 + 3 * w + 1 = 5 + 3 * w by omega, show 4 + 3 * w + 2 = 6 + 3 * w by omega]
      exact ⟨(hwd w hw2).1, (hwd w hw2).2, rfl⟩
    · intro r2 M2 hp2
      obtain ⟨rfl, rfl⟩ := hp2
      refine ⟨?_, Rel_bad (Rel_off9 hR e2)⟩
      have e3 : rlS (hN (M 11 0 4) (28 + 5 * q)) f (M 4 0 2) (fun w => lenI (M 4 0 3 w) (nI (hN (M 11 0 4) (32 + 5 * q)))) (fun w => (hN (M 11 0 4) (5 + 3 * w) + 49) / 50) (nW (M 11 0 4)) = rlS (hN (M 11 0 4) (28 + 5 * q)) f (fun w => nI (hN (M 11 0 4) (5 + 3 * w))) (fun w => lenI (M 11 0 4 (6 + 3 * w)) (nI (hN (M 11 0 4) (32 + 5 * q)))) (fun w => (hN (M 11 0 4) (5 + 3 * w) + 49) / 50) (nW (M 11 0 4)) := by
        refine rlS_cong (fun w hw2 => ?_) (fun w hw2 => ?_)
        · rw [(hw w hw2).2.1, (hwd w hw2).1]
        · rw [(hw w hw2).2.2.1]
      rw [e3]
  · exact op_mk (c_Main_rolls_bad _ _ p y x M p1 p3 w1 w3 hb) (c_Ref_rolls_bad _ _ p y x M p2 p3 w2 w3 hb) (Rel_bad hR)
