theorem neN {x : Int32} {m c : Nat} (h : ¬ (0 ≤ x.toInt ∧ x.toInt < m)) (hc : c < m) (hm : m < 1000) : ¬ x = Int32.ofNat c := by
  intro e
  apply h
  rw [e]
  have := i3_n (n := c) (by omega)
  have e2 : (Int32.ofNat c).toInt = (c : Int) := this
  rw [e2]
  omega
theorem lt4 {k : Nat} (h : k < 4) : k = 0 ∨ k = 1 ∨ k = 2 ∨ k = 3 := by omega
theorem lt6 {k : Nat} (h : k < 6) : k = 0 ∨ k = 1 ∨ k = 2 ∨ k = 3 ∨ k = 4 ∨ k = 5 := by omega
/-! paper -/
theorem c_Main_paper_in (n p k : Nat) (M : am_M) (hn : M 4 0 0 4 = nI n) (h10 : n ≤ 10) (hp : p < n) (hk : k < 4) : Con 2 mMain_paper [aR 0 0 0, aI (nI p), aI (nI k)] M (some (aI (M 4 0 (5 + k) p))) M := by
  refine con_of okMain_paper [some (aR 0 0 0), some (aI (nI p)), some (aI (nI k))] (some .int) ?_
  intro J hgo
  refine hgo [] _ _ _ _ ?_
  refine cl_ (c_House_isPaper n 0 _ _ hn (by omega)) ?_
  refine brbt (by rw [i3_n (by omega)]; omega) ?_
  refine hgo [] _ _ _ _ ?_
  rcases lt4 hk with rfl | rfl | rfl | rfl
  · refine brt rfl ?_
    refine hgo [] _ _ _ _ ?_
    refine ob_ (vp_in_nI (by omega) (by omega)) ⟨?_, rfl⟩
    rw [cl_nI (by omega)]
  · refine brf (by decide) ?_
    refine brt rfl ?_
    refine hgo [] _ _ _ _ ?_
    refine ob_ (vp_in_nI (by omega) (by omega)) ⟨?_, rfl⟩
    rw [cl_nI (by omega)]
  · refine brf (by decide) ?_
    refine brf (by decide) ?_
    refine brt rfl ?_
    refine hgo [] _ _ _ _ ?_
    refine ob_ (vp_in_nI (by omega) (by omega)) ⟨?_, rfl⟩
    rw [cl_nI (by omega)]
  · refine brf (by decide) ?_
    refine brf (by decide) ?_
    refine brf (by decide) ?_
    refine brt rfl ?_
    refine hgo [] _ _ _ _ ?_
    refine ob_ (vp_in_nI (by omega) (by omega)) ⟨?_, rfl⟩
    rw [cl_nI (by omega)]
theorem c_Main_paper_out (n : Nat) (x w : Int32) (M : am_M) (hn : M 4 0 0 4 = nI n) (h10 : n ≤ 10) (h : ¬ ((0 ≤ x.toInt ∧ x.toInt < n) ∧ (0 ≤ w.toInt ∧ w.toInt < (4 : Nat)))) : Con 2 mMain_paper [aR 0 0 0, aI x, aI w] M (some (aI (-1000001))) M := by
  refine con_of okMain_paper [some (aR 0 0 0), some (aI x), some (aI w)] (some .int) ?_
  intro J hgo
  refine hgo [] _ _ _ _ ?_
  refine cl_ (c_House_isPaper n 0 _ _ hn (by omega)) ?_
  refine brb (fun h1 => ?_) (fun h1 => ?_)
  · exact ⟨rfl, rfl⟩
  · have h2 : ¬ (0 ≤ w.toInt ∧ w.toInt < (4 : Nat)) := fun q => h ⟨h1, q⟩
    refine hgo [] _ _ _ _ ?_
    refine brf (neN h2 (by omega) (by omega)) ?_
    refine brf (neN h2 (by omega) (by omega)) ?_
    refine brf (neN h2 (by omega) (by omega)) ?_
    refine brf (neN h2 (by omega) (by omega)) ?_
    refine hgo [] _ _ _ _ ?_
    exact ⟨rfl, rfl⟩
theorem c_Ref_paper_in (n p k : Nat) (M : am_M) (hn : M 11 0 4 1 = nI n) (h10 : n ≤ 10) (hp : p < n) (hk : k < 4) : Con 3 mRef_paper [aR 11 0 0, aI (nI p), aI (nI k)] M (some (aI (M 11 0 4 (28 + 5 * p + (1 + k))))) (rT M) := by
  refine con_of okRef_paper [some (aR 11 0 0), some (aI (nI p)), some (aI (nI k))] (some .int) ?_
  intro J hgo
  refine hgo [] _ _ _ _ ?_
  refine cl_ (c_Ref_isPaper n _ _ hn (by omega)) ?_
  refine brbt (by rw [i3_n (by omega)]; omega) ?_
  refine cl_ (c_Ref_in (nI k) 0 3 _ _ _ rfl (by decide) (by decide) _) ?_
  refine brbt ⟨nI_pos' (by omega), nI_le (b := 3) (by omega) (by omega)⟩ ?_
  refine cle (c_Ref_of p (1 + k) (rT M) (by omega) (by omega)) ?_ rfl ?_
  · rw [show (1 : Int32) + nI k = nI (1 + k) from nI_add 1 k]
  · refine hgo [] _ _ _ _ ?_
    exact ⟨rfl, rfl⟩
theorem c_Ref_paper_out (n : Nat) (x w : Int32) (M : am_M) (hn : M 11 0 4 1 = nI n) (h10 : n ≤ 10) (h : ¬ ((0 ≤ x.toInt ∧ x.toInt < n) ∧ (0 ≤ w.toInt ∧ w.toInt < (4 : Nat)))) : Con 3 mRef_paper [aR 11 0 0, aI x, aI w] M (some (aI (-1000001))) (rT M) := by
  refine con_of okRef_paper [some (aR 11 0 0), some (aI x), some (aI w)] (some .int) ?_
  intro J hgo
  refine hgo [] _ _ _ _ ?_
  refine cl_ (c_Ref_isPaper n _ _ hn (by omega)) ?_
  refine brb (fun h1 => ?_) (fun h1 => ?_)
  · refine hgo [] _ _ _ _ ?_
    exact ⟨rfl, rfl⟩
  · refine cl_ (c_Ref_in w 0 3 _ _ _ rfl (by decide) (by decide) _) ?_
    refine brbf (fun q => h ⟨h1, ?_⟩) ?_
    · (simp only [vp_in_iff, i3_lt, i3_le, i3_eq, Int32.reduceToInt, i3_m1] at q ⊢ <;> omega)
    · refine hgo [] _ _ _ _ ?_
      exact ⟨rfl, rfl⟩
theorem op_paper (x w : Int32) (M : am_M) (hR : Rel M) : OpAt mMain_paper mRef_paper [aI x, aI w] M := by
  obtain ⟨h1, h2, h3⟩ := Rel_np hR
  by_cases h : (0 ≤ x.toInt ∧ x.toInt < nP (M 11 0 4)) ∧ (0 ≤ w.toInt ∧ w.toInt < (4 : Nat))
  · obtain ⟨p, hp, rfl⟩ := intN h.1
    obtain ⟨k, hk, rfl⟩ := intN h.2
    have hc := c_Main_paper_in _ p k M h1 h3 hp hk
    have e0 : M 4 0 (5 + k) p = M 11 0 4 (28 + 5 * p + (1 + k)) := by
      obtain ⟨-, g1, g2, g3, g4⟩ := hR.2.2.2.1.2.1.2.1.2 p hp
      rcases lt4 hk with rfl | rfl | rfl | rfl
      · exact g1.trans (congrArg _ (by omega))
      · exact g2.trans (congrArg _ (by omega))
      · exact g3.trans (congrArg _ (by omega))
      · exact g4.trans (congrArg _ (by omega))
    rw [e0] at hc
    exact op_mk hc (c_Ref_paper_in _ p k M h2 h3 hp hk) (Rel_bad hR)
  · exact op_mk (c_Main_paper_out _ x w M h1 h3 h) (c_Ref_paper_out _ x w M h2 h3 h) (Rel_bad hR)
/-! spot -/
theorem c_Spots_layer (j n s k d : Nat) (M : am_M) (hn : M 5 j 0 0 = nI n) (h9 : n ≤ 9) (hs : s < n) (hd : M 5 j 2 s = nI d) (h8 : d ≤ 8) (hk : k < d) : Con 2 mSpots_layer [aR 5 j 0, aI (nI s), aI (nI k)] M (some (aI (M 5 j 3 (8 * s + k)))) M := by
  have e0 : nI s * 8 + nI k = nI (8 * s + k) := by
    show nI s * nI 8 + nI k = _
    rw [pk_mul, nI_add, Nat.mul_comm]
  refine con_of okSpots_layer [some (aR 5 j 0), some (aI (nI s)), some (aI (nI k))] (some .int) ?_
  intro J hgo
  refine hgo [] _ _ _ _ ?_
  refine cl_ (c_Spots_isSpot n j _ _ hn (by omega)) ?_
  refine brbt (by rw [i3_n (by omega)]; omega) ?_
  refine brf (nI_pos (by omega)) ?_
  refine ob_ (vp_in_nI (by omega) (by omega)) ?_
  refine brt (show nI k < M 5 j 2 (nI s).toNatClampNeg by rw [cl_nI (by omega), hd]; exact nI_lt hk (by omega)) ?_
  refine hgo [] _ _ _ _ ?_
  refine ob_ (by rw [e0]; exact vp_in_nI (by omega) (by omega)) ⟨?_, rfl⟩
  rw [e0, cl_nI (by omega)]
theorem c_Spots_layer_out (j n s d : Nat) (k : Int32) (M : am_M) (hn : M 5 j 0 0 = nI n) (h9 : n ≤ 9) (hs : s < n) (hd : M 5 j 2 s = nI d) (h8 : d ≤ 8) (hk : (d : Int) ≤ k.toInt) : Con 2 mSpots_layer [aR 5 j 0, aI (nI s), aI k] M (some (aI (-1000000))) M := by
  refine con_of okSpots_layer [some (aR 5 j 0), some (aI (nI s)), some (aI k)] (some .int) ?_
  intro J hgo
  refine hgo [] _ _ _ _ ?_
  refine cl_ (c_Spots_isSpot n j _ _ hn (by omega)) ?_
  refine brbt (by rw [i3_n (by omega)]; omega) ?_
  refine brf (by simp only [i3_lt, Int32.reduceToInt]; omega) ?_
  refine ob_ (vp_in_nI (by omega) (by omega)) ?_
  refine brf (show ¬ k < M 5 j 2 (nI s).toNatClampNeg by rw [cl_nI (by omega), hd]; simp only [i3_lt]; rw [i3_n (by omega)]; omega) ?_
  exact ⟨rfl, rfl⟩
theorem c_Spots_wall (j n s : Nat) (M : am_M) (hn : M 5 j 0 0 = nI n) (h9 : n ≤ 9) (hs : s < n) : Con 2 mSpots_wall [aR 5 j 0, aI (nI s)] M (some (aI (M 5 j 1 s))) M := by
  refine con_of okSpots_wall [some (aR 5 j 0), some (aI (nI s))] (some .int) ?_
  intro J hgo
  refine hgo [] _ _ _ _ ?_
  refine cl_ (c_Spots_isSpot n j _ _ hn (by omega)) ?_
  refine brbt (by rw [i3_n (by omega)]; omega) ?_
  refine ob_ (vp_in_nI (by omega) (by omega)) ?_
  refine hgo [] _ _ _ _ ?_
  refine ⟨?_, rfl⟩
  rw [cl_nI (by omega)]
theorem c_Main_spot_bad (n : Nat) (x k : Int32) (M : am_M) (hn : M 5 0 0 0 = nI n) (h9 : n ≤ 9) (h : ¬ ((0 ≤ x.toInt ∧ x.toInt < n) ∧ -1 ≤ k.toInt)) : Con 3 mMain_spot [aR 0 0 0, aI x, aI k] M (some (aI (-1000001))) M := by
  refine con_of okMain_spot [some (aR 0 0 0), some (aI x), some (aI k)] (some .int) ?_
  intro J hgo
  refine hgo [] _ _ _ _ ?_
  refine cl_ (c_Spots_isSpot n 0 _ _ hn (by omega)) ?_
  refine brb (fun h1 => ?_) (fun h1 => ?_)
  · refine hgo [] _ _ _ _ ?_
    exact ⟨rfl, rfl⟩
  · refine brf (fun q => h ⟨h1, ?_⟩) ?_
    · (simp only [vp_in_iff, i3_lt, i3_le, i3_eq, Int32.reduceToInt, i3_m1] at q ⊢ <;> omega)
    · exact ⟨rfl, rfl⟩
theorem c_Main_spot_wall (n s : Nat) (M : am_M) (hn : M 5 0 0 0 = nI n) (h9 : n ≤ 9) (hs : s < n) : Con 3 mMain_spot [aR 0 0 0, aI (nI s), aI (-1)] M (some (aI (M 5 0 1 s))) M := by
  refine con_of okMain_spot [some (aR 0 0 0), some (aI (nI s)), some (aI (-1))] (some .int) ?_
  intro J hgo
  refine hgo [] _ _ _ _ ?_
  refine cl_ (c_Spots_isSpot n 0 _ _ hn (by omega)) ?_
  refine brbt (by rw [i3_n (by omega)]; omega) ?_
  refine brt (by decide) ?_
  refine hgo [] _ _ _ _ ?_
  refine brt rfl ?_
  refine cl_ (c_Spots_wall 0 n s _ hn h9 hs) ?_
  refine hgo [] _ _ _ _ ?_
  exact ⟨rfl, rfl⟩
theorem c_Main_spot_in (n s k d : Nat) (M : am_M) (hn : M 5 0 0 0 = nI n) (h9 : n ≤ 9) (hs : s < n) (hd : M 5 0 2 s = nI d) (h8 : d ≤ 8) (hk : k < d) : Con 3 mMain_spot [aR 0 0 0, aI (nI s), aI (nI k)] M (some (aI (M 5 0 3 (8 * s + k)))) M := by
  have e1 := i3_n (n := k) (by omega)
  refine con_of okMain_spot [some (aR 0 0 0), some (aI (nI s)), some (aI (nI k))] (some .int) ?_
  intro J hgo
  refine hgo [] _ _ _ _ ?_
  refine cl_ (c_Spots_isSpot n 0 _ _ hn (by omega)) ?_
  refine brbt (by rw [i3_n (by omega)]; omega) ?_
  refine brt (by simp only [i3_le, i3_m1]; omega) ?_
  refine hgo [] _ _ _ _ ?_
  refine brf (by simp only [i3_eq, i3_m1]; omega) ?_
  refine hgo [] _ _ _ _ ?_
  refine cl_ (c_Spots_layer 0 n s k d _ hn h9 hs hd h8 hk) ?_
  exact ⟨rfl, rfl⟩
theorem c_Main_spot_out (n s d : Nat) (k : Int32) (M : am_M) (hn : M 5 0 0 0 = nI n) (h9 : n ≤ 9) (hs : s < n) (hd : M 5 0 2 s = nI d) (h8 : d ≤ 8) (hk : (d : Int) ≤ k.toInt) : Con 3 mMain_spot [aR 0 0 0, aI (nI s), aI k] M (some (aI (-1000000))) M := by
  refine con_of okMain_spot [some (aR 0 0 0), some (aI (nI s)), some (aI k)] (some .int) ?_
  intro J hgo
  refine hgo [] _ _ _ _ ?_
  refine cl_ (c_Spots_isSpot n 0 _ _ hn (by omega)) ?_
  refine brbt (by rw [i3_n (by omega)]; omega) ?_
  refine brt (by simp only [i3_le, i3_m1]; omega) ?_
  refine hgo [] _ _ _ _ ?_
  refine brf (by simp only [i3_eq, i3_m1]; omega) ?_
  refine hgo [] _ _ _ _ ?_
  refine cl_ (c_Spots_layer_out 0 n s d k _ hn h9 hs hd h8 hk) ?_
  exact ⟨rfl, rfl⟩
theorem c_Ref_spot_bad (n : Nat) (x k : Int32) (M : am_M) (hn : M 11 0 4 3 = nI n) (h9 : n ≤ 9) (h : ¬ ((0 ≤ x.toInt ∧ x.toInt < n) ∧ -1 ≤ k.toInt)) : Con 3 mRef_spot [aR 11 0 0, aI x, aI k] M (some (aI (-1000001))) (rT M) := by
  refine con_of okRef_spot [some (aR 11 0 0), some (aI x), some (aI k)] (some .int) ?_
  intro J hgo
  refine hgo [] _ _ _ _ ?_
  refine cl_ (c_Ref_isSpot n _ _ hn (by omega)) ?_
  refine brb (fun h1 => ?_) (fun h1 => ?_)
  · refine hgo [] _ _ _ _ ?_
    exact ⟨rfl, rfl⟩
  · refine brf (fun q => h ⟨h1, ?_⟩) ?_
    · (simp only [vp_in_iff, i3_lt, i3_le, i3_eq, Int32.reduceToInt, i3_m1] at q ⊢ <;> omega)
    · exact ⟨rfl, rfl⟩
theorem c_Ref_spot_wall (n s : Nat) (M : am_M) (hn : M 11 0 4 3 = nI n) (h9 : n ≤ 9) (hs : s < n) : Con 3 mRef_spot [aR 11 0 0, aI (nI s), aI (-1)] M (some (aI (M 11 0 4 (108 + 10 * s)))) (rT M) := by
  refine con_of okRef_spot [some (aR 11 0 0), some (aI (nI s)), some (aI (-1))] (some .int) ?_
  intro J hgo
  refine hgo [] _ _ _ _ ?_
  refine cl_ (c_Ref_isSpot n _ _ hn (by omega)) ?_
  refine brbt (by rw [i3_n (by omega)]; omega) ?_
  refine brt (by decide) ?_
  refine hgo [] _ _ _ _ ?_
  refine brf (by decide) ?_
  refine cl_ (c_Ref_wallOf s _ (by omega)) ?_
  refine hgo [] _ _ _ _ ?_
  exact ⟨rfl, rfl⟩
theorem c_Ref_spot_in (n s k d : Nat) (M : am_M) (hn : M 11 0 4 3 = nI n) (h9 : n ≤ 9) (hs : s < n) (hd : M 11 0 4 (109 + 10 * s) = nI d) (h8 : d ≤ 8) (hk : k < d) : Con 3 mRef_spot [aR 11 0 0, aI (nI s), aI (nI k)] M (some (aI (M 11 0 4 (110 + 10 * s + k)))) (rT M) := by
  have e1 := i3_n (n := k) (by omega)
  refine con_of okRef_spot [some (aR 11 0 0), some (aI (nI s)), some (aI (nI k))] (some .int) ?_
  intro J hgo
  refine hgo [] _ _ _ _ ?_
  refine cl_ (c_Ref_isSpot n _ _ hn (by omega)) ?_
  refine brbt (by rw [i3_n (by omega)]; omega) ?_
  refine brt (by simp only [i3_le, i3_m1]; omega) ?_
  refine hgo [] _ _ _ _ ?_
  refine brt (nI_pos' (by omega)) ?_
  refine hgo [] _ _ _ _ ?_
  refine cl_ (c_Ref_manyAt s _ (by omega)) ?_
  refine brf (show ¬ M 11 0 4 (109 + 10 * s) ≤ nI k by rw [hd]; exact nI_ge hk (by omega)) ?_
  refine cl_ (c_Ref_lies s k _ (by omega) (by omega)) ?_
  refine hgo [] _ _ _ _ ?_
  exact ⟨rfl, rfl⟩
theorem c_Ref_spot_out (n s d : Nat) (k : Int32) (M : am_M) (hn : M 11 0 4 3 = nI n) (h9 : n ≤ 9) (hs : s < n) (hd : M 11 0 4 (109 + 10 * s) = nI d) (h8 : d ≤ 8) (hk : (d : Int) ≤ k.toInt) : Con 3 mRef_spot [aR 11 0 0, aI (nI s), aI k] M (some (aI (-1000000))) (rT M) := by
  refine con_of okRef_spot [some (aR 11 0 0), some (aI (nI s)), some (aI k)] (some .int) ?_
  intro J hgo
  refine hgo [] _ _ _ _ ?_
  refine cl_ (c_Ref_isSpot n _ _ hn (by omega)) ?_
  refine brbt (by rw [i3_n (by omega)]; omega) ?_
  refine brt (by simp only [i3_le, i3_m1]; omega) ?_
  refine hgo [] _ _ _ _ ?_
  refine brt (by simp only [i3_le, Int32.reduceToInt]; omega) ?_
  refine hgo [] _ _ _ _ ?_
  refine cl_ (c_Ref_manyAt s _ (by omega)) ?_
  refine brt (show M 11 0 4 (109 + 10 * s) ≤ k by rw [hd]; simp only [i3_le]; rw [i3_n (by omega)]; omega) ?_
  refine hgo [] _ _ _ _ ?_
  exact ⟨rfl, rfl⟩
/-- a spot of both -/
theorem Rel_spot {M : am_M} (hR : Rel M) {s : Nat} (hs : s < nS (M 11 0 4)) : M 5 0 1 s = M 11 0 4 (108 + 10 * s) ∧ M 11 0 4 (108 + 10 * s) = nI (wl (M 11 0 4) s) ∧ wl (M 11 0 4) s < nW (M 11 0 4) ∧ M 5 0 2 s = nI (dp (M 11 0 4) s) ∧ M 11 0 4 (109 + 10 * s) = nI (dp (M 11 0 4) s) ∧ 1 ≤ dp (M 11 0 4) s ∧ dp (M 11 0 4) s ≤ 8 ∧ ∀ k, k < dp (M 11 0 4) s → M 5 0 3 (8 * s + k) = M 11 0 4 (110 + 10 * s + k) ∧ M 11 0 4 (110 + 10 * s + k) = nI (ly (M 11 0 4) s k) ∧ ly (M 11 0 4) s k < nP (M 11 0 4) := by
  obtain ⟨hv, ⟨-, -, -, hss⟩, -⟩ := hR.2.2.2.1
  obtain ⟨g1, g2, g3, g4, g5, g6⟩ := hv.2.2.2.2.2.2.2 s hs
  obtain ⟨q1, q2, q3⟩ := hss.2 s hs
  exact ⟨q1, g1, g2, q2.trans g3, g3, g4, g5, fun k hk => ⟨q3 k hk, (g6 k hk).1, (g6 k hk).2⟩⟩
theorem op_spot (x k : Int32) (M : am_M) (hR : Rel M) : OpAt mMain_spot mRef_spot [aI x, aI k] M := by
  obtain ⟨h1, h2, h3⟩ := Rel_ns hR
  by_cases h : (0 ≤ x.toInt ∧ x.toInt < nS (M 11 0 4)) ∧ -1 ≤ k.toInt
  · obtain ⟨s, hs, rfl⟩ := intN h.1
    obtain ⟨g1, g2, g3, g4, g5, g6, g7, g8⟩ := Rel_spot hR hs
    by_cases hk : k = -1
    · subst hk
      have hc := c_Main_spot_wall _ s M h1 h3 hs
      rw [g1] at hc
      exact op_mk hc (c_Ref_spot_wall _ s M h2 h3 hs) (Rel_bad hR)
    · have hk2 : ¬ k.toInt = -1 := by rw [← i3_m1]; exact fun q => hk (Int32.toInt_inj.mp q)
      by_cases hk3 : k.toInt < dp (M 11 0 4) s
      · obtain ⟨q, hq, rfl⟩ := intN (a := k) (m := dp (M 11 0 4) s) (by omega)
        have hc := c_Main_spot_in _ s q _ M h1 h3 hs g4 g7 hq
        rw [(g8 q hq).1] at hc
        exact op_mk hc (c_Ref_spot_in _ s q _ M h2 h3 hs g5 g7 hq) (Rel_bad hR)
      · exact op_mk (c_Main_spot_out _ s _ k M h1 h3 hs g4 g7 (by omega)) (c_Ref_spot_out _ s _ k M h2 h3 hs g5 g7 (by omega)) (Rel_bad hR)
  · exact op_mk (c_Main_spot_bad _ x k M h1 h3 h) (c_Ref_spot_bad _ x k M h2 h3 h) (Rel_bad hR)
