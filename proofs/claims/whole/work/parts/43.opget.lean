/-! small questions -/
theorem inM1 {n : Nat} (h : n < 1000) {w : Int32} : (0 ≤ w ∧ w ≤ nI n - 1) ↔ (0 ≤ w.toInt ∧ w.toInt < n) := by
  have e0 := i3_n (n := n) (by omega)
  have e1 : (1 : Int32).toInt = 1 := by decide
  simp only [i3_le, Int32.reduceToInt]
  rw [i3_sub (by rw [e0, e1]; omega) (by rw [e0, e1]; omega), e0, e1]
  omega
theorem inLt {n : Nat} (h : n < 1000) {w : Int32} : (0 ≤ w ∧ w < nI n) ↔ (0 ≤ w.toInt ∧ w.toInt < n) := by
  have e0 := i3_n (n := n) (by omega)
  simp only [i3_le, i3_lt, Int32.reduceToInt]
  rw [e0]
theorem c_House_isWall0 (j : Nat) (w : Int32) (M : am_M) : Con 1 mHouse_isWall [aR 4 j 0, aI w] M (some (aI (b2i (0 ≤ w ∧ w < M 4 j 0 0)))) M := by
  refine con_of okHouse_isWall [some (aR 4 j 0), some (aI w)] (some .boolean) ?_
  intro J hgo
  refine hgo [] _ _ _ _ ?_
  refine br_ (fun h1 => ?_) (fun h1 => ?_)
  · skip
    refine hgo [] _ _ _ _ ?_
    refine ob_ (by first | decide | exact nar_b) ?_
    (first | exact ⟨rfl, rfl⟩ | (refine ⟨?_, rfl⟩; (first | rfl | (simp [b2i, h1]; done) | (rw [b2i_t]; simp only [vp_in_iff, i3_lt, i3_le, i3_eq, Int32.reduceToInt, i3_m1] at h1 ⊢ <;> omega) | (rw [b2i_f]; simp only [vp_in_iff, i3_lt, i3_le, i3_eq, Int32.reduceToInt, i3_m1] at h1 ⊢ <;> omega) | (exfalso; simp only [vp_in_iff, i3_lt, i3_le, i3_eq, Int32.reduceToInt, i3_m1] at h1; omega))))   -- leaf1
  · skip
    refine br_ (fun h2 => ?_) (fun h2 => ?_)
    · skip
      refine hgo [] _ _ _ _ ?_
      refine ob_ (by first | decide | exact nar_b) ?_
      (first | exact ⟨rfl, rfl⟩ | (refine ⟨?_, rfl⟩; (first | rfl | (simp [b2i, h1, h2]; done) | (rw [b2i_t]; simp only [vp_in_iff, i3_lt, i3_le, i3_eq, Int32.reduceToInt, i3_m1] at h1 h2 ⊢ <;> omega) | (rw [b2i_f]; simp only [vp_in_iff, i3_lt, i3_le, i3_eq, Int32.reduceToInt, i3_m1] at h1 h2 ⊢ <;> omega) | (exfalso; simp only [vp_in_iff, i3_lt, i3_le, i3_eq, Int32.reduceToInt, i3_m1] at h1 h2; omega))))   -- leaf2
    · skip
      refine hgo [] _ _ _ _ ?_
      refine ob_ (by first | decide | exact nar_b) ?_
      (first | exact ⟨rfl, rfl⟩ | (refine ⟨?_, rfl⟩; (first | rfl | (simp [b2i, h1, h2]; done) | (rw [b2i_t]; simp only [vp_in_iff, i3_lt, i3_le, i3_eq, Int32.reduceToInt, i3_m1] at h1 h2 ⊢ <;> omega) | (rw [b2i_f]; simp only [vp_in_iff, i3_lt, i3_le, i3_eq, Int32.reduceToInt, i3_m1] at h1 h2 ⊢ <;> omega) | (exfalso; simp only [vp_in_iff, i3_lt, i3_le, i3_eq, Int32.reduceToInt, i3_m1] at h1 h2; omega))))   -- leaf3
theorem c_House_isPaper0 (j : Nat) (w : Int32) (M : am_M) : Con 1 mHouse_isPaper [aR 4 j 0, aI w] M (some (aI (b2i (0 ≤ w ∧ w < M 4 j 0 4)))) M := by
  refine con_of okHouse_isPaper [some (aR 4 j 0), some (aI w)] (some .boolean) ?_
  intro J hgo
  refine hgo [] _ _ _ _ ?_
  refine br_ (fun h1 => ?_) (fun h1 => ?_)
  · skip
    refine hgo [] _ _ _ _ ?_
    refine ob_ (by first | decide | exact nar_b) ?_
    (first | exact ⟨rfl, rfl⟩ | (refine ⟨?_, rfl⟩; (first | rfl | (simp [b2i, h1]; done) | (rw [b2i_t]; simp only [vp_in_iff, i3_lt, i3_le, i3_eq, Int32.reduceToInt, i3_m1] at h1 ⊢ <;> omega) | (rw [b2i_f]; simp only [vp_in_iff, i3_lt, i3_le, i3_eq, Int32.reduceToInt, i3_m1] at h1 ⊢ <;> omega) | (exfalso; simp only [vp_in_iff, i3_lt, i3_le, i3_eq, Int32.reduceToInt, i3_m1] at h1; omega))))   -- leaf1
  · skip
    refine br_ (fun h2 => ?_) (fun h2 => ?_)
    · skip
      refine hgo [] _ _ _ _ ?_
      refine ob_ (by first | decide | exact nar_b) ?_
      (first | exact ⟨rfl, rfl⟩ | (refine ⟨?_, rfl⟩; (first | rfl | (simp [b2i, h1, h2]; done) | (rw [b2i_t]; simp only [vp_in_iff, i3_lt, i3_le, i3_eq, Int32.reduceToInt, i3_m1] at h1 h2 ⊢ <;> omega) | (rw [b2i_f]; simp only [vp_in_iff, i3_lt, i3_le, i3_eq, Int32.reduceToInt, i3_m1] at h1 h2 ⊢ <;> omega) | (exfalso; simp only [vp_in_iff, i3_lt, i3_le, i3_eq, Int32.reduceToInt, i3_m1] at h1 h2; omega))))   -- leaf2
    · skip
      refine hgo [] _ _ _ _ ?_
      refine ob_ (by first | decide | exact nar_b) ?_
      (first | exact ⟨rfl, rfl⟩ | (refine ⟨?_, rfl⟩; (first | rfl | (simp [b2i, h1, h2]; done) | (rw [b2i_t]; simp only [vp_in_iff, i3_lt, i3_le, i3_eq, Int32.reduceToInt, i3_m1] at h1 h2 ⊢ <;> omega) | (rw [b2i_f]; simp only [vp_in_iff, i3_lt, i3_le, i3_eq, Int32.reduceToInt, i3_m1] at h1 h2 ⊢ <;> omega) | (exfalso; simp only [vp_in_iff, i3_lt, i3_le, i3_eq, Int32.reduceToInt, i3_m1] at h1 h2; omega))))   -- leaf3
theorem c_House_stands0 (j : Nat) (M : am_M) : Con 1 mHouse_stands [aR 4 j 0] M (some (aI (b2i (0 < M 4 j 0 0)))) M := by
  refine con_of okHouse_stands [some (aR 4 j 0)] (some .boolean) ?_
  intro J hgo
  refine hgo [] _ _ _ _ ?_
  refine br_ (fun h1 => ?_) (fun h1 => ?_)
  · skip
    refine hgo [] _ _ _ _ ?_
    refine ob_ (by first | decide | exact nar_b) ?_
    (first | exact ⟨rfl, rfl⟩ | (refine ⟨?_, rfl⟩; (first | rfl | (simp [b2i, h1]; done) | (rw [b2i_t]; simp only [vp_in_iff, i3_lt, i3_le, i3_eq, Int32.reduceToInt, i3_m1] at h1 ⊢ <;> omega) | (rw [b2i_f]; simp only [vp_in_iff, i3_lt, i3_le, i3_eq, Int32.reduceToInt, i3_m1] at h1 ⊢ <;> omega) | (exfalso; simp only [vp_in_iff, i3_lt, i3_le, i3_eq, Int32.reduceToInt, i3_m1] at h1; omega))))   -- leaf1
  · skip
    refine hgo [] _ _ _ _ ?_
    refine ob_ (by first | decide | exact nar_b) ?_
    (first | exact ⟨rfl, rfl⟩ | (refine ⟨?_, rfl⟩; (first | rfl | (simp [b2i, h1]; done) | (rw [b2i_t]; simp only [vp_in_iff, i3_lt, i3_le, i3_eq, Int32.reduceToInt, i3_m1] at h1 ⊢ <;> omega) | (rw [b2i_f]; simp only [vp_in_iff, i3_lt, i3_le, i3_eq, Int32.reduceToInt, i3_m1] at h1 ⊢ <;> omega) | (exfalso; simp only [vp_in_iff, i3_lt, i3_le, i3_eq, Int32.reduceToInt, i3_m1] at h1; omega))))   -- leaf2
theorem c_Spots_isSpot0 (j : Nat) (w : Int32) (M : am_M) : Con 1 mSpots_isSpot [aR 5 j 0, aI w] M (some (aI (b2i (0 ≤ w ∧ w < M 5 j 0 0)))) M := by
  refine con_of okSpots_isSpot [some (aR 5 j 0), some (aI w)] (some .boolean) ?_
  intro J hgo
  refine hgo [] _ _ _ _ ?_
  refine br_ (fun h1 => ?_) (fun h1 => ?_)
  · skip
    refine hgo [] _ _ _ _ ?_
    refine ob_ (by first | decide | exact nar_b) ?_
    (first | exact ⟨rfl, rfl⟩ | (refine ⟨?_, rfl⟩; (first | rfl | (simp [b2i, h1]; done) | (rw [b2i_t]; simp only [vp_in_iff, i3_lt, i3_le, i3_eq, Int32.reduceToInt, i3_m1] at h1 ⊢ <;> omega) | (rw [b2i_f]; simp only [vp_in_iff, i3_lt, i3_le, i3_eq, Int32.reduceToInt, i3_m1] at h1 ⊢ <;> omega) | (exfalso; simp only [vp_in_iff, i3_lt, i3_le, i3_eq, Int32.reduceToInt, i3_m1] at h1; omega))))   -- leaf1
  · skip
    refine br_ (fun h2 => ?_) (fun h2 => ?_)
    · skip
      refine hgo [] _ _ _ _ ?_
      refine ob_ (by first | decide | exact nar_b) ?_
      (first | exact ⟨rfl, rfl⟩ | (refine ⟨?_, rfl⟩; (first | rfl | (simp [b2i, h1, h2]; done) | (rw [b2i_t]; simp only [vp_in_iff, i3_lt, i3_le, i3_eq, Int32.reduceToInt, i3_m1] at h1 h2 ⊢ <;> omega) | (rw [b2i_f]; simp only [vp_in_iff, i3_lt, i3_le, i3_eq, Int32.reduceToInt, i3_m1] at h1 h2 ⊢ <;> omega) | (exfalso; simp only [vp_in_iff, i3_lt, i3_le, i3_eq, Int32.reduceToInt, i3_m1] at h1 h2; omega))))   -- leaf2
    · skip
      refine hgo [] _ _ _ _ ?_
      refine ob_ (by first | decide | exact nar_b) ?_
      (first | exact ⟨rfl, rfl⟩ | (refine ⟨?_, rfl⟩; (first | rfl | (simp [b2i, h1, h2]; done) | (rw [b2i_t]; simp only [vp_in_iff, i3_lt, i3_le, i3_eq, Int32.reduceToInt, i3_m1] at h1 h2 ⊢ <;> omega) | (rw [b2i_f]; simp only [vp_in_iff, i3_lt, i3_le, i3_eq, Int32.reduceToInt, i3_m1] at h1 h2 ⊢ <;> omega) | (exfalso; simp only [vp_in_iff, i3_lt, i3_le, i3_eq, Int32.reduceToInt, i3_m1] at h1 h2; omega))))   -- leaf3
theorem c_House_isWall (n j : Nat) (w : Int32) (M : am_M) (hn : M 4 j 0 0 = nI n) (h : n < 1000) : Con 1 mHouse_isWall [aR 4 j 0, aI w] M (some (aI (b2i (0 ≤ w.toInt ∧ w.toInt < n)))) M := by
  have := c_House_isWall0 j w M
  rw [hn, b2i_iff (inLt h)] at this
  exact this
theorem c_House_isPaper (n j : Nat) (w : Int32) (M : am_M) (hn : M 4 j 0 4 = nI n) (h : n < 1000) : Con 1 mHouse_isPaper [aR 4 j 0, aI w] M (some (aI (b2i (0 ≤ w.toInt ∧ w.toInt < n)))) M := by
  have := c_House_isPaper0 j w M
  rw [hn, b2i_iff (inLt h)] at this
  exact this
theorem c_House_stands (n j : Nat) (M : am_M) (hn : M 4 j 0 0 = nI n) (h : n < 1000) : Con 1 mHouse_stands [aR 4 j 0] M (some (aI (b2i (0 < n)))) M := by
  have := c_House_stands0 j M
  rw [hn, b2i_iff (q := 0 < n) (by simp only [i3_lt, Int32.reduceToInt]; rw [i3_n (by omega)]; omega)] at this
  exact this
theorem c_Spots_isSpot (n j : Nat) (w : Int32) (M : am_M) (hn : M 5 j 0 0 = nI n) (h : n < 1000) : Con 1 mSpots_isSpot [aR 5 j 0, aI w] M (some (aI (b2i (0 ≤ w.toInt ∧ w.toInt < n)))) M := by
  have := c_Spots_isSpot0 j w M
  rw [hn, b2i_iff (inLt h)] at this
  exact this
/-! of the reference -/
theorem c_Ref_isWall (n : Nat) (w : Int32) (M : am_M) (hn : M 11 0 4 0 = nI n) (h : n < 1000) : Con 2 mRef_isWall [aR 11 0 0, aI w] M (some (aI (b2i (0 ≤ w.toInt ∧ w.toInt < n)))) M := by
  refine con_of okRef_isWall [some (aR 11 0 0), some (aI w)] (some .boolean) ?_
  intro J hgo
  refine hgo [] _ _ _ _ ?_
  refine ob_ (vp_in_nI (n := 0) (N := 198) (by omega) (by omega)) ?_
  refine cl_ (c_Ref_in w 0 (M 11 0 4 0 - 1) _ _ _ rfl (by decide) rfl _) ?_
  refine ob_ nar_b ⟨?_, rfl⟩
  rw [hn, b2i_iff (inM1 h)]
theorem c_Ref_isPaper (n : Nat) (w : Int32) (M : am_M) (hn : M 11 0 4 1 = nI n) (h : n < 1000) : Con 2 mRef_isPaper [aR 11 0 0, aI w] M (some (aI (b2i (0 ≤ w.toInt ∧ w.toInt < n)))) M := by
  refine con_of okRef_isPaper [some (aR 11 0 0), some (aI w)] (some .boolean) ?_
  intro J hgo
  refine hgo [] _ _ _ _ ?_
  refine ob_ (vp_in_nI (n := 1) (N := 198) (by omega) (by omega)) ?_
  refine cl_ (c_Ref_in w 0 (M 11 0 4 1 - 1) _ _ _ rfl (by decide) rfl _) ?_
  refine ob_ nar_b ⟨?_, rfl⟩
  rw [hn, b2i_iff (inM1 h)]
theorem c_Ref_isSpot (n : Nat) (w : Int32) (M : am_M) (hn : M 11 0 4 3 = nI n) (h : n < 1000) : Con 2 mRef_isSpot [aR 11 0 0, aI w] M (some (aI (b2i (0 ≤ w.toInt ∧ w.toInt < n)))) M := by
  refine con_of okRef_isSpot [some (aR 11 0 0), some (aI w)] (some .boolean) ?_
  intro J hgo
  refine hgo [] _ _ _ _ ?_
  refine ob_ (vp_in_nI (n := 3) (N := 198) (by omega) (by omega)) ?_
  refine cl_ (c_Ref_in w 0 (M 11 0 4 3 - 1) _ _ _ rfl (by decide) rfl _) ?_
  refine ob_ nar_b ⟨?_, rfl⟩
  rw [hn, b2i_iff (inM1 h)]
theorem c_Ref_wall (w k : Nat) (M : am_M) (hw : w < 8) (hk : k < 3) : Con 1 mRef_wall [aR 11 0 0, aI (nI w), aI (nI k)] M (some (aI (M 11 0 4 (4 + 3 * w + k)))) M := by
  have e0 : 4 + 3 * nI w + nI k = nI (4 + 3 * w + k) := by
    show nI 4 + nI 3 * nI w + nI k = _
    rw [pk_mul, nI_add, nI_add]
  refine con_of okRef_wall [some (aR 11 0 0), some (aI (nI w)), some (aI (nI k))] (some .int) ?_
  intro J hgo
  refine hgo [] _ _ _ _ ?_
  refine ob_ (by rw [e0]; exact vp_in_nI (by omega) (by omega)) ⟨?_, rfl⟩
  rw [e0, cl_nI (by omega)]
theorem c_Ref_of (w k : Nat) (M : am_M) (hw : w < 10) (hk : k < 5) : Con 1 mRef_of [aR 11 0 0, aI (nI w), aI (nI k)] M (some (aI (M 11 0 4 (28 + 5 * w + k)))) M := by
  have e0 : 28 + 5 * nI w + nI k = nI (28 + 5 * w + k) := by
    show nI 28 + nI 5 * nI w + nI k = _
    rw [pk_mul, nI_add, nI_add]
  refine con_of okRef_of [some (aR 11 0 0), some (aI (nI w)), some (aI (nI k))] (some .int) ?_
  intro J hgo
  refine hgo [] _ _ _ _ ?_
  refine ob_ (by rw [e0]; exact vp_in_nI (by omega) (by omega)) ⟨?_, rfl⟩
  rw [e0, cl_nI (by omega)]
theorem c_Ref_lies (s k : Nat) (M : am_M) (hs : s < 9) (hk : k < 8) : Con 1 mRef_lies [aR 11 0 0, aI (nI s), aI (nI k)] M (some (aI (M 11 0 4 (110 + 10 * s + k)))) M := by
  have e0 : 108 + 10 * nI s + 2 + nI k = nI (110 + 10 * s + k) := by
    show nI 108 + nI 10 * nI s + nI 2 + nI k = _
    rw [pk_mul, nI_add, nI_add, nI_add]
    congr 1
    omega
  refine con_of okRef_lies [some (aR 11 0 0), some (aI (nI s)), some (aI (nI k))] (some .int) ?_
  intro J hgo
  refine hgo [] _ _ _ _ ?_
  refine ob_ (by rw [e0]; exact vp_in_nI (by omega) (by omega)) ⟨?_, rfl⟩
  rw [e0, cl_nI (by omega)]
theorem c_Ref_wallOf (s : Nat) (M : am_M) (hs : s < 9) : Con 1 mRef_wallOf [aR 11 0 0, aI (nI s)] M (some (aI (M 11 0 4 (108 + 10 * s)))) M := by
  have e0 : 108 + 10 * nI s = nI (108 + 10 * s) := by
    show nI 108 + nI 10 * nI s = _
    rw [pk_mul, nI_add]
  refine con_of okRef_wallOf [some (aR 11 0 0), some (aI (nI s))] (some .int) ?_
  intro J hgo
  refine hgo [] _ _ _ _ ?_
  refine ob_ (by rw [e0]; exact vp_in_nI (by omega) (by omega)) ⟨?_, rfl⟩
  rw [e0, cl_nI (by omega)]
theorem c_Ref_manyAt (s : Nat) (M : am_M) (hs : s < 9) : Con 1 mRef_manyAt [aR 11 0 0, aI (nI s)] M (some (aI (M 11 0 4 (109 + 10 * s)))) M := by
  have e0 : 108 + 10 * nI s + 1 = nI (109 + 10 * s) := by
    show nI 108 + nI 10 * nI s + nI 1 = _
    rw [pk_mul, nI_add, nI_add]
    congr 1
    omega
  refine con_of okRef_manyAt [some (aR 11 0 0), some (aI (nI s))] (some .int) ?_
  intro J hgo
  refine hgo [] _ _ _ _ ?_
  refine ob_ (by rw [e0]; exact vp_in_nI (by omega) (by omega)) ⟨?_, rfl⟩
  rw [e0, cl_nI (by omega)]
/-! fault, status -/
theorem c_Main_fault (M : am_M) : Con 1 mMain_fault [aR 0 0 0] M (some (aI (M 0 0 0 11))) M := by
  refine con_of okMain_fault [some (aR 0 0 0)] (some .int) ?_
  intro J hgo
  refine hgo [] _ _ _ _ ?_
  (first | exact ⟨rfl, rfl⟩ | (refine ⟨?_, rfl⟩; (first | rfl | (simp [b2i]; done) | (rw [b2i_t]; simp only [vp_in_iff, i3_lt, i3_le, i3_eq, Int32.reduceToInt, i3_m1] <;> omega) | (rw [b2i_f]; simp only [vp_in_iff, i3_lt, i3_le, i3_eq, Int32.reduceToInt, i3_m1] <;> omega))))   -- leaf1
theorem c_Ref_fault (M : am_M) : Con 1 mRef_fault [aR 11 0 0] M (some (aI (M 11 0 0 10))) (rT M) := by
  refine con_of okRef_fault [some (aR 11 0 0)] (some .int) ?_
  intro J hgo
  refine hgo [] _ _ _ _ ?_
  (first | exact ⟨rfl, rfl⟩ | (refine ⟨?_, rfl⟩; (first | rfl | (simp [b2i]; done) | (rw [b2i_t]; simp only [vp_in_iff, i3_lt, i3_le, i3_eq, Int32.reduceToInt, i3_m1] <;> omega) | (rw [b2i_f]; simp only [vp_in_iff, i3_lt, i3_le, i3_eq, Int32.reduceToInt, i3_m1] <;> omega))))   -- leaf1
theorem c_Main_status (M : am_M) : Con 1 mMain_status [aR 0 0 0] M (some (aI (M 0 0 0 12))) M := by
  refine con_of okMain_status [some (aR 0 0 0)] (some .int) ?_
  intro J hgo
  refine hgo [] _ _ _ _ ?_
  (first | exact ⟨rfl, rfl⟩ | (refine ⟨?_, rfl⟩; (first | rfl | (simp [b2i]; done) | (rw [b2i_t]; simp only [vp_in_iff, i3_lt, i3_le, i3_eq, Int32.reduceToInt, i3_m1] <;> omega) | (rw [b2i_f]; simp only [vp_in_iff, i3_lt, i3_le, i3_eq, Int32.reduceToInt, i3_m1] <;> omega))))   -- leaf1
theorem c_Ref_status (M : am_M) : Con 1 mRef_status [aR 11 0 0] M (some (aI (M 11 0 0 1))) (rT M) := by
  refine con_of okRef_status [some (aR 11 0 0)] (some .int) ?_
  intro J hgo
  refine hgo [] _ _ _ _ ?_
  (first | exact ⟨rfl, rfl⟩ | (refine ⟨?_, rfl⟩; (first | rfl | (simp [b2i]; done) | (rw [b2i_t]; simp only [vp_in_iff, i3_lt, i3_le, i3_eq, Int32.reduceToInt, i3_m1] <;> omega) | (rw [b2i_f]; simp only [vp_in_iff, i3_lt, i3_le, i3_eq, Int32.reduceToInt, i3_m1] <;> omega))))   -- leaf1
theorem op_fault (M : am_M) (hR : Rel M) : OpAt mMain_fault mRef_fault [] M := by
  have h := c_Main_fault M
  rw [hR.2.2.1.1] at h
  exact op_mk h (c_Ref_fault M) (Rel_bad hR)
theorem op_status (M : am_M) (hR : Rel M) : OpAt mMain_status mRef_status [] M := by
  have h := c_Main_status M
  rw [hR.2.2.1.2] at h
  exact op_mk h (c_Ref_status M) (Rel_bad hR)
/-! trace -/
theorem c_Main_trace_in (n : Nat) (i : Int32) (M : am_M) (hn : M 10 0 0 1 = nI n) (h16 : n ≤ 16) (h : 0 ≤ i.toInt ∧ i.toInt < n) : Con 1 mMain_trace [aR 0 0 0, aI i] M (some (aI (M 10 0 1 i.toNatClampNeg))) M := by
  refine con_of okMain_trace [some (aR 0 0 0), some (aI i)] (some .int) ?_
  intro J hgo
  refine hgo [] _ _ _ _ ?_
  refine brf (by have := h.1; (simp only [vp_in_iff, i3_lt, i3_le, i3_eq, Int32.reduceToInt, i3_m1] at this ⊢ <;> omega)) ?_
  refine brf (by show ¬ M 10 0 0 1 ≤ i; have := h.2; rw [hn]; simp only [i3_le]; rw [i3_n (by omega)]; omega) ?_
  refine ob_ (by rw [vp_in_iff]; omega) ?_   -- ob1
  refine hgo [] _ _ _ _ ?_
  (first | exact ⟨rfl, rfl⟩ | (refine ⟨?_, rfl⟩; (first | rfl | (simp [b2i]; done) | (rw [b2i_t]; simp only [vp_in_iff, i3_lt, i3_le, i3_eq, Int32.reduceToInt, i3_m1] <;> omega) | (rw [b2i_f]; simp only [vp_in_iff, i3_lt, i3_le, i3_eq, Int32.reduceToInt, i3_m1] <;> omega))))   -- leaf2
theorem c_Main_trace_out (n : Nat) (i : Int32) (M : am_M) (hn : M 10 0 0 1 = nI n) (h16 : n ≤ 16) (h : ¬ (0 ≤ i.toInt ∧ i.toInt < n)) : Con 1 mMain_trace [aR 0 0 0, aI i] M (some (aI (-1000000))) M := by
  refine con_of okMain_trace [some (aR 0 0 0), some (aI i)] (some .int) ?_
  intro J hgo
  refine hgo [] _ _ _ _ ?_
  refine br_ (fun h1 => ?_) (fun h1 => ?_)
  · refine hgo [] _ _ _ _ ?_
    exact ⟨rfl, rfl⟩
  · refine brt ?_ ?_
    · show M 10 0 0 1 ≤ i
      rw [hn]
      simp only [i3_le, i3_lt, Int32.reduceToInt] at h1 ⊢
      rw [i3_n (by omega)]
      omega
    refine hgo [] _ _ _ _ ?_
    exact ⟨rfl, rfl⟩
theorem c_Ref_trace_in (n : Nat) (i : Int32) (M : am_M) (hn : M 11 0 0 28 = nI n) (h16 : n ≤ 16) (h : 0 ≤ i.toInt ∧ i.toInt < n) : Con 2 mRef_trace [aR 11 0 0, aI i] M (some (aI (M 11 0 15 i.toNatClampNeg))) (rT M) := by
  refine con_of okRef_trace [some (aR 11 0 0), some (aI i)] (some .int) ?_
  intro J hgo
  refine hgo [] _ _ _ _ ?_
  refine cl_ (c_Ref_in i 0 (M 11 0 0 28 - 1) _ _ _ rfl (by decide) rfl _) ?_
  refine brbt (by rw [hn, inM1 (by omega)]; exact h) ?_
  refine ob_ (by rw [vp_in_iff]; omega) ?_
  refine hgo [] _ _ _ _ ?_
  exact ⟨rfl, rfl⟩
theorem c_Ref_trace_out (n : Nat) (i : Int32) (M : am_M) (hn : M 11 0 0 28 = nI n) (h16 : n ≤ 16) (h : ¬ (0 ≤ i.toInt ∧ i.toInt < n)) : Con 2 mRef_trace [aR 11 0 0, aI i] M (some (aI (-1000000))) (rT M) := by
  refine con_of okRef_trace [some (aR 11 0 0), some (aI i)] (some .int) ?_
  intro J hgo
  refine hgo [] _ _ _ _ ?_
  refine cl_ (c_Ref_in i 0 (M 11 0 0 28 - 1) _ _ _ rfl (by decide) rfl _) ?_
  refine brbf (by rw [hn, inM1 (by omega)]; exact h) ?_
  refine hgo [] _ _ _ _ ?_
  exact ⟨rfl, rfl⟩
theorem op_trace (i : Int32) (M : am_M) (hR : Rel M) : OpAt mMain_trace mRef_trace [aI i] M := by
  obtain ⟨n, h1, h2, h3, h4⟩ := hR.2.2.2.2.2.2
  by_cases h : 0 ≤ i.toInt ∧ i.toInt < n
  · have hc := c_Main_trace_in n i M h2 h1 h
    have := i3_cl h.1
    rw [h4 i.toNatClampNeg (by omega)] at hc
    exact op_mk hc (c_Ref_trace_in n i M h3 h1 h) (Rel_bad hR)
  · exact op_mk (c_Main_trace_out n i M h2 h1 h) (c_Ref_trace_out n i M h3 h1 h) (Rel_bad hR)
/-! kind -/
theorem c_Main_kind_in (n p : Nat) (M : am_M) (hn : M 4 0 0 4 = nI n) (h10 : n ≤ 10) (hp : p < n) : Con 2 mMain_kind [aR 0 0 0, aI (nI p)] M (some (aI (M 4 0 4 p))) M := by
  refine con_of okMain_kind [some (aR 0 0 0), some (aI (nI p))] (some .int) ?_
  intro J hgo
  refine hgo [] _ _ _ _ ?_
  refine cl_ (c_House_isPaper n 0 _ _ hn (by omega)) ?_
  refine brbt (by rw [i3_n (by omega)]; omega) ?_
  refine ob_ (vp_in_nI (by omega) (by omega)) ?_
  refine hgo [] _ _ _ _ ?_
  refine ⟨?_, rfl⟩
  rw [cl_nI (by omega)]
theorem c_Main_kind_out (n : Nat) (x : Int32) (M : am_M) (hn : M 4 0 0 4 = nI n) (h10 : n ≤ 10) (h : ¬ (0 ≤ x.toInt ∧ x.toInt < n)) : Con 2 mMain_kind [aR 0 0 0, aI x] M (some (aI (-1000001))) M := by
  refine con_of okMain_kind [some (aR 0 0 0), some (aI x)] (some .int) ?_
  intro J hgo
  refine hgo [] _ _ _ _ ?_
  refine cl_ (c_House_isPaper n 0 _ _ hn (by omega)) ?_
  refine brbf h ?_
  refine hgo [] _ _ _ _ ?_
  exact ⟨rfl, rfl⟩
theorem c_Ref_kind_in (n p : Nat) (M : am_M) (hn : M 11 0 4 1 = nI n) (h10 : n ≤ 10) (hp : p < n) : Con 3 mRef_kind [aR 11 0 0, aI (nI p)] M (some (aI (M 11 0 4 (28 + 5 * p)))) (rT M) := by
  refine con_of okRef_kind [some (aR 11 0 0), some (aI (nI p))] (some .int) ?_
  intro J hgo
  refine hgo [] _ _ _ _ ?_
  refine cl_ (c_Ref_isPaper n _ _ hn (by omega)) ?_
  refine brbt (by rw [i3_n (by omega)]; omega) ?_
  refine cl_ (c_Ref_of p 0 _ (by omega) (by omega)) ?_
  refine hgo [] _ _ _ _ ?_
  exact ⟨rfl, rfl⟩
theorem c_Ref_kind_out (n : Nat) (x : Int32) (M : am_M) (hn : M 11 0 4 1 = nI n) (h10 : n ≤ 10) (h : ¬ (0 ≤ x.toInt ∧ x.toInt < n)) : Con 3 mRef_kind [aR 11 0 0, aI x] M (some (aI (-1000001))) (rT M) := by
  refine con_of okRef_kind [some (aR 11 0 0), some (aI x)] (some .int) ?_
  intro J hgo
  refine hgo [] _ _ _ _ ?_
  refine cl_ (c_Ref_isPaper n _ _ hn (by omega)) ?_
  refine brbf h ?_
  refine hgo [] _ _ _ _ ?_
  exact ⟨rfl, rfl⟩
/-- the numbers of the house, on both sides -/
theorem Rel_np {M : am_M} (hR : Rel M) : M 4 0 0 4 = nI (nP (M 11 0 4)) ∧ M 11 0 4 1 = nI (nP (M 11 0 4)) ∧ nP (M 11 0 4) ≤ 10 := by
  obtain ⟨hv, ⟨-, hp, -⟩, -⟩ := hR.2.2.2.1
  exact ⟨hp.1.trans hv.2.1.1, hv.2.1.1, hv.2.1.2⟩
theorem Rel_nw {M : am_M} (hR : Rel M) : M 4 0 0 0 = nI (nW (M 11 0 4)) ∧ M 11 0 4 0 = nI (nW (M 11 0 4)) ∧ nW (M 11 0 4) ≤ 8 := by
  obtain ⟨hv, ⟨hw, -⟩, -⟩ := hR.2.2.2.1
  exact ⟨hw.1.trans hv.1.1, hv.1.1, hv.1.2⟩
theorem Rel_nt {M : am_M} (hR : Rel M) : M 4 0 0 10 = nI (nT (M 11 0 4)) ∧ M 11 0 4 2 = nI (nT (M 11 0 4)) ∧ nT (M 11 0 4) ≤ 10 := by
  obtain ⟨hv, ⟨-, -, ht, -⟩, -⟩ := hR.2.2.2.1
  exact ⟨ht.1.trans hv.2.2.1.1, hv.2.2.1.1, hv.2.2.1.2⟩
theorem Rel_ns {M : am_M} (hR : Rel M) : M 5 0 0 0 = nI (nS (M 11 0 4)) ∧ M 11 0 4 3 = nI (nS (M 11 0 4)) ∧ nS (M 11 0 4) ≤ 9 := by
  obtain ⟨hv, ⟨-, -, -, hs⟩, -⟩ := hR.2.2.2.1
  exact ⟨hs.1.trans hv.2.2.2.1.1, hv.2.2.2.1.1, hv.2.2.2.1.2⟩
theorem op_kind (x : Int32) (M : am_M) (hR : Rel M) : OpAt mMain_kind mRef_kind [aI x] M := by
  obtain ⟨h1, h2, h3⟩ := Rel_np hR
  by_cases h : 0 ≤ x.toInt ∧ x.toInt < nP (M 11 0 4)
  · obtain ⟨p, hp, rfl⟩ := intN h
    have hc := c_Main_kind_in _ p M h1 h3 hp
    rw [(hR.2.2.2.1.2.1.2.1.2 p hp).1] at hc
    exact op_mk hc (c_Ref_kind_in _ p M h2 h3 hp) (Rel_bad hR)
  · exact op_mk (c_Main_kind_out _ x M h1 h3 h) (c_Ref_kind_out _ x M h2 h3 h) (Rel_bad hR)
