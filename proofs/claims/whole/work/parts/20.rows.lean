/-! Rows -/
theorem c_Rows_isRow (x : Int32) (M : am_M) : Con 1 mRows_isRow [aR 1 0 0, aI x] M (some (aI (b2i (0 ≤ x ∧ x < 8)))) M := by
  refine con_of okRows_isRow [some (aR 1 0 0), some (aI x)] (some .boolean) ?_
  intro J hgo
  refine hgo [] _ _ _ _ ?_
  refine br_ (fun h1 => ?_) (fun h1 => ?_)
  · refine hgo [] _ _ _ _ ?_
    refine ob_ (by decide) ⟨?_, rfl⟩
    (rw [b2i_f]; simp only [vp_in_iff, i3_lt, i3_le, i3_eq, Int32.reduceToInt, i3_m1] at h1 ⊢ <;> omega)
  · refine br_ (fun h2 => ?_) (fun h2 => ?_)
    · refine hgo [] _ _ _ _ ?_
      refine ob_ (by decide) ⟨?_, rfl⟩
      (rw [b2i_f]; simp only [vp_in_iff, i3_lt, i3_le, i3_eq, Int32.reduceToInt, i3_m1] at h1 h2 ⊢ <;> omega)
    · refine hgo [] _ _ _ _ ?_
      refine ob_ (by decide) ⟨?_, rfl⟩
      (rw [b2i_t]; simp only [vp_in_iff, i3_lt, i3_le, i3_eq, Int32.reduceToInt, i3_m1] at h1 h2 ⊢ <;> omega)
theorem c_Rows_isLane (x : Int32) (M : am_M) : Con 1 mRows_isLane [aR 1 0 0, aI x] M (some (aI (b2i (0 ≤ x ∧ x ≤ 2)))) M := by
  refine con_of okRows_isLane [some (aR 1 0 0), some (aI x)] (some .boolean) ?_
  intro J hgo
  refine hgo [] _ _ _ _ ?_
  refine br_ (fun h1 => ?_) (fun h1 => ?_)
  · refine hgo [] _ _ _ _ ?_
    refine ob_ (by decide) ⟨?_, rfl⟩
    (rw [b2i_f]; simp only [vp_in_iff, i3_lt, i3_le, i3_eq, Int32.reduceToInt, i3_m1] at h1 ⊢ <;> omega)
  · refine br_ (fun h2 => ?_) (fun h2 => ?_)
    · refine hgo [] _ _ _ _ ?_
      refine ob_ (by decide) ⟨?_, rfl⟩
      (rw [b2i_f]; simp only [vp_in_iff, i3_lt, i3_le, i3_eq, Int32.reduceToInt, i3_m1] at h1 h2 ⊢ <;> omega)
    · refine hgo [] _ _ _ _ ?_
      refine ob_ (by decide) ⟨?_, rfl⟩
      (rw [b2i_t]; simp only [vp_in_iff, i3_lt, i3_le, i3_eq, Int32.reduceToInt, i3_m1] at h1 h2 ⊢ <;> omega)
theorem c_Rows_isThere (x : Int32) (M : am_M) : Con 2 mRows_isThere [aR 1 0 0, aI x] M (some (aI (b2i (0 ≤ x ∧ x < 8 ∧ ¬ M 1 0 1 x.toNatClampNeg = 0)))) M := by
  refine con_of okRows_isThere [some (aR 1 0 0), some (aI x)] (some .boolean) ?_
  intro J hgo
  refine hgo [] _ _ _ _ ?_
  refine cl_ (c_Rows_isRow _ _) ?_
  refine brb (fun h1 => ?_) (fun h1 => ?_)
  · refine hgo [] _ _ _ _ ?_
    refine ob_ (by decide) ⟨?_, rfl⟩
    rw [b2i_f (fun q => h1 ⟨q.1, q.2.1⟩)]
  · refine ob_ (by (simp only [vp_in_iff, i3_lt, i3_le, i3_eq, Int32.reduceToInt, i3_m1] at h1 ⊢ <;> omega)) ?_
    refine br_ (fun h2 => ?_) (fun h2 => ?_)
    · refine hgo [] _ _ _ _ ?_
      refine ob_ (by decide) ⟨?_, rfl⟩
      rw [b2i_f (fun q => q.2.2 h2)]
    · refine hgo [] _ _ _ _ ?_
      refine ob_ (by decide) ⟨?_, rfl⟩
      rw [b2i_t ⟨h1.1, h1.2, h2⟩]
theorem c_Rows_alike (a b : Int32) (M : am_M) : Con 2 mRows_alike [aR 1 0 0, aI a, aI b] M (some (aI (b2i ((0 ≤ a ∧ a < 8) ∧ (0 ≤ b ∧ b < 8) ∧ M 1 0 2 a.toNatClampNeg = M 1 0 2 b.toNatClampNeg)))) M := by
  refine con_of okRows_alike [some (aR 1 0 0), some (aI a), some (aI b)] (some .boolean) ?_
  intro J hgo
  refine hgo [] _ _ _ _ ?_
  refine cl_ (c_Rows_isRow _ _) ?_   -- call1
  refine brb (fun h1 => ?_) (fun h1 => ?_)
  · skip
    refine hgo [] _ _ _ _ ?_
    refine ob_ (by first | decide | exact nar_b) ?_
    (first | exact ⟨rfl, rfl⟩ | (refine ⟨?_, rfl⟩; (first | rfl | (simp [b2i, h1]; done) | (rw [b2i_t]; simp only [vp_in_iff, i3_lt, i3_le, i3_eq, Int32.reduceToInt, i3_m1] at h1 ⊢ <;> omega) | (rw [b2i_f]; simp only [vp_in_iff, i3_lt, i3_le, i3_eq, Int32.reduceToInt, i3_m1] at h1 ⊢ <;> omega) | (exfalso; simp only [vp_in_iff, i3_lt, i3_le, i3_eq, Int32.reduceToInt, i3_m1] at h1; omega))))   -- leaf2
  · skip
    refine cl_ (c_Rows_isRow _ _) ?_   -- call3
    refine brb (fun h2 => ?_) (fun h2 => ?_)
    · skip
      refine hgo [] _ _ _ _ ?_
      refine ob_ (by first | decide | exact nar_b) ?_
      (first | exact ⟨rfl, rfl⟩ | (refine ⟨?_, rfl⟩; (first | rfl | (simp [b2i, h1, h2]; done) | (rw [b2i_t]; simp only [vp_in_iff, i3_lt, i3_le, i3_eq, Int32.reduceToInt, i3_m1] at h1 h2 ⊢ <;> omega) | (rw [b2i_f]; simp only [vp_in_iff, i3_lt, i3_le, i3_eq, Int32.reduceToInt, i3_m1] at h1 h2 ⊢ <;> omega) | (exfalso; simp only [vp_in_iff, i3_lt, i3_le, i3_eq, Int32.reduceToInt, i3_m1] at h1 h2; omega))))   -- leaf4
    · skip
      refine ob_ (by (first | decide | (simp only [vp_in_iff, i3_lt, i3_le, i3_eq, Int32.reduceToInt, i3_m1] at h1 h2 ⊢ <;> omega) | (exfalso; simp only [vp_in_iff, i3_lt, i3_le, i3_eq, Int32.reduceToInt, i3_m1] at h1 h2; omega))) ?_   -- ob5
      refine ob_ (by (first | decide | (simp only [vp_in_iff, i3_lt, i3_le, i3_eq, Int32.reduceToInt, i3_m1] at h1 h2 ⊢ <;> omega) | (exfalso; simp only [vp_in_iff, i3_lt, i3_le, i3_eq, Int32.reduceToInt, i3_m1] at h1 h2; omega))) ?_   -- ob6
      refine br_ (fun h3 => ?_) (fun h3 => ?_)
      · skip
        refine hgo [] _ _ _ _ ?_
        refine ob_ (by first | decide | exact nar_b) ?_
        (first | exact ⟨rfl, rfl⟩ | (refine ⟨?_, rfl⟩; (first | rfl | (simp [b2i, h1, h2, h3]; done) | (rw [b2i_t]; simp only [vp_in_iff, i3_lt, i3_le, i3_eq, Int32.reduceToInt, i3_m1] at h1 h2 h3 ⊢ <;> omega) | (rw [b2i_f]; simp only [vp_in_iff, i3_lt, i3_le, i3_eq, Int32.reduceToInt, i3_m1] at h1 h2 h3 ⊢ <;> omega) | (exfalso; simp only [vp_in_iff, i3_lt, i3_le, i3_eq, Int32.reduceToInt, i3_m1] at h1 h2 h3; omega))))   -- leaf7
      · skip
        refine hgo [] _ _ _ _ ?_
        refine ob_ (by first | decide | exact nar_b) ?_
        (first | exact ⟨rfl, rfl⟩ | (refine ⟨?_, rfl⟩; (first | rfl | (simp [b2i, h1, h2, h3]; done) | (rw [b2i_t]; simp only [vp_in_iff, i3_lt, i3_le, i3_eq, Int32.reduceToInt, i3_m1] at h1 h2 h3 ⊢ <;> omega) | (rw [b2i_f]; simp only [vp_in_iff, i3_lt, i3_le, i3_eq, Int32.reduceToInt, i3_m1] at h1 h2 h3 ⊢ <;> omega) | (exfalso; simp only [vp_in_iff, i3_lt, i3_le, i3_eq, Int32.reduceToInt, i3_m1] at h1 h2 h3; omega))))   -- leaf8
theorem c_Rows_holds (r i n : Int32) (M : am_M) : Con 2 mRows_holds [aR 1 0 0, aI r, aI i, aI n] M (some (aI (b2i ((0 ≤ r ∧ r < 8) ∧ 0 ≤ i ∧ 0 ≤ n ∧ i ≤ M 1 0 3 r.toNatClampNeg - n)))) M := by
  refine con_of okRows_holds [some (aR 1 0 0), some (aI r), some (aI i), some (aI n)] (some .boolean) ?_
  intro J hgo
  refine hgo [] _ _ _ _ ?_
  refine cl_ (c_Rows_isRow _ _) ?_   -- call1
  refine brb (fun h1 => ?_) (fun h1 => ?_)
  · skip
    refine hgo [] _ _ _ _ ?_
    refine ob_ (by first | decide | exact nar_b) ?_
    (first | exact ⟨rfl, rfl⟩ | (refine ⟨?_, rfl⟩; (first | rfl | (simp [b2i, h1]; done) | (rw [b2i_t]; simp only [vp_in_iff, i3_lt, i3_le, i3_eq, Int32.reduceToInt, i3_m1] at h1 ⊢ <;> omega) | (rw [b2i_f]; simp only [vp_in_iff, i3_lt, i3_le, i3_eq, Int32.reduceToInt, i3_m1] at h1 ⊢ <;> omega) | (exfalso; simp only [vp_in_iff, i3_lt, i3_le, i3_eq, Int32.reduceToInt, i3_m1] at h1; omega))))   -- leaf2
  · skip
    refine br_ (fun h2 => ?_) (fun h2 => ?_)
    · skip
      refine hgo [] _ _ _ _ ?_
      refine ob_ (by first | decide | exact nar_b) ?_
      (first | exact ⟨rfl, rfl⟩ | (refine ⟨?_, rfl⟩; (first | rfl | (simp [b2i, h1, h2]; done) | (rw [b2i_t]; simp only [vp_in_iff, i3_lt, i3_le, i3_eq, Int32.reduceToInt, i3_m1] at h1 h2 ⊢ <;> omega) | (rw [b2i_f]; simp only [vp_in_iff, i3_lt, i3_le, i3_eq, Int32.reduceToInt, i3_m1] at h1 h2 ⊢ <;> omega) | (exfalso; simp only [vp_in_iff, i3_lt, i3_le, i3_eq, Int32.reduceToInt, i3_m1] at h1 h2; omega))))   -- leaf3
    · skip
      refine br_ (fun h3 => ?_) (fun h3 => ?_)
      · skip
        refine hgo [] _ _ _ _ ?_
        refine ob_ (by first | decide | exact nar_b) ?_
        (first | exact ⟨rfl, rfl⟩ | (refine ⟨?_, rfl⟩; (first | rfl | (simp [b2i, h1, h2, h3]; done) | (rw [b2i_t]; simp only [vp_in_iff, i3_lt, i3_le, i3_eq, Int32.reduceToInt, i3_m1] at h1 h2 h3 ⊢ <;> omega) | (rw [b2i_f]; simp only [vp_in_iff, i3_lt, i3_le, i3_eq, Int32.reduceToInt, i3_m1] at h1 h2 h3 ⊢ <;> omega) | (exfalso; simp only [vp_in_iff, i3_lt, i3_le, i3_eq, Int32.reduceToInt, i3_m1] at h1 h2 h3; omega))))   -- leaf4
      · skip
        refine ob_ (by (first | decide | (simp only [vp_in_iff, i3_lt, i3_le, i3_eq, Int32.reduceToInt, i3_m1] at h1 h2 h3 ⊢ <;> omega) | (exfalso; simp only [vp_in_iff, i3_lt, i3_le, i3_eq, Int32.reduceToInt, i3_m1] at h1 h2 h3; omega))) ?_   -- ob5
        refine br_ (fun h4 => ?_) (fun h4 => ?_)
        · skip
          refine hgo [] _ _ _ _ ?_
          refine ob_ (by first | decide | exact nar_b) ?_
          (first | exact ⟨rfl, rfl⟩ | (refine ⟨?_, rfl⟩; (first | rfl | (simp [b2i, h1, h2, h3, h4]; done) | (rw [b2i_t]; simp only [vp_in_iff, i3_lt, i3_le, i3_eq, Int32.reduceToInt, i3_m1] at h1 h2 h3 h4 ⊢ <;> omega) | (rw [b2i_f]; simp only [vp_in_iff, i3_lt, i3_le, i3_eq, Int32.reduceToInt, i3_m1] at h1 h2 h3 h4 ⊢ <;> omega) | (exfalso; simp only [vp_in_iff, i3_lt, i3_le, i3_eq, Int32.reduceToInt, i3_m1] at h1 h2 h3 h4; omega))))   -- leaf6
        · skip
          refine hgo [] _ _ _ _ ?_
          refine ob_ (by first | decide | exact nar_b) ?_
          (first | exact ⟨rfl, rfl⟩ | (refine ⟨?_, rfl⟩; (first | rfl | (simp [b2i, h1, h2, h3, h4]; done) | (rw [b2i_t]; simp only [vp_in_iff, i3_lt, i3_le, i3_eq, Int32.reduceToInt, i3_m1] at h1 h2 h3 h4 ⊢ <;> omega) | (rw [b2i_f]; simp only [vp_in_iff, i3_lt, i3_le, i3_eq, Int32.reduceToInt, i3_m1] at h1 h2 h3 h4 ⊢ <;> omega) | (exfalso; simp only [vp_in_iff, i3_lt, i3_le, i3_eq, Int32.reduceToInt, i3_m1] at h1 h2 h3 h4; omega))))   -- leaf7
theorem ix40 {r i : Nat} (hr : r < 8) (hi : i < 40) : nI r * 40 + nI i = nI (40 * r + i) := by
  show nI r * nI 40 + nI i = _
  rw [pk_mul, nI_add, Nat.mul_comm]
theorem ix40b {r i : Nat} (hr : r < 8) (hi : i ≤ 40) : nI r * 40 + nI i = nI (40 * r + i) := by
  show nI r * nI 40 + nI i = _
  rw [pk_mul, nI_add, Nat.mul_comm]
theorem c_Rows_item (r i n : Nat) (M : am_M) (hr : r < 8) (hn : M 1 0 3 r = nI n) (hn40 : n ≤ 40) (hi : i < n) : Con 3 mRows_item [aR 1 0 0, aI (nI r), aI (nI i)] M (some (aI (M 1 0 4 (40 * r + i)))) M := by
  have hh : (0 ≤ nI r ∧ nI r < 8) ∧ 0 ≤ nI i ∧ (0 : Int32) ≤ 1 ∧ nI i ≤ M 1 0 3 (nI r).toNatClampNeg - 1 := by
    rw [cl_nI (by omega), hn]
    have h1 : nI n - 1 = nI (n - 1) := by
      have := pk_sub (a := n) (b := 1) (by omega)
      exact this
    rw [h1]
    exact ⟨⟨nI_pos' (by omega), nI_lt (b := 8) hr (by omega)⟩, nI_pos' (by omega), by decide, nI_le (by omega) (by omega)⟩
  refine con_of okRows_item [some (aR 1 0 0), some (aI (nI r)), some (aI (nI i))] (some .int) ?_
  intro J hgo
  refine hgo [] _ _ _ _ ?_
  refine cl_ (c_Rows_holds _ _ _ _) ?_
  refine brb (fun h1 => absurd hh h1) (fun _ => ?_)
  have e0 := ix40 hr (show i < 40 by omega)
  refine ob_ (by rw [e0]; exact vp_in_nI (by omega) (by omega)) ?_
  refine hgo [] _ _ _ _ ?_
  refine ⟨?_, rfl⟩
  rw [e0, cl_nI (by omega)]
theorem c_Rows_remove (r : Int32) (M : am_M) (g1 : 0 ≤ r ∧ r < 8) (g2 : ¬ M 1 0 1 r.toNatClampNeg = 0) : Con 3 mRows_remove [aR 1 0 0, aI r] M (some (aI (M 1 0 3 r.toNatClampNeg))) (sA (sA M 1 0 1 (upd (M 1 0 1) r.toNatClampNeg 0)) 1 0 3 (upd (M 1 0 3) r.toNatClampNeg 0)) := by
  refine con_of okRows_remove [some (aR 1 0 0), some (aI r), none] (some .int) ?_
  intro J hgo
  refine hgo [] _ _ _ _ ?_
  refine cl_ (c_Rows_isThere _ _) ?_   -- call1
  refine brbt (⟨g1.1, g1.2, g2⟩) ?_
  refine hgo [] _ _ _ _ ?_
  refine ob_ (by (first | decide | (simp only [vp_in_iff, i3_lt, i3_le, i3_eq, Int32.reduceToInt, i3_m1] at g1 g2 ⊢ <;> omega) | (exfalso; simp only [vp_in_iff, i3_lt, i3_le, i3_eq, Int32.reduceToInt, i3_m1] at g1 g2; omega))) ?_   -- ob2
  refine ob_ (by (first | decide | (simp only [vp_in_iff, i3_lt, i3_le, i3_eq, Int32.reduceToInt, i3_m1] at g1 g2 ⊢ <;> omega) | (exfalso; simp only [vp_in_iff, i3_lt, i3_le, i3_eq, Int32.reduceToInt, i3_m1] at g1 g2; omega))) ?_   -- ob3
  refine ob_ (by (first | decide | (simp only [vp_in_iff, i3_lt, i3_le, i3_eq, Int32.reduceToInt, i3_m1] at g1 g2 ⊢ <;> omega) | (exfalso; simp only [vp_in_iff, i3_lt, i3_le, i3_eq, Int32.reduceToInt, i3_m1] at g1 g2; omega))) ?_   -- ob4
  (first | exact ⟨rfl, rfl⟩ | (refine ⟨?_, rfl⟩; (first | rfl | (simp [b2i, g1, g2]; done) | (rw [b2i_t]; simp only [vp_in_iff, i3_lt, i3_le, i3_eq, Int32.reduceToInt, i3_m1] at g1 g2 ⊢ <;> omega) | (rw [b2i_f]; simp only [vp_in_iff, i3_lt, i3_le, i3_eq, Int32.reduceToInt, i3_m1] at g1 g2 ⊢ <;> omega) | (exfalso; simp only [vp_in_iff, i3_lt, i3_le, i3_eq, Int32.reduceToInt, i3_m1] at g1 g2; omega))))   -- leaf5
theorem nin {r n : Nat} (h : r < n) (hn : n < 1000000) : 0 ≤ nI r ∧ nI r < nI n := ⟨nI_pos' (by omega), nI_lt h (by omega)⟩
/-- put: an item of a row that is there -/
theorem c_Rows_put (r i n : Nat) (v : Int32) (M : am_M) (hr : r < 8) (hn : M 1 0 3 r = nI n) (hn40 : n ≤ 40) (hi : i < n) : Con 3 mRows_put [aR 1 0 0, aI (nI r), aI (nI i), aI v] M (some (aI (if M 1 0 2 r = 0 then v.toInt8.toInt32 else if M 1 0 2 r = 1 then v.toInt16.toInt32 else v))) (sA M 1 0 4 (upd (M 1 0 4) (40 * r + i) (if M 1 0 2 r = 0 then v.toInt8.toInt32 else if M 1 0 2 r = 1 then v.toInt16.toInt32 else v))) := by
  have hh : (0 ≤ nI r ∧ nI r < 8) ∧ 0 ≤ nI i ∧ (0 : Int32) ≤ 1 ∧ nI i ≤ M 1 0 3 (nI r).toNatClampNeg - 1 := by
    rw [cl_nI (by omega), hn]
    have h1 : nI n - 1 = nI (n - 1) := pk_sub (a := n) (b := 1) (by omega)
    rw [h1]
    exact ⟨nin (n := 8) hr (by omega), nI_pos' (by omega), by decide, nI_le (by omega) (by omega)⟩
  have e0 := ix40 hr (show i < 40 by omega)
  have e1 : vp_in (nI r * 40 + nI i) 320 := by rw [e0]; exact vp_in_nI (by omega) (by omega)
  have e2 : vp_in (nI r) 8 := vp_in_nI hr (by omega)
  have e3 : (nI r).toNatClampNeg = r := cl_nI (by omega)
  have e4 : (nI r * 40 + nI i).toNatClampNeg = 40 * r + i := by rw [e0]; exact cl_nI (by omega)
  refine con_of okRows_put [some (aR 1 0 0), some (aI (nI r)), some (aI (nI i)), some (aI v), none] (some .int) ?_
  intro J hgo
  refine hgo [] _ _ _ _ ?_
  refine cl_ (c_Rows_holds _ _ _ _) ?_
  refine brbt hh ?_
  refine hgo [] _ _ _ _ ?_
  refine ob_ e2 ?_
  refine br_ (fun h1 => ?_) (fun h1 => ?_)
  · refine ob_ e2 ?_
    refine br_ (fun h2 => ?_) (fun h2 => ?_)
    · rw [e3] at h1 h2
      rw [h1] at h2
      exact absurd h2 (by decide)
    · refine hgo [] _ _ _ _ ?_
      refine ob_ e1 ?_
      rw [e3] at h1 h2
      refine ⟨?_, ?_⟩
      · rw [if_pos h1]
      · rw [if_pos h1, e4]
  · refine hgo [] _ _ _ _ ?_
    refine ob_ e2 ?_
    refine br_ (fun h2 => ?_) (fun h2 => ?_)
    · refine ob_ e1 ?_
      rw [e3] at h1 h2
      refine ⟨?_, ?_⟩
      · rw [if_neg h1, if_pos h2]
      · rw [if_neg h1, if_pos h2, e4]
    · refine hgo [] _ _ _ _ ?_
      refine ob_ e1 ?_
      rw [e3] at h1 h2
      refine ⟨?_, ?_⟩
      · rw [if_neg h1, if_neg h2]
      · rw [if_neg h1, if_neg h2, e4]
/-- move -/
theorem c_Rows_move (a i b j n na nb : Nat) (M : am_M) (ha : a < 8) (hb : b < 8) (hna : M 1 0 3 a = nI na) (hnb : M 1 0 3 b = nI nb) (h40 : na ≤ 40) (h40b : nb ≤ 40) (hi : i + n ≤ na) (hj : j + n ≤ nb) : Con 3 mRows_move [aR 1 0 0, aI (nI a), aI (nI i), aI (nI b), aI (nI j), aI (nI n)] M none (sA M 1 0 4 (va_cpy (M 1 0 4) (M 1 0 4) (40 * a + i) (40 * b + j) n)) := by
  have hold : ∀ r i na : Nat, r < 8 → M 1 0 3 r = nI na → na ≤ 40 → i + n ≤ na → (0 ≤ nI r ∧ nI r < 8) ∧ 0 ≤ nI i ∧ 0 ≤ nI n ∧ nI i ≤ M 1 0 3 (nI r).toNatClampNeg - nI n := by
    intro r i na hr hn hn40 hi
    rw [cl_nI (by omega), hn, pk_sub (by omega)]
    exact ⟨nin (n := 8) hr (by omega), nI_pos' (by omega), nI_pos' (by omega), nI_le (by omega) (by omega)⟩
  refine con_of okRows_move [some (aR 1 0 0), some (aI (nI a)), some (aI (nI i)), some (aI (nI b)), some (aI (nI j)), some (aI (nI n))] none ?_
  intro J hgo
  refine hgo [] _ _ _ _ ?_
  refine cl_ (c_Rows_holds _ _ _ _) ?_
  refine brbt (hold a i na ha hna h40 hi) ?_
  refine cl_ (c_Rows_holds _ _ _ _) ?_
  refine brbt (hold b j nb hb hnb h40b hj) ?_
  refine hgo [] _ _ _ _ ?_
  have e0 := ix40b ha (show i ≤ 40 by omega)
  have e1 := ix40b hb (show j ≤ 40 by omega)
  refine ob_ ?_ ?_
  · rw [e0, e1, cl_nI (by omega), cl_nI (by omega), cl_nI (by omega)]
    exact ⟨nI_pos (by omega), nI_pos (by omega), nI_pos (by omega), by omega, by omega⟩
  · refine ⟨rfl, ?_⟩
    rw [e0, e1, cl_nI (by omega), cl_nI (by omega), cl_nI (by omega)]
/-! fill of the library, over a row of ints -/
theorem c_Arr_rangeCheck (n a b : Int32) (M : am_M) (h1 : a ≤ b) (h2 : 0 ≤ a) (h3 : b ≤ n) : Con 1 mArr_rangeCheck [aI n, aI a, aI b] M none M := by
  refine con_of okArr_rangeCheck [some (aI n), some (aI a), some (aI b)] none ?_
  intro J hgo
  refine hgo [] _ _ _ _ ?_
  refine brt h1 ?_
  refine hgo [] _ _ _ _ ?_
  refine brt h2 ?_
  refine hgo [] _ _ _ _ ?_
  refine brt h3 ?_
  refine hgo [] _ _ _ _ ?_
  exact ⟨rfl, rfl⟩
def zf (f : Nat → Int32) (lo hi : Nat) (x : Int32) : Nat → Int32 := fun i => if lo ≤ i ∧ i < hi then x else f i
theorem zf_up {f : Nat → Int32} {lo i : Nat} {x : Int32} (h : lo ≤ i) : upd (zf f lo i x) i x = zf f lo (i + 1) x := by
  funext q
  simp only [upd, zf]
  by_cases h1 : q = i
  · subst h1
    rw [if_pos rfl, if_pos ⟨h, by omega⟩]
  · rw [if_neg h1]
    by_cases h2 : lo ≤ q ∧ q < i
    · rw [if_pos h2, if_pos ⟨h2.1, by omega⟩]
    · rw [if_neg h2, if_neg (by omega)]
theorem zf_0 {f : Nat → Int32} {lo : Nat} {x : Int32} : zf f lo lo x = f := by
  funext q
  simp only [zf]
  rw [if_neg (by omega)]
theorem sA_sA {M : am_M} {k j o : Nat} {f g : Nat → Int32} : sA (sA M k j o f) k j o g = sA M k j o g := by
  funext a b c
  simp only [sA]
  by_cases h : a = k ∧ b = j ∧ c = o
  · rw [if_pos h, if_pos h]
  · rw [if_neg h, if_neg h, if_neg h]
theorem sA_id {M : am_M} {k j o : Nat} : sA M k j o (M k j o) = M := by
  funext a b c
  simp only [sA]
  by_cases h : a = k ∧ b = j ∧ c = o
  · rw [if_pos h, h.1, h.2.1, h.2.2]
  · rw [if_neg h]
theorem c_Arr_fill4 (lo hi : Nat) (x : Int32) (M : am_M) (h1 : lo ≤ hi) (h2 : hi ≤ 320) : Con 2 mArr_fill4 [aR 1 0 4, aI (nI lo), aI (nI hi), aI x] M none (sA M 1 0 4 (zf (M 1 0 4) lo hi x)) := by
  refine con_of okArr_fill4 [some (aR 1 0 4), some (aI (nI lo)), some (aI (nI hi)), some (aI x), none] none ?_
  intro J hgo
  have loop : ∀ n i iv M2, n = hi - i → lo ≤ i → i ≤ hi → iv = nI i → M2 = sA M 1 0 4 (zf (M 1 0 4) lo i x) → J 10 [some (aR 1 0 4), some (aI (nI lo)), some (aI (nI hi)), some (aI x), some (aI iv)] [] M2 := by
    intro n
    induction n with
    | zero =>
      intro i iv M2 hn h3 h4 hv hM
      obtain rfl : i = hi := by omega
      subst hv
      refine hgo [] _ _ _ _ ?_
      refine brt (nI_le (Nat.le_refl _) (by omega)) ?_
      refine hgo [] _ _ _ _ ?_
      exact ⟨rfl, hM⟩
    | succ n ih =>
      intro i iv M2 hn h3 h4 hv hM
      subst hv
      refine hgo [] _ _ _ _ ?_
      refine brf (nI_ge (by omega) (by omega)) ?_
      refine ob_ (vp_in_nI (by omega) (by omega)) ?_
      refine ih (i + 1) _ _ (by omega) (by omega) (by omega) (nI_1 i) ?_
      rw [hM, cl_nI (by omega), sA_s, sA_sA, zf_up h3]
  refine hgo [10] _ _ _ _ ?_
  refine cl_ (c_Arr_rangeCheck _ _ _ _ (nI_le h1 (by omega)) (nI_pos' (by omega)) (nI_le (b := 320) h2 (by omega))) ?_
  exact loop _ lo _ _ rfl (Nat.le_refl _) h1 rfl (by rw [zf_0, sA_id])
theorem c_Rows_make (r n : Nat) (l : Int32) (M : am_M) (hr : r < 8) (hn : n ≤ 40) : Con 3 mRows_make [aR 1 0 0, aI (nI r), aI l, aI (nI n)] M none (sA (sA (sA (sA M 1 0 1 (upd (M 1 0 1) r 1)) 1 0 2 (upd (M 1 0 2) r l)) 1 0 3 (upd (M 1 0 3) r (nI n))) 1 0 4 (zf (M 1 0 4) (40 * r) (40 * r + n) 0)) := by
  have e2 : vp_in (nI r) 8 := vp_in_nI hr (by omega)
  have e3 : (nI r).toNatClampNeg = r := cl_nI (by omega)
  refine con_of okRows_make [some (aR 1 0 0), some (aI (nI r)), some (aI l), some (aI (nI n))] none ?_
  intro J hgo
  refine hgo [] _ _ _ _ ?_
  refine cl_ (c_Rows_isRow _ _) ?_
  refine brbt (nin (n := 8) hr (by omega)) ?_
  refine brf (nI_pos (by omega)) ?_
  refine brt (nI_le (b := 40) hn (by omega)) ?_
  refine hgo [] _ _ _ _ ?_
  refine ob_ e2 ?_
  refine ob_ e2 ?_
  refine ob_ e2 ?_
  have e4 : nI r * 40 = nI (40 * r) := by
    show nI r * nI 40 = _
    rw [pk_mul, Nat.mul_comm]
  have e5 : nI r * 40 + nI n = nI (40 * r + n) := by rw [e4, nI_add]
  refine cle (c_Arr_fill4 (40 * r) (40 * r + n) 0 _ (by omega) (by omega)) (by rw [e5, e4]) rfl ?_
  refine ⟨rfl, ?_⟩
  rw [e3]
  rfl
