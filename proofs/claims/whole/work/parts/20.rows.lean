/-! Rows -/
theorem c_Rows_isRow (x : Int32) (M : am_M) : Con 1 mRows_isRow [aR 1 0 0, aI x] M (some (aI (b2i (0 ≤ x ∧ x < 8)))) M := by
  refine con_of okRows_isRow [some (aR 1 0 0), some (aI x)] (some .boolean) ?_
  intro J hgo
  refine hgo _ _ _ _ ?_
  refine br_ (fun h1 => ?_) (fun h1 => ?_)
  · refine hgo _ _ _ _ ?_
    refine ob_ (by decide) ⟨?_, rfl⟩
    (rw [b2i_f]; simp only [vp_in_iff, i3_lt, i3_le, i3_eq, Int32.reduceToInt, i3_m1] at h1 ⊢ <;> omega)
  · refine br_ (fun h2 => ?_) (fun h2 => ?_)
    · refine hgo _ _ _ _ ?_
      refine ob_ (by decide) ⟨?_, rfl⟩
      (rw [b2i_f]; simp only [vp_in_iff, i3_lt, i3_le, i3_eq, Int32.reduceToInt, i3_m1] at h1 h2 ⊢ <;> omega)
    · refine hgo _ _ _ _ ?_
      refine ob_ (by decide) ⟨?_, rfl⟩
      (rw [b2i_t]; simp only [vp_in_iff, i3_lt, i3_le, i3_eq, Int32.reduceToInt, i3_m1] at h1 h2 ⊢ <;> omega)
theorem c_Rows_isLane (x : Int32) (M : am_M) : Con 1 mRows_isLane [aR 1 0 0, aI x] M (some (aI (b2i (0 ≤ x ∧ x ≤ 2)))) M := by
  refine con_of okRows_isLane [some (aR 1 0 0), some (aI x)] (some .boolean) ?_
  intro J hgo
  refine hgo _ _ _ _ ?_
  refine br_ (fun h1 => ?_) (fun h1 => ?_)
  · refine hgo _ _ _ _ ?_
    refine ob_ (by decide) ⟨?_, rfl⟩
    (rw [b2i_f]; simp only [vp_in_iff, i3_lt, i3_le, i3_eq, Int32.reduceToInt, i3_m1] at h1 ⊢ <;> omega)
  · refine br_ (fun h2 => ?_) (fun h2 => ?_)
    · refine hgo _ _ _ _ ?_
      refine ob_ (by decide) ⟨?_, rfl⟩
      (rw [b2i_f]; simp only [vp_in_iff, i3_lt, i3_le, i3_eq, Int32.reduceToInt, i3_m1] at h1 h2 ⊢ <;> omega)
    · refine hgo _ _ _ _ ?_
      refine ob_ (by decide) ⟨?_, rfl⟩
      (rw [b2i_t]; simp only [vp_in_iff, i3_lt, i3_le, i3_eq, Int32.reduceToInt, i3_m1] at h1 h2 ⊢ <;> omega)
theorem c_Rows_isThere (x : Int32) (M : am_M) : Con 2 mRows_isThere [aR 1 0 0, aI x] M (some (aI (b2i (0 ≤ x ∧ x < 8 ∧ ¬ M 1 0 1 x.toNatClampNeg = 0)))) M := by
  refine con_of okRows_isThere [some (aR 1 0 0), some (aI x)] (some .boolean) ?_
  intro J hgo
  refine hgo _ _ _ _ ?_
  refine cl_ (c_Rows_isRow _ _) ?_
  refine brb (fun h1 => ?_) (fun h1 => ?_)
  · refine hgo _ _ _ _ ?_
    refine ob_ (by decide) ⟨?_, rfl⟩
    rw [b2i_f (fun q => h1 ⟨q.1, q.2.1⟩)]
  · refine ob_ (by (simp only [vp_in_iff, i3_lt, i3_le, i3_eq, Int32.reduceToInt, i3_m1] at h1 ⊢ <;> omega)) ?_
    refine br_ (fun h2 => ?_) (fun h2 => ?_)
    · refine hgo _ _ _ _ ?_
      refine ob_ (by decide) ⟨?_, rfl⟩
      rw [b2i_f (fun q => q.2.2 h2)]
    · refine hgo _ _ _ _ ?_
      refine ob_ (by decide) ⟨?_, rfl⟩
      rw [b2i_t ⟨h1.1, h1.2, h2⟩]
