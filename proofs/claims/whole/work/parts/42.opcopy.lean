/-! copy -/
theorem c_Main_copy_bad (a i b j n : Int32) (M : am_M) (h : ¬ ((0 ≤ a ∧ a < 8) ∧ (0 ≤ b ∧ b < 8))) : Con 6 mMain_copy [aR 0 0 0, aI a, aI i, aI b, aI j, aI n] M (some (aI (-1000001))) M := by
  refine con_of okMain_copy [some (aR 0 0 0), some (aI a), some (aI i), some (aI b), some (aI j), some (aI n)] (some .int) ?_
  intro J hgo
  refine hgo [] _ _ _ _ ?_
  refine cl_ (c_Rows_isRow _ _) ?_   -- call1
  refine brb (fun h1 => ?_) (fun h1 => ?_)
  · skip
    refine hgo [] _ _ _ _ ?_
    (first | exact ⟨rfl, rfl⟩ | (refine ⟨?_, rfl⟩; (first | rfl | (simp [b2i, h1]; done) | (rw [b2i_t]; simp only [vp_in_iff, i3_lt, i3_le, i3_eq, Int32.reduceToInt, i3_m1] at h1 ⊢ <;> omega) | (rw [b2i_f]; simp only [vp_in_iff, i3_lt, i3_le, i3_eq, Int32.reduceToInt, i3_m1] at h1 ⊢ <;> omega) | (exfalso; simp only [vp_in_iff, i3_lt, i3_le, i3_eq, Int32.reduceToInt, i3_m1] at h1; omega))))   -- leaf2
  · skip
    refine cl_ (c_Rows_isRow _ _) ?_   -- call3
    refine brbf (fun q => h ⟨h1, q⟩) ?_
    (first | exact ⟨rfl, rfl⟩ | (refine ⟨?_, rfl⟩; (first | rfl | (simp [b2i, h1]; done) | (rw [b2i_t]; simp only [vp_in_iff, i3_lt, i3_le, i3_eq, Int32.reduceToInt, i3_m1] at h1 ⊢ <;> omega) | (rw [b2i_f]; simp only [vp_in_iff, i3_lt, i3_le, i3_eq, Int32.reduceToInt, i3_m1] at h1 ⊢ <;> omega) | (exfalso; simp only [vp_in_iff, i3_lt, i3_le, i3_eq, Int32.reduceToInt, i3_m1] at h1; omega))))   -- leaf4
theorem c_Main_copy_null (a b : Nat) (i j n : Int32) (M : am_M) (ha : a < 8) (hb : b < 8) (h : ¬ (¬ M 1 0 1 a = 0 ∧ ¬ M 1 0 1 b = 0)) : Con 6 mMain_copy [aR 0 0 0, aI (nI a), aI i, aI (nI b), aI j, aI n] M (some (aI (-1000011))) (mS M 1) := by
  refine con_of okMain_copy [some (aR 0 0 0), some (aI (nI a)), some (aI i), some (aI (nI b)), some (aI j), some (aI n)] (some .int) ?_
  intro J hgo
  refine hgo [] _ _ _ _ ?_
  refine cl_ (c_Rows_isRow _ _) ?_   -- call1
  refine brbt (nin (n := 8) ha (by omega)) ?_
  refine cl_ (c_Rows_isRow _ _) ?_   -- call2
  refine brbt (nin (n := 8) hb (by omega)) ?_
  refine hgo [] _ _ _ _ ?_
  refine cl_ (c_Rows_isThereN _ _ (by assumption)) ?_   -- call3
  refine brb (fun h3 => ?_) (fun h3 => ?_)
  · skip
    refine hgo [] _ _ _ _ ?_
    refine cl_ (c_Main_found _ _) ?_   -- call4
    (first | exact ⟨rfl, rfl⟩ | (refine ⟨?_, rfl⟩; (first | rfl | (simp [b2i, h3]; done) | (rw [b2i_t]; simp only [vp_in_iff, i3_lt, i3_le, i3_eq, Int32.reduceToInt, i3_m1] at h3 ⊢ <;> omega) | (rw [b2i_f]; simp only [vp_in_iff, i3_lt, i3_le, i3_eq, Int32.reduceToInt, i3_m1] at h3 ⊢ <;> omega) | (exfalso; simp only [vp_in_iff, i3_lt, i3_le, i3_eq, Int32.reduceToInt, i3_m1] at h3; omega))))   -- leaf5
  · skip
    refine cl_ (c_Rows_isThereN _ _ (by assumption)) ?_   -- call6
    refine brbf (fun q => h ⟨h3, q⟩) ?_
    refine cl_ (c_Main_found _ _) ?_   -- call7
    (first | exact ⟨rfl, rfl⟩ | (refine ⟨?_, rfl⟩; (first | rfl | (simp [b2i, h3]; done) | (rw [b2i_t]; simp only [vp_in_iff, i3_lt, i3_le, i3_eq, Int32.reduceToInt, i3_m1] at h3 ⊢ <;> omega) | (rw [b2i_f]; simp only [vp_in_iff, i3_lt, i3_le, i3_eq, Int32.reduceToInt, i3_m1] at h3 ⊢ <;> omega) | (exfalso; simp only [vp_in_iff, i3_lt, i3_le, i3_eq, Int32.reduceToInt, i3_m1] at h3; omega))))   -- leaf8
theorem c_Rows_alikeN (a b : Nat) (M : am_M) (ha : a < 8) (hb : b < 8) : Con 2 mRows_alike [aR 1 0 0, aI (nI a), aI (nI b)] M (some (aI (b2i (M 1 0 2 a = M 1 0 2 b)))) M := by
  have h := c_Rows_alike (nI a) (nI b) M
  rw [cl_nI (by omega), cl_nI (by omega), b2i_iff (q := M 1 0 2 a = M 1 0 2 b) ⟨fun q => q.2.2, fun q => ⟨nin (n := 8) ha (by omega), nin (n := 8) hb (by omega), q⟩⟩] at h
  exact h
theorem c_Main_copy_store (a b : Nat) (i j n : Int32) (M : am_M) (ha : a < 8) (hb : b < 8) (g1 : ¬ M 1 0 1 a = 0) (g2 : ¬ M 1 0 1 b = 0) (h : ¬ M 1 0 2 a = M 1 0 2 b) : Con 6 mMain_copy [aR 0 0 0, aI (nI a), aI i, aI (nI b), aI j, aI n] M (some (aI (-1000015))) (mS M 5) := by
  refine con_of okMain_copy [some (aR 0 0 0), some (aI (nI a)), some (aI i), some (aI (nI b)), some (aI j), some (aI n)] (some .int) ?_
  intro J hgo
  refine hgo [] _ _ _ _ ?_
  refine cl_ (c_Rows_isRow _ _) ?_   -- call1
  refine brbt (nin (n := 8) ha (by omega)) ?_
  refine cl_ (c_Rows_isRow _ _) ?_   -- call2
  refine brbt (nin (n := 8) hb (by omega)) ?_
  refine hgo [] _ _ _ _ ?_
  refine cl_ (c_Rows_isThereN _ _ (by assumption)) ?_   -- call3
  refine brbt (g1) ?_
  refine cl_ (c_Rows_isThereN _ _ (by assumption)) ?_   -- call4
  refine brbt (g2) ?_
  refine hgo [] _ _ _ _ ?_
  refine cl_ (c_Rows_alikeN _ _ _ ha hb) ?_   -- call5
  refine brbf (h) ?_
  refine cl_ (c_Main_found _ _) ?_   -- call6
  (first | exact ⟨rfl, rfl⟩ | (refine ⟨?_, rfl⟩; (first | rfl | (simp [b2i]; done) | (rw [b2i_t]; simp only [vp_in_iff, i3_lt, i3_le, i3_eq, Int32.reduceToInt, i3_m1] <;> omega) | (rw [b2i_f]; simp only [vp_in_iff, i3_lt, i3_le, i3_eq, Int32.reduceToInt, i3_m1] <;> omega))))   -- leaf7
theorem c_Main_copy_place (a b na nb : Nat) (i j n : Int32) (M : am_M) (ha : a < 8) (hb : b < 8) (g1 : ¬ M 1 0 1 a = 0) (g2 : ¬ M 1 0 1 b = 0) (g3 : M 1 0 2 a = M 1 0 2 b) (hna : M 1 0 3 a = nI na) (hnb : M 1 0 3 b = nI nb) (h40a : na ≤ 40) (h40b : nb ≤ 40) (hp : ¬ ((0 ≤ i.toInt ∧ 0 ≤ n.toInt ∧ i.toInt + n.toInt ≤ na) ∧ (0 ≤ j.toInt ∧ 0 ≤ n.toInt ∧ j.toInt + n.toInt ≤ nb))) : Con 6 mMain_copy [aR 0 0 0, aI (nI a), aI i, aI (nI b), aI j, aI n] M (some (aI (-1000012))) (mS M 2) := by
  refine con_of okMain_copy [some (aR 0 0 0), some (aI (nI a)), some (aI i), some (aI (nI b)), some (aI j), some (aI n)] (some .int) ?_
  intro J hgo
  refine hgo [] _ _ _ _ ?_
  refine cl_ (c_Rows_isRow _ _) ?_   -- call1
  refine brbt (nin (n := 8) ha (by omega)) ?_
  refine cl_ (c_Rows_isRow _ _) ?_   -- call2
  refine brbt (nin (n := 8) hb (by omega)) ?_
  refine hgo [] _ _ _ _ ?_
  refine cl_ (c_Rows_isThereN _ _ (by assumption)) ?_   -- call3
  refine brbt (g1) ?_
  refine cl_ (c_Rows_isThereN _ _ (by assumption)) ?_   -- call4
  refine brbt (g2) ?_
  refine hgo [] _ _ _ _ ?_
  refine cl_ (c_Rows_alikeN _ _ _ ha hb) ?_   -- call5
  refine brbt (g3) ?_
  refine hgo [] _ _ _ _ ?_
  refine cl_ (c_Rows_holdsN _ _ _ _ _ (by assumption) (by assumption) (by assumption)) ?_   -- call6
  refine brb (fun h6 => ?_) (fun h6 => ?_)
  · skip
    refine hgo [] _ _ _ _ ?_
    refine cl_ (c_Main_found _ _) ?_   -- call7
    (first | exact ⟨rfl, rfl⟩ | (refine ⟨?_, rfl⟩; (first | rfl | (simp [b2i, h6]; done) | (rw [b2i_t]; simp only [vp_in_iff, i3_lt, i3_le, i3_eq, Int32.reduceToInt, i3_m1] at h6 ⊢ <;> omega) | (rw [b2i_f]; simp only [vp_in_iff, i3_lt, i3_le, i3_eq, Int32.reduceToInt, i3_m1] at h6 ⊢ <;> omega) | (exfalso; simp only [vp_in_iff, i3_lt, i3_le, i3_eq, Int32.reduceToInt, i3_m1] at h6; omega))))   -- leaf8
  · skip
    refine cl_ (c_Rows_holdsN _ _ _ _ _ (by assumption) (by assumption) (by assumption)) ?_   -- call9
    refine brbf (fun q => hp ⟨h6, q⟩) ?_
    refine cl_ (c_Main_found _ _) ?_   -- call10
    (first | exact ⟨rfl, rfl⟩ | (refine ⟨?_, rfl⟩; (first | rfl | (simp [b2i, h6]; done) | (rw [b2i_t]; simp only [vp_in_iff, i3_lt, i3_le, i3_eq, Int32.reduceToInt, i3_m1] at h6 ⊢ <;> omega) | (rw [b2i_f]; simp only [vp_in_iff, i3_lt, i3_le, i3_eq, Int32.reduceToInt, i3_m1] at h6 ⊢ <;> omega) | (exfalso; simp only [vp_in_iff, i3_lt, i3_le, i3_eq, Int32.reduceToInt, i3_m1] at h6; omega))))   -- leaf11
theorem c_Main_copy_ok (a b na nb i j n : Nat) (M : am_M) (ha : a < 8) (hb : b < 8) (g1 : ¬ M 1 0 1 a = 0) (g2 : ¬ M 1 0 1 b = 0) (g3 : M 1 0 2 a = M 1 0 2 b) (hna : M 1 0 3 a = nI na) (hnb : M 1 0 3 b = nI nb) (h40a : na ≤ 40) (h40b : nb ≤ 40) (hi : i + n ≤ na) (hj : j + n ≤ nb) : Con 6 mMain_copy [aR 0 0 0, aI (nI a), aI (nI i), aI (nI b), aI (nI j), aI (nI n)] M (some (aI (nI n))) (mS (sA M 1 0 4 (va_cpy (M 1 0 4) (M 1 0 4) (40 * a + i) (40 * b + j) n)) 0) := by
  refine con_of okMain_copy [some (aR 0 0 0), some (aI (nI a)), some (aI (nI i)), some (aI (nI b)), some (aI (nI j)), some (aI (nI n))] (some .int) ?_
  intro J hgo
  refine hgo [] _ _ _ _ ?_
  refine cl_ (c_Rows_isRow _ _) ?_   -- call1
  refine brbt (nin (n := 8) ha (by omega)) ?_
  refine cl_ (c_Rows_isRow _ _) ?_   -- call2
  refine brbt (nin (n := 8) hb (by omega)) ?_
  refine hgo [] _ _ _ _ ?_
  refine cl_ (c_Rows_isThereN _ _ (by assumption)) ?_   -- call3
  refine brbt (g1) ?_
  refine cl_ (c_Rows_isThereN _ _ (by assumption)) ?_   -- call4
  refine brbt (g2) ?_
  refine hgo [] _ _ _ _ ?_
  refine cl_ (c_Rows_alikeN _ _ _ ha hb) ?_   -- call5
  refine brbt (g3) ?_
  refine hgo [] _ _ _ _ ?_
  refine cl_ (c_Rows_holdsN _ _ _ _ _ (by assumption) (by assumption) (by assumption)) ?_   -- call6
  refine brbt (by rw [i3_n (by omega), i3_n (by omega)]; omega) ?_
  refine cl_ (c_Rows_holdsN _ _ _ _ _ (by assumption) (by assumption) (by assumption)) ?_   -- call7
  refine brbt (by rw [i3_n (by omega), i3_n (by omega)]; omega) ?_
  refine hgo [] _ _ _ _ ?_
  refine cl_ (c_Rows_move a i b j n na nb _ ha hb hna hnb h40a h40b hi hj) ?_   -- call8
  refine cl_ (c_Main_clean _ _) ?_   -- call9
  (first | exact ⟨rfl, rfl⟩ | (refine ⟨?_, rfl⟩; (first | rfl | (simp [b2i]; done) | (rw [b2i_t]; simp only [vp_in_iff, i3_lt, i3_le, i3_eq, Int32.reduceToInt, i3_m1] <;> omega) | (rw [b2i_f]; simp only [vp_in_iff, i3_lt, i3_le, i3_eq, Int32.reduceToInt, i3_m1] <;> omega))))   -- leaf10
/-! the reference's copy -/
theorem c_Ref_copy_bad (a i b j n : Int32) (M : am_M) (h : ¬ ((0 ≤ a ∧ a < 8) ∧ (0 ≤ b ∧ b < 8))) : Con 6 mRef_copy [aR 11 0 0, aI a, aI i, aI b, aI j, aI n] M (some (aI (-1000001))) (rT M) := by
  refine con_of okRef_copy [some (aR 11 0 0), some (aI a), some (aI i), some (aI b), some (aI j), some (aI n), none, none, none] (some .int) ?_
  intro J hgo
  refine hgo [143] _ _ _ _ ?_
  refine cl_ (c_Ref_isRow _ _) ?_   -- call1
  refine brb (fun h1 => ?_) (fun h1 => ?_)
  · skip
    refine hgo [143] _ _ _ _ ?_
    (first | exact ⟨rfl, rfl⟩ | (refine ⟨?_, rfl⟩; (first | rfl | (simp [b2i, h1]; done) | (rw [b2i_t]; simp only [vp_in_iff, i3_lt, i3_le, i3_eq, Int32.reduceToInt, i3_m1] at h1 ⊢ <;> omega) | (rw [b2i_f]; simp only [vp_in_iff, i3_lt, i3_le, i3_eq, Int32.reduceToInt, i3_m1] at h1 ⊢ <;> omega) | (exfalso; simp only [vp_in_iff, i3_lt, i3_le, i3_eq, Int32.reduceToInt, i3_m1] at h1; omega))))   -- leaf2
  · skip
    refine cl_ (c_Ref_isRow _ _) ?_   -- call3
    refine brbf (fun q => h ⟨h1, q⟩) ?_
    (first | exact ⟨rfl, rfl⟩ | (refine ⟨?_, rfl⟩; (first | rfl | (simp [b2i, h1]; done) | (rw [b2i_t]; simp only [vp_in_iff, i3_lt, i3_le, i3_eq, Int32.reduceToInt, i3_m1] at h1 ⊢ <;> omega) | (rw [b2i_f]; simp only [vp_in_iff, i3_lt, i3_le, i3_eq, Int32.reduceToInt, i3_m1] at h1 ⊢ <;> omega) | (exfalso; simp only [vp_in_iff, i3_lt, i3_le, i3_eq, Int32.reduceToInt, i3_m1] at h1; omega))))   -- leaf4
theorem c_Ref_copy_null (a b : Nat) (i j n : Int32) (M : am_M) (ha : a < 8) (hb : b < 8) (h : M 11 0 1 a < 0 ∨ M 11 0 1 b < 0) : Con 6 mRef_copy [aR 11 0 0, aI (nI a), aI i, aI (nI b), aI j, aI n] M (some (aI (-1000011))) (rS (rS (rT M) 0) 1) := by
  have ea : (nI a).toNatClampNeg = a := cl_nI (by omega)
  have eb : (nI b).toNatClampNeg = b := cl_nI (by omega)
  refine con_of okRef_copy [some (aR 11 0 0), some (aI (nI a)), some (aI i), some (aI (nI b)), some (aI j), some (aI n), none, none, none] (some .int) ?_
  intro J hgo
  refine hgo [] _ _ _ _ ?_
  refine cl_ (c_Ref_isRow _ _) ?_
  refine brbt (nin (n := 8) ha (by omega)) ?_
  refine cl_ (c_Ref_isRow _ _) ?_
  refine brbt (nin (n := 8) hb (by omega)) ?_
  refine hgo [] _ _ _ _ ?_
  refine ob_ (vp_in_nI ha (by omega)) ?_
  refine br_ (fun h1 => ?_) (fun h1 => ?_)
  · refine hgo [] _ _ _ _ ?_
    refine cl_ (c_Ref_finding _ _) ?_
    exact ⟨rfl, rfl⟩
  · refine ob_ (vp_in_nI hb (by omega)) ?_
    have h1 : ¬ M 11 0 1 (nI a).toNatClampNeg < 0 := h1
    rw [ea] at h1
    have h2 : M 11 0 1 b < 0 := h.resolve_left h1
    refine brf ?_ ?_
    · show ¬ 0 ≤ M 11 0 1 (nI b).toNatClampNeg
      rw [eb]
      (simp only [vp_in_iff, i3_lt, i3_le, i3_eq, Int32.reduceToInt, i3_m1] at h2 ⊢ <;> omega)
    refine cl_ (c_Ref_finding _ _) ?_
    exact ⟨rfl, rfl⟩
theorem ge_nlt {x : Int32} (h : 0 ≤ x) : ¬ x < 0 := by (simp only [vp_in_iff, i3_lt, i3_le, i3_eq, Int32.reduceToInt, i3_m1] at h ⊢ <;> omega)
theorem c_Ref_copy_store (a b : Nat) (i j n : Int32) (M : am_M) (ha : a < 8) (hb : b < 8) (g1 : 0 ≤ M 11 0 1 a) (g2 : 0 ≤ M 11 0 1 b) (h : ¬ M 11 0 1 a = M 11 0 1 b) : Con 6 mRef_copy [aR 11 0 0, aI (nI a), aI i, aI (nI b), aI j, aI n] M (some (aI (-1000015))) (rS (rS (rT M) 0) 5) := by
  have ea : (nI a).toNatClampNeg = a := cl_nI (by omega)
  have eb : (nI b).toNatClampNeg = b := cl_nI (by omega)
  refine con_of okRef_copy [some (aR 11 0 0), some (aI (nI a)), some (aI i), some (aI (nI b)), some (aI j), some (aI n), none, none, none] (some .int) ?_
  intro J hgo
  refine hgo [] _ _ _ _ ?_
  refine cl_ (c_Ref_isRow _ _) ?_
  refine brbt (nin (n := 8) ha (by omega)) ?_
  refine cl_ (c_Ref_isRow _ _) ?_
  refine brbt (nin (n := 8) hb (by omega)) ?_
  refine hgo [] _ _ _ _ ?_
  refine ob_ (vp_in_nI ha (by omega)) ?_
  refine brf (show ¬ M 11 0 1 (nI a).toNatClampNeg < 0 by rw [ea]; exact ge_nlt g1) ?_
  refine ob_ (vp_in_nI hb (by omega)) ?_
  refine brt (show 0 ≤ M 11 0 1 (nI b).toNatClampNeg by rw [eb]; exact g2) ?_
  refine hgo [] _ _ _ _ ?_
  refine ob_ (vp_in_nI ha (by omega)) ?_
  refine ob_ (vp_in_nI hb (by omega)) ?_
  refine brf (show ¬ M 11 0 1 (nI a).toNatClampNeg = M 11 0 1 (nI b).toNatClampNeg by rw [ea, eb]; exact h) ?_
  refine cl_ (c_Ref_finding _ _) ?_
  exact ⟨rfl, rfl⟩
theorem l64sum {i n : Int32} {m : Nat} (hm : m ≤ 500) : (0 < lg_cmp (i.toInt64 + n.toInt64) (nI m).toInt64) ↔ (m : Int) < i.toInt + n.toInt := by
  have r1 := i3_rng i
  have r2 := i3_rng n
  rw [lg_cmp_gt, Int64.lt_iff_toInt_lt, Int32.toInt_toInt64, i3_n (by omega), Int64.toInt_add, Int32.toInt_toInt64, Int32.toInt_toInt64]
  rw [Int.bmod_eq_of_le (by omega) (by omega)]
theorem l64sumle {i n : Int32} {m : Nat} (hm : m ≤ 500) : (lg_cmp (i.toInt64 + n.toInt64) (nI m).toInt64 ≤ 0) ↔ i.toInt + n.toInt ≤ (m : Int) := by
  have r1 := i3_rng i
  have r2 := i3_rng n
  rw [lg_cmp_le, Int64.le_iff_toInt_le, Int32.toInt_toInt64, i3_n (by omega), Int64.toInt_add, Int32.toInt_toInt64, Int32.toInt_toInt64]
  rw [Int.bmod_eq_of_le (by omega) (by omega)]
theorem c_Ref_copy_place (a b na nb : Nat) (i j n : Int32) (M : am_M) (ha : a < 8) (hb : b < 8) (g1 : 0 ≤ M 11 0 1 a) (g2 : 0 ≤ M 11 0 1 b) (g3 : M 11 0 1 a = M 11 0 1 b) (hna : M 11 0 2 a = nI na) (hnb : M 11 0 2 b = nI nb) (h40a : na ≤ 40) (h40b : nb ≤ 40) (hp : ¬ ((0 ≤ i.toInt ∧ 0 ≤ n.toInt ∧ i.toInt + n.toInt ≤ na) ∧ (0 ≤ j.toInt ∧ 0 ≤ n.toInt ∧ j.toInt + n.toInt ≤ nb))) : Con 6 mRef_copy [aR 11 0 0, aI (nI a), aI i, aI (nI b), aI j, aI n] M (some (aI (-1000012))) (rS (rS (rT M) 0) 2) := by
  have ea : (nI a).toNatClampNeg = a := cl_nI (by omega)
  have eb : (nI b).toNatClampNeg = b := cl_nI (by omega)
  refine con_of okRef_copy [some (aR 11 0 0), some (aI (nI a)), some (aI i), some (aI (nI b)), some (aI j), some (aI n), none, none, none] (some .int) ?_
  intro J hgo
  have fin : J 121 [some (aR 11 0 0), some (aI (nI a)), some (aI i), some (aI (nI b)), some (aI j), some (aI n), none, none, none] [] (rS (rT M) 0) := by
    refine hgo [] _ _ _ _ ?_
    refine cl_ (c_Ref_finding _ _) ?_
    exact ⟨rfl, rfl⟩
  refine hgo [] _ _ _ _ ?_
  refine cl_ (c_Ref_isRow _ _) ?_
  refine brbt (nin (n := 8) ha (by omega)) ?_
  refine cl_ (c_Ref_isRow _ _) ?_
  refine brbt (nin (n := 8) hb (by omega)) ?_
  refine hgo [] _ _ _ _ ?_
  refine ob_ (vp_in_nI ha (by omega)) ?_
  refine brf (show ¬ M 11 0 1 (nI a).toNatClampNeg < 0 by rw [ea]; exact ge_nlt g1) ?_
  refine ob_ (vp_in_nI hb (by omega)) ?_
  refine brt (show 0 ≤ M 11 0 1 (nI b).toNatClampNeg by rw [eb]; exact g2) ?_
  refine hgo [] _ _ _ _ ?_
  refine ob_ (vp_in_nI ha (by omega)) ?_
  refine ob_ (vp_in_nI hb (by omega)) ?_
  refine brt (show M 11 0 1 (nI a).toNatClampNeg = M 11 0 1 (nI b).toNatClampNeg by rw [ea, eb]; exact g3) ?_
  refine hgo [121] _ _ _ _ ?_
  refine br_ (fun _ => fin) (fun h1 => ?_)
  refine br_ (fun _ => fin) (fun h2 => ?_)
  refine br_ (fun _ => fin) (fun h3 => ?_)
  refine ob_ (vp_in_nI ha (by omega)) ?_
  refine br_ (fun _ => fin) (fun h4 => ?_)
  refine ob_ (vp_in_nI hb (by omega)) ?_
  refine brf (fun h5 => hp ?_) fin
  have h4 : ¬ 0 < lg_cmp (i.toInt64 + n.toInt64) (M 11 0 2 (nI a).toNatClampNeg).toInt64 := h4
  have h5 : lg_cmp (j.toInt64 + n.toInt64) (M 11 0 2 (nI b).toNatClampNeg).toInt64 ≤ 0 := h5
  rw [ea, hna, l64sum (by omega)] at h4
  rw [eb, hnb, l64sumle (by omega)] at h5
  simp only [i3_lt, Int32.reduceToInt] at h1 h2 h3
  omega
/-- what a copy from above leaves -/
def cdn (f : Nat → Int32) (sp dp n k : Nat) : Nat → Int32 := fun x => if dp + n - k ≤ x ∧ x < dp + n then f (sp + (x - dp)) else f x
theorem cpy_up {f : Nat → Int32} {sp dp k : Nat} (h : sp + k < dp ∨ dp + k ≤ sp + k) : upd (va_cpy f f sp dp k) (dp + k) (va_cpy f f sp dp k (sp + k)) = va_cpy f f sp dp (k + 1) := by
  funext x
  simp only [upd, va_cpy]
  rw [if_neg (show ¬ (dp ≤ sp + k ∧ sp + k < dp + k) by omega)]
  by_cases hx : x = dp + k
  · subst hx
    rw [if_pos rfl, if_pos (by omega)]
    congr 1
    omega
  · rw [if_neg hx]
    by_cases h2 : dp ≤ x ∧ x < dp + k
    · rw [if_pos h2, if_pos (by omega)]
    · rw [if_neg h2, if_neg (by omega)]
theorem cpy_dn {f : Nat → Int32} {sp dp n k : Nat} (hk : k < n) (h : sp + n ≤ dp ∨ dp + n ≤ sp ∨ sp < dp) : upd (cdn f sp dp n k) (dp + (n - 1 - k)) (cdn f sp dp n k (sp + (n - 1 - k))) = cdn f sp dp n (k + 1) := by
  funext x
  simp only [upd, cdn]
  rw [if_neg (show ¬ (dp + n - k ≤ sp + (n - 1 - k) ∧ sp + (n - 1 - k) < dp + n) by omega)]
  by_cases hx : x = dp + (n - 1 - k)
  · subst hx
    rw [if_pos rfl, if_pos (by omega)]
    congr 1
    omega
  · rw [if_neg hx]
    by_cases h2 : dp + n - k ≤ x ∧ x < dp + n
    · rw [if_pos h2, if_pos (by omega)]
    · rw [if_neg h2, if_neg (by omega)]
theorem cdn_0 {f : Nat → Int32} {sp dp n : Nat} : cdn f sp dp n 0 = f := by
  funext x
  simp only [cdn]
  rw [if_neg (by omega)]
theorem cdn_n {f : Nat → Int32} {sp dp n : Nat} : cdn f sp dp n n = va_cpy f f sp dp n := by
  funext x
  simp only [cdn, va_cpy]
  by_cases h : dp ≤ x ∧ x < dp + n
  · rw [if_pos h, if_pos (by omega)]
  · rw [if_neg h, if_neg (by omega)]
theorem cpy_0 {f : Nat → Int32} {sp dp : Nat} : va_cpy f f sp dp 0 = f := by
  funext x
  simp only [va_cpy]
  rw [if_neg (by omega)]
theorem c_Ref_copy_ok (a b na nb i j n : Nat) (M : am_M) (ha : a < 8) (hb : b < 8) (g1 : 0 ≤ M 11 0 1 a) (g2 : 0 ≤ M 11 0 1 b) (g3 : M 11 0 1 a = M 11 0 1 b) (hna : M 11 0 2 a = nI na) (hnb : M 11 0 2 b = nI nb) (h40a : na ≤ 40) (h40b : nb ≤ 40) (hi : i + n ≤ na) (hj : j + n ≤ nb) : Con 6 mRef_copy [aR 11 0 0, aI (nI a), aI (nI i), aI (nI b), aI (nI j), aI (nI n)] M (some (aI (nI n))) (sA (rS (rT M) 0) 11 0 3 (va_cpy (M 11 0 3) (M 11 0 3) (40 * a + i) (40 * b + j) n)) := by
  have ea : (nI a).toNatClampNeg = a := cl_nI (by omega)
  have eb : (nI b).toNatClampNeg = b := cl_nI (by omega)
  have ix : ∀ r i t : Nat, 40 * nI r + nI i + nI t = nI (40 * r + i + t) := by
    intro r i t
    rw [e40, nI_add]
  refine con_of okRef_copy [some (aR 11 0 0), some (aI (nI a)), some (aI (nI i)), some (aI (nI b)), some (aI (nI j)), some (aI (nI n)), none, none, none] (some .int) ?_
  intro J hgo
  have up : i ≥ j → ∀ m k kv M2 (z : Option am_V), m = n - k → k ≤ n → kv = nI k → M2 = sA (rS (rT M) 0) 11 0 3 (va_cpy (M 11 0 3) (M 11 0 3) (40 * a + i) (40 * b + j) k) → (∀ x, z ≠ some (aL x)) → J 143 [some (aR 11 0 0), some (aI (nI a)), some (aI (nI i)), some (aI (nI b)), some (aI (nI j)), some (aI (nI n)), some (aI 1), some (aI kv), z] [] M2 := by
    intro hij m
    induction m with
    | zero =>
      intro k kv M2 z hm hk hv hM hz
      obtain rfl : k = n := by omega
      subst hv
      refine hgo [] _ _ _ _ ?_
      refine brt (nI_le (Nat.le_refl _) (by omega)) ?_
      refine hgo [] _ _ _ _ ?_
      exact ⟨rfl, hM⟩
    | succ m ih =>
      intro k kv M2 z hm hk hv hM hz
      subst hv
      refine hgo [] _ _ _ _ ?_
      refine brf (nI_ge (by omega) (by omega)) ?_
      refine brf (by decide) ?_
      refine hgo [] _ _ _ _ ?_
      refine ob_ (by rw [ix]; exact vp_in_nI (by omega) (by omega)) ?_
      refine ob_ (by rw [ix]; exact vp_in_nI (by omega) (by omega)) ?_
      refine ih (k + 1) _ _ _ (by omega) (by omega) (nI_1 k) ?_ (fun x q => by cases q)
      rw [hM, ix, ix, cl_nI (by omega), cl_nI (by omega), sA_s, sA_sA]
      rw [cpy_up (by omega)]
  have dn : ¬ i ≥ j → ∀ m k kv M2 (z : Option am_V), m = n - k → k ≤ n → kv = nI k → M2 = sA (rS (rT M) 0) 11 0 3 (cdn (M 11 0 3) (40 * a + i) (40 * b + j) n k) → (∀ x, z ≠ some (aL x)) → J 143 [some (aR 11 0 0), some (aI (nI a)), some (aI (nI i)), some (aI (nI b)), some (aI (nI j)), some (aI (nI n)), some (aI 0), some (aI kv), z] [] M2 := by
    intro hij m
    induction m with
    | zero =>
      intro k kv M2 z hm hk hv hM hz
      obtain rfl : k = n := by omega
      subst hv
      refine hgo [] _ _ _ _ ?_
      refine brt (nI_le (Nat.le_refl _) (by omega)) ?_
      refine hgo [] _ _ _ _ ?_
      exact ⟨rfl, by rw [hM, cdn_n]⟩
    | succ m ih =>
      intro k kv M2 z hm hk hv hM hz
      subst hv
      have e9 : nI n - 1 - nI k = nI (n - 1 - k) := by
        have h1 : nI n - 1 = nI (n - 1) := pk_sub (a := n) (b := 1) (by omega)
        rw [h1, pk_sub (by omega)]
      refine hgo [] _ _ _ _ ?_
      refine brf (nI_ge (by omega) (by omega)) ?_
      refine brt (by decide) ?_
      refine hgo [] _ _ _ _ ?_
      refine ob_ (by rw [e9, ix]; exact vp_in_nI (by omega) (by omega)) ?_
      refine ob_ (by rw [e9, ix]; exact vp_in_nI (by omega) (by omega)) ?_
      refine ih (k + 1) _ _ _ (by omega) (by omega) (nI_1 k) ?_ (fun x q => by cases q)
      rw [hM, e9, ix, ix, cl_nI (by omega), cl_nI (by omega), sA_s, sA_sA]
      rw [cpy_dn (by omega) (by omega)]
  refine hgo [] _ _ _ _ ?_
  refine cl_ (c_Ref_isRow _ _) ?_
  refine brbt (nin (n := 8) ha (by omega)) ?_
  refine cl_ (c_Ref_isRow _ _) ?_
  refine brbt (nin (n := 8) hb (by omega)) ?_
  refine hgo [] _ _ _ _ ?_
  refine ob_ (vp_in_nI ha (by omega)) ?_
  refine brf (show ¬ M 11 0 1 (nI a).toNatClampNeg < 0 by rw [ea]; exact ge_nlt g1) ?_
  refine ob_ (vp_in_nI hb (by omega)) ?_
  refine brt (show 0 ≤ M 11 0 1 (nI b).toNatClampNeg by rw [eb]; exact g2) ?_
  refine hgo [] _ _ _ _ ?_
  refine ob_ (vp_in_nI ha (by omega)) ?_
  refine ob_ (vp_in_nI hb (by omega)) ?_
  refine brt (show M 11 0 1 (nI a).toNatClampNeg = M 11 0 1 (nI b).toNatClampNeg by rw [ea, eb]; exact g3) ?_
  refine hgo [] _ _ _ _ ?_
  refine brf (nI_pos (by omega)) ?_
  refine brf (nI_pos (by omega)) ?_
  refine brf (nI_pos (by omega)) ?_
  refine ob_ (vp_in_nI ha (by omega)) ?_
  refine brf (show ¬ 0 < lg_cmp ((nI i).toInt64 + (nI n).toInt64) (M 11 0 2 (nI a).toNatClampNeg).toInt64 by rw [ea, hna, l64sum (by omega), i3_n (by omega), i3_n (by omega)]; omega) ?_
  refine ob_ (vp_in_nI hb (by omega)) ?_
  refine brt (show lg_cmp ((nI j).toInt64 + (nI n).toInt64) (M 11 0 2 (nI b).toNatClampNeg).toInt64 ≤ 0 by rw [eb, hnb, l64sumle (by omega), i3_n (by omega), i3_n (by omega)]; omega) ?_
  refine hgo [143] _ _ _ _ ?_
  have hid : rS (rT M) 0 = sA (rS (rT M) 0) 11 0 3 (M 11 0 3) := (sA_id (M := rS (rT M) 0) (k := 11) (j := 0) (o := 3)).symm
  by_cases hij : i ≥ j
  · refine brf (nI_nlt hij (by omega)) ?_
    refine hgo [143] _ _ _ _ ?_
    refine up hij _ 0 _ _ _ rfl (by omega) rfl ?_ (fun x q => by cases q)
    rw [cpy_0]
    exact hid
  · refine brt (nI_lt (by omega) (by omega)) ?_
    refine hgo [143] _ _ _ _ ?_
    refine dn hij _ 0 _ _ _ rfl (by omega) rfl ?_ (fun x q => by cases q)
    rw [cdn_0]
    exact hid
theorem op_copy (a i b j n : Int32) (M : am_M) (hR : Rel M) : OpAt mMain_copy mRef_copy [aI a, aI i, aI b, aI j, aI n] M := by
  by_cases hab : (0 ≤ a ∧ a < 8) ∧ (0 ≤ b ∧ b < 8)
  · obtain ⟨p, hp, rfl⟩ := rowN hab.1
    obtain ⟨q, hq, rfl⟩ := rowN hab.2
    have nn : ∀ r, r < 8 → M 1 0 1 r = 0 → M 11 0 1 r < 0 := by
      intro r hr h
      rcases hR.1 r hr with ⟨h1, h2, h3⟩ | ⟨h1, -⟩
      · rw [h2]; decide
      · rw [h] at h1; exact absurd h1 (by decide)
    have yy : ∀ r, r < 8 → ¬ M 1 0 1 r = 0 → (0 ≤ M 1 0 2 r ∧ M 1 0 2 r ≤ 2) ∧ M 11 0 1 r = M 1 0 2 r ∧ ∃ n : Nat, n ≤ 40 ∧ M 1 0 3 r = nI n ∧ M 11 0 2 r = nI n ∧ ∀ i, i < n → M 1 0 4 (40 * r + i) = M 11 0 3 (40 * r + i) := by
      intro r hr h
      rcases hR.1 r hr with ⟨h1, h2, h3⟩ | ⟨h1, h2⟩
      · exact absurd h1 h
      · exact h2
    by_cases ht : ¬ M 1 0 1 p = 0 ∧ ¬ M 1 0 1 q = 0
    · obtain ⟨a1, a2, na, a3, a4, a5, a6⟩ := yy p hp ht.1
      obtain ⟨b1, b2, nb, b3, b4, b5, b6⟩ := yy q hq ht.2
      have l1 : 0 ≤ M 11 0 1 p := by rw [a2]; exact a1.1
      have l2 : 0 ≤ M 11 0 1 q := by rw [b2]; exact b1.1
      by_cases hl : M 1 0 2 p = M 1 0 2 q
      · have hl2 : M 11 0 1 p = M 11 0 1 q := by rw [a2, b2]; exact hl
        by_cases hpl : (0 ≤ i.toInt ∧ 0 ≤ n.toInt ∧ i.toInt + n.toInt ≤ na) ∧ (0 ≤ j.toInt ∧ 0 ≤ n.toInt ∧ j.toInt + n.toInt ≤ nb)
        · obtain ⟨i, hi, rfl⟩ := intN (a := i) (m := 41) (by omega)
          obtain ⟨j, hj, rfl⟩ := intN (a := j) (m := 41) (by omega)
          obtain ⟨n, hn, rfl⟩ := intN (a := n) (m := 41) (by omega)
          rw [i3_n (by omega), i3_n (by omega), i3_n (by omega)] at hpl
          refine op_mk (c_Main_copy_ok p q na nb i j n M hp hq ht.1 ht.2 hl a4 b4 a3 b3 (by omega) (by omega)) (c_Ref_copy_ok p q na nb i j n _ hp hq l1 l2 hl2 a5 b5 a3 b3 (by omega) (by omega)) (Rel_rows hR ?_ rfl rfl rfl rfl rfl rfl ?_ ?_ rfl rfl)
          · refine Rrow_set hR.1 q hq (fun r hr hrq => ?_) (Or.inr ⟨?_, b1, b2, nb, b3, b4, b5, fun k hk => ?_⟩)
            · refine ⟨rfl, rfl, rfl, rfl, rfl, fun k hk => ⟨?_, ?_⟩⟩
              · exact if_neg (by omega)
              · exact if_neg (by omega)
            · rcases hR.1 q hq with ⟨h1, h2, h3⟩ | ⟨h1, -⟩
              · exact absurd h1 ht.2
              · exact h1
            · show va_cpy (M 1 0 4) (M 1 0 4) (40 * p + i) (40 * q + j) n (40 * q + k) = va_cpy (M 11 0 3) (M 11 0 3) (40 * p + i) (40 * q + j) n (40 * q + k)
              simp only [va_cpy]
              by_cases h : 40 * q + j ≤ 40 * q + k ∧ 40 * q + k < 40 * q + j + n
              · rw [if_pos h, if_pos h]
                have := a6 (i + (k - j)) (by omega)
                have e0 : 40 * p + i + (40 * q + k - (40 * q + j)) = 40 * p + (i + (k - j)) := by omega
                rw [e0]
                exact this
              · rw [if_neg h, if_neg h]
                exact b6 k hk
          · intro o ho
            have h3 : o ≠ 3 := by omega
            have h0 : o ≠ 0 := by omega
            simp only [rS, rT, mS, sA_o h0, sA_o h3, sA_k (show (11 : Nat) ≠ 0 by decide), sA_k (show (11 : Nat) ≠ 1 by decide)]
          · intro i hi; rcases hi with rfl | rfl | rfl | rfl | rfl <;> rfl
        · exact op_mk (c_Main_copy_place p q na nb i j n M hp hq ht.1 ht.2 hl a4 b4 a3 b3 hpl) (c_Ref_copy_place p q na nb i j n _ hp hq l1 l2 hl2 a5 b5 a3 b3 hpl) (Rel_find hR 2)
      · exact op_mk (c_Main_copy_store p q i j n M hp hq ht.1 ht.2 hl) (c_Ref_copy_store p q i j n _ hp hq l1 l2 (by show ¬ M 11 0 1 p = M 11 0 1 q; rw [a2, b2]; exact hl)) (Rel_find hR 5)
    · refine op_mk (c_Main_copy_null p q i j n M hp hq ht) (c_Ref_copy_null p q i j n _ hp hq ?_) (Rel_find hR 1)
      by_cases h1 : M 1 0 1 p = 0
      · exact Or.inl (nn p hp h1)
      · exact Or.inr (nn q hq (Decidable.not_not.mp (fun h2 => ht ⟨h1, h2⟩)))
  · exact op_mk (c_Main_copy_bad a i b j n M hab) (c_Ref_copy_bad a i b j n M hab) (Rel_bad hR)
