theorem holdI {na : Nat} (h : na ≤ 40) {i n : Int32} : (0 ≤ i ∧ 0 ≤ n ∧ i ≤ nI na - n) ↔ (0 ≤ i.toInt ∧ 0 ≤ n.toInt ∧ i.toInt + n.toInt ≤ na) := by
  have e0 := i3_n (n := na) (by omega)
  have r1 := i3_rng n
  simp only [i3_le, Int32.reduceToInt]
  constructor
  · rintro ⟨h1, h2, h3⟩
    rw [i3_sub (by omega) (by omega)] at h3
    omega
  · rintro ⟨h1, h2, h3⟩
    rw [i3_sub (by omega) (by omega)]
    omega
theorem c_Rows_holdsN (r na : Nat) (i n : Int32) (M : am_M) (hr : r < 8) (hn : M 1 0 3 r = nI na) (h40 : na ≤ 40) : Con 2 mRows_holds [aR 1 0 0, aI (nI r), aI i, aI n] M (some (aI (b2i (0 ≤ i.toInt ∧ 0 ≤ n.toInt ∧ i.toInt + n.toInt ≤ na)))) M := by
  have h := c_Rows_holds (nI r) i n M
  rw [cl_nI (by omega), hn, b2i_iff (q := 0 ≤ i.toInt ∧ 0 ≤ n.toInt ∧ i.toInt + n.toInt ≤ na) (by rw [holdI h40]; exact ⟨fun q => q.2, fun q => ⟨nin (n := 8) hr (by omega), q⟩⟩)] at h
  exact h
theorem c_Rows_isThereN (r : Nat) (M : am_M) (hr : r < 8) : Con 2 mRows_isThere [aR 1 0 0, aI (nI r)] M (some (aI (b2i (¬ M 1 0 1 r = 0)))) M := by
  have h := c_Rows_isThere (nI r) M
  rw [cl_nI (by omega), b2i_iff (q := ¬ M 1 0 1 r = 0) ⟨fun q => q.2.2, fun q => ⟨(nin (n := 8) hr (by omega)).1, (nin (n := 8) hr (by omega)).2, q⟩⟩] at h
  exact h
theorem rowN {a : Int32} (h : 0 ≤ a ∧ a < 8) : ∃ r : Nat, r < 8 ∧ a = nI r := by
  simp only [i3_le, i3_lt, Int32.reduceToInt] at h
  have := i3_cl h.1
  exact ⟨a.toNatClampNeg, by omega, i3_of h.1⟩
theorem intN {a : Int32} {m : Nat} (h : 0 ≤ a.toInt ∧ a.toInt < m) : ∃ r : Nat, r < m ∧ a = nI r := by
  have := i3_cl h.1
  exact ⟨a.toNatClampNeg, by omega, i3_of h.1⟩
/-! set -/
def nv (l v : Int32) : Int32 := if l = 0 then v.toInt8.toInt32 else if l = 1 then v.toInt16.toInt32 else v
theorem c_Main_set_bad (a i v : Int32) (M : am_M) (h : ¬ (0 ≤ a ∧ a < 8)) : Con 6 mMain_set [aR 0 0 0, aI a, aI i, aI v] M (some (aI (-1000001))) M := by
  refine con_of okMain_set [some (aR 0 0 0), some (aI a), some (aI i), some (aI v)] (some .int) ?_
  intro J hgo
  refine hgo [] _ _ _ _ ?_
  refine cl_ (c_Rows_isRow _ _) ?_   -- call1
  refine brbf (h) ?_
  (first | exact ⟨rfl, rfl⟩ | (refine ⟨?_, rfl⟩; (first | rfl | (simp [b2i]; done) | (rw [b2i_t]; simp only [vp_in_iff, i3_lt, i3_le, i3_eq, Int32.reduceToInt, i3_m1] <;> omega) | (rw [b2i_f]; simp only [vp_in_iff, i3_lt, i3_le, i3_eq, Int32.reduceToInt, i3_m1] <;> omega))))   -- leaf2
theorem c_Main_set_null (r : Nat) (i v : Int32) (M : am_M) (hr : r < 8) (h : M 1 0 1 r = 0) : Con 6 mMain_set [aR 0 0 0, aI (nI r), aI i, aI v] M (some (aI (-1000011))) (mS M 1) := by
  refine con_of okMain_set [some (aR 0 0 0), some (aI (nI r)), some (aI i), some (aI v)] (some .int) ?_
  intro J hgo
  refine hgo [] _ _ _ _ ?_
  refine cl_ (c_Rows_isRow _ _) ?_   -- call1
  refine brbt (nin (n := 8) hr (by omega)) ?_
  refine hgo [] _ _ _ _ ?_
  refine cl_ (c_Rows_isThereN r _ hr) ?_   -- call2
  refine brbf (fun q => q h) ?_
  refine cl_ (c_Main_found _ _) ?_   -- call3
  (first | exact ⟨rfl, rfl⟩ | (refine ⟨?_, rfl⟩; (first | rfl | (simp [b2i]; done) | (rw [b2i_t]; simp only [vp_in_iff, i3_lt, i3_le, i3_eq, Int32.reduceToInt, i3_m1] <;> omega) | (rw [b2i_f]; simp only [vp_in_iff, i3_lt, i3_le, i3_eq, Int32.reduceToInt, i3_m1] <;> omega))))   -- leaf4
theorem c_Main_set_place (r n : Nat) (i v : Int32) (M : am_M) (hr : r < 8) (h : ¬ M 1 0 1 r = 0) (hn : M 1 0 3 r = nI n) (h40 : n ≤ 40) (hp : ¬ (0 ≤ i.toInt ∧ 0 ≤ (1 : Int32).toInt ∧ i.toInt + (1 : Int32).toInt ≤ n)) : Con 6 mMain_set [aR 0 0 0, aI (nI r), aI i, aI v] M (some (aI (-1000012))) (mS M 2) := by
  refine con_of okMain_set [some (aR 0 0 0), some (aI (nI r)), some (aI i), some (aI v)] (some .int) ?_
  intro J hgo
  refine hgo [] _ _ _ _ ?_
  refine cl_ (c_Rows_isRow _ _) ?_   -- call1
  refine brbt (nin (n := 8) hr (by omega)) ?_
  refine hgo [] _ _ _ _ ?_
  refine cl_ (c_Rows_isThereN r _ hr) ?_   -- call2
  refine brbt (h) ?_
  refine hgo [] _ _ _ _ ?_
  refine cl_ (c_Rows_holdsN r n _ _ _ hr hn h40) ?_   -- call3
  refine brbf (hp) ?_
  refine cl_ (c_Main_found _ _) ?_   -- call4
  (first | exact ⟨rfl, rfl⟩ | (refine ⟨?_, rfl⟩; (first | rfl | (simp [b2i]; done) | (rw [b2i_t]; simp only [vp_in_iff, i3_lt, i3_le, i3_eq, Int32.reduceToInt, i3_m1] <;> omega) | (rw [b2i_f]; simp only [vp_in_iff, i3_lt, i3_le, i3_eq, Int32.reduceToInt, i3_m1] <;> omega))))   -- leaf5
theorem c_Main_set_ok (r n i : Nat) (v : Int32) (M : am_M) (hr : r < 8) (h : ¬ M 1 0 1 r = 0) (hn : M 1 0 3 r = nI n) (h40 : n ≤ 40) (hi : i < n) : Con 6 mMain_set [aR 0 0 0, aI (nI r), aI (nI i), aI v] M (some (aI (nv (M 1 0 2 r) v))) (mS (sA M 1 0 4 (upd (M 1 0 4) (40 * r + i) (nv (M 1 0 2 r) v))) 0) := by
  refine con_of okMain_set [some (aR 0 0 0), some (aI (nI r)), some (aI (nI i)), some (aI v)] (some .int) ?_
  intro J hgo
  refine hgo [] _ _ _ _ ?_
  refine cl_ (c_Rows_isRow _ _) ?_   -- call1
  refine brbt (nin (n := 8) hr (by omega)) ?_
  refine hgo [] _ _ _ _ ?_
  refine cl_ (c_Rows_isThereN r _ hr) ?_   -- call2
  refine brbt (h) ?_
  refine hgo [] _ _ _ _ ?_
  refine cl_ (c_Rows_holdsN r n _ _ _ hr hn h40) ?_   -- call3
  refine brbt (by simp only [Int32.reduceToInt]; rw [i3_n (by omega)]; omega) ?_
  refine hgo [] _ _ _ _ ?_
  refine cl_ (c_Rows_put r i n v _ hr hn h40 hi) ?_   -- call4
  refine cl_ (c_Main_clean _ _) ?_   -- call5
  (first | exact ⟨rfl, rfl⟩ | (refine ⟨?_, rfl⟩; (first | rfl | (simp [b2i]; done) | (rw [b2i_t]; simp only [vp_in_iff, i3_lt, i3_le, i3_eq, Int32.reduceToInt, i3_m1] <;> omega) | (rw [b2i_f]; simp only [vp_in_iff, i3_lt, i3_le, i3_eq, Int32.reduceToInt, i3_m1] <;> omega))))   -- leaf6
theorem c_Ref_set_bad (a i v : Int32) (M : am_M) (h : ¬ (0 ≤ a ∧ a < 8)) : Con 6 mRef_set [aR 11 0 0, aI a, aI i, aI v] M (some (aI (-1000001))) (rT M) := by
  refine con_of okRef_set [some (aR 11 0 0), some (aI a), some (aI i), some (aI v)] (some .int) ?_
  intro J hgo
  refine hgo [] _ _ _ _ ?_
  refine cl_ (c_Ref_isRow _ _) ?_   -- call1
  refine brbf (h) ?_
  (first | exact ⟨rfl, rfl⟩ | (refine ⟨?_, rfl⟩; (first | rfl | (simp [b2i]; done) | (rw [b2i_t]; simp only [vp_in_iff, i3_lt, i3_le, i3_eq, Int32.reduceToInt, i3_m1] <;> omega) | (rw [b2i_f]; simp only [vp_in_iff, i3_lt, i3_le, i3_eq, Int32.reduceToInt, i3_m1] <;> omega))))   -- leaf2
theorem e40 {r i : Nat} : 40 * nI r + nI i = nI (40 * r + i) := by
  show nI 40 * nI r + nI i = _
  rw [pk_mul, nI_add]
theorem c_Ref_set_null (r : Nat) (i v : Int32) (M : am_M) (hr : r < 8) (h : M 11 0 1 r = -1) : Con 6 mRef_set [aR 11 0 0, aI (nI r), aI i, aI v] M (some (aI (-1000011))) (rS (rS (rT M) 0) 1) := by
  refine con_of okRef_set [some (aR 11 0 0), some (aI (nI r)), some (aI i), some (aI v)] (some .int) ?_
  intro J hgo
  refine hgo [] _ _ _ _ ?_
  refine cl_ (c_Ref_isRow _ _) ?_
  refine brbt (nin (n := 8) hr (by omega)) ?_
  refine hgo [] _ _ _ _ ?_
  refine ob_ (vp_in_nI hr (by omega)) ?_
  refine brf ?_ ?_
  · show ¬ 0 ≤ M 11 0 1 (nI r).toNatClampNeg
    rw [cl_nI (by omega), h]
    decide
  refine cl_ (c_Ref_finding _ _) ?_
  exact ⟨rfl, rfl⟩
theorem c_Ref_set_place (r n : Nat) (i v : Int32) (M : am_M) (hr : r < 8) (h : 0 ≤ M 11 0 1 r) (hn : M 11 0 2 r = nI n) (h40 : n ≤ 40) (hp : ¬ (0 ≤ i.toInt ∧ i.toInt < n)) : Con 6 mRef_set [aR 11 0 0, aI (nI r), aI i, aI v] M (some (aI (-1000012))) (rS (rS (rT M) 0) 2) := by
  refine con_of okRef_set [some (aR 11 0 0), some (aI (nI r)), some (aI i), some (aI v)] (some .int) ?_
  intro J hgo
  refine hgo [] _ _ _ _ ?_
  refine cl_ (c_Ref_isRow _ _) ?_
  refine brbt (nin (n := 8) hr (by omega)) ?_
  refine hgo [] _ _ _ _ ?_
  refine ob_ (vp_in_nI hr (by omega)) ?_
  refine brt ?_ ?_
  · show 0 ≤ M 11 0 1 (nI r).toNatClampNeg
    rw [cl_nI (by omega)]
    exact h
  refine hgo [] _ _ _ _ ?_
  refine ob_ (vp_in_nI hr (by omega)) ?_
  refine cl_ (c_Ref_in i 0 (M 11 0 2 (nI r).toNatClampNeg - 1) _ _ _ rfl (by decide) rfl _) ?_
  refine brbf ?_ ?_
  · rw [cl_nI (by omega), hn]
    have e0 := i3_n (n := n) (by omega)
    have e1 : (1 : Int32).toInt = 1 := by decide
    simp only [i3_le, Int32.reduceToInt]
    rw [i3_sub (by omega) (by omega), e0]
    simp only [Int32.reduceToInt]
    omega
  refine cl_ (c_Ref_finding _ _) ?_
  exact ⟨rfl, rfl⟩
theorem c_Ref_set_ok (r n i : Nat) (v : Int32) (M : am_M) (hr : r < 8) (h : 0 ≤ M 11 0 1 r) (hn : M 11 0 2 r = nI n) (h40 : n ≤ 40) (hi : i < n) : Con 6 mRef_set [aR 11 0 0, aI (nI r), aI (nI i), aI v] M (some (aI (nv (M 11 0 1 r) v))) (sA (rS (rT M) 0) 11 0 3 (upd (M 11 0 3) (40 * r + i) (nv (M 11 0 1 r) v))) := by
  have e3 : (nI r).toNatClampNeg = r := cl_nI (by omega)
  have e4 : (40 * nI r + nI i).toNatClampNeg = 40 * r + i := by rw [e40]; exact cl_nI (by omega)
  have e5 : vp_in (40 * nI r + nI i) 320 := by rw [e40]; exact vp_in_nI (by omega) (by omega)
  refine con_of okRef_set [some (aR 11 0 0), some (aI (nI r)), some (aI (nI i)), some (aI v)] (some .int) ?_
  intro J hgo
  refine hgo [] _ _ _ _ ?_
  refine cl_ (c_Ref_isRow _ _) ?_
  refine brbt (nin (n := 8) hr (by omega)) ?_
  refine hgo [] _ _ _ _ ?_
  refine ob_ (vp_in_nI hr (by omega)) ?_
  refine brt ?_ ?_
  · show 0 ≤ M 11 0 1 (nI r).toNatClampNeg
    rw [e3]
    exact h
  refine hgo [] _ _ _ _ ?_
  refine ob_ (vp_in_nI hr (by omega)) ?_
  refine cl_ (c_Ref_in (nI i) 0 (M 11 0 2 (nI r).toNatClampNeg - 1) _ _ _ rfl (by decide) rfl _) ?_
  refine brbt ?_ ?_
  · rw [e3, hn]
    have h1 : nI n - 1 = nI (n - 1) := pk_sub (a := n) (b := 1) (by omega)
    rw [h1]
    exact ⟨nI_pos' (by omega), nI_le (by omega) (by omega)⟩
  refine hgo [] _ _ _ _ ?_
  refine ob_ (vp_in_nI hr (by omega)) ?_
  refine br_ (fun h1 => ?_) (fun h1 => ?_)
  · refine hgo [] _ _ _ _ ?_
    refine ob_ e5 ?_
    refine ob_ e5 ?_
    have h1 : M 11 0 1 r = 0 := by rw [← e3]; exact h1
    refine ⟨?_, ?_⟩
    · rw [sA_s, upd_s, nv, if_pos h1]
    · rw [e4, nv, if_pos h1]; rfl
  · refine hgo [] _ _ _ _ ?_
    have h1 : ¬ M 11 0 1 r = 0 := by rw [← e3]; exact h1
    refine ob_ (vp_in_nI hr (by omega)) ?_
    refine br_ (fun h2 => ?_) (fun h2 => ?_)
    · refine hgo [] _ _ _ _ ?_
      refine ob_ e5 ?_
      refine ob_ e5 ?_
      have h2 : M 11 0 1 r = 1 := by rw [← e3]; exact h2
      refine ⟨?_, ?_⟩
      · rw [sA_s, upd_s, nv, if_neg h1, if_pos h2]
      · rw [e4, nv, if_neg h1, if_pos h2]; rfl
    · refine hgo [] _ _ _ _ ?_
      refine ob_ e5 ?_
      refine ob_ e5 ?_
      have h2 : ¬ M 11 0 1 r = 1 := by rw [← e3]; exact h2
      refine ⟨?_, ?_⟩
      · rw [sA_s, upd_s, nv, if_neg h1, if_neg h2]
      · rw [e4, nv, if_neg h1, if_neg h2]; rfl
/-- only the finding changed -/
theorem Rel_find {M : am_M} (hR : Rel M) (x : Int32) : Rel (rS (rS (rT (mS M x)) 0) x) := by
  refine Rel_keep hR rfl rfl rfl rfl rfl rfl rfl ?_ ?_ rfl rfl
  · intro o ho
    simp only [rS, rT, mS, sA_o ho, sA_k (show (11 : Nat) ≠ 0 by decide)]
  · intro i hi; rcases hi with rfl | rfl | rfl | rfl | rfl <;> rfl
theorem Rel_bad {M : am_M} (hR : Rel M) : Rel (rT M) := by
  refine Rel_keep hR rfl rfl rfl rfl rfl rfl rfl ?_ ?_ rfl ?_
  · intro o ho; exact sA_o ho
  · intro i hi; rcases hi with rfl | rfl | rfl | rfl | rfl <;> rfl
  · exact hR.2.2.1.2
theorem op_set (a i v : Int32) (M : am_M) (hR : Rel M) : OpAt mMain_set mRef_set [aI a, aI i, aI v] M := by
  by_cases ha : 0 ≤ a ∧ a < 8
  · obtain ⟨r, hr, rfl⟩ := rowN ha
    rcases hR.1 r hr with ⟨h1, h2, h3⟩ | ⟨h1, h2, h3, n, h4, h5, h6, h7⟩
    · exact op_mk (c_Main_set_null r i v M hr h1) (c_Ref_set_null r i v _ hr h2) (Rel_find hR 1)
    · have ht : ¬ M 1 0 1 r = 0 := by rw [h1]; decide
      have hl : 0 ≤ M 11 0 1 r := by rw [h3]; exact h2.1
      by_cases hi : 0 ≤ i.toInt ∧ i.toInt < n
      · obtain ⟨q, hq, rfl⟩ := intN hi
        refine op_mk (M2 := sA (rS (rT (mS (sA M 1 0 4 (upd (M 1 0 4) (40 * r + q) (nv (M 1 0 2 r) v))) 0)) 0) 11 0 3 (upd (M 11 0 3) (40 * r + q) (nv (M 11 0 1 r) v))) (c_Main_set_ok r n q v M hr ht h5 h4 hq) (by
          have := c_Ref_set_ok r n q v (mS (sA M 1 0 4 (upd (M 1 0 4) (40 * r + q) (nv (M 1 0 2 r) v))) 0) hr hl h6 h4 hq
          rw [show (mS (sA M 1 0 4 (upd (M 1 0 4) (40 * r + q) (nv (M 1 0 2 r) v))) 0) 11 0 1 r = M 1 0 2 r from h3] at this
          rw [h3]
          exact this) (Rel_rows hR ?_ rfl rfl rfl rfl rfl rfl ?_ ?_ rfl rfl)
        · refine Rrow_set hR.1 r hr (fun p hp hpr => ?_) (Or.inr ⟨h1, h2, h3, n, h4, h5, h6, fun k hk => ?_⟩)
          · refine ⟨rfl, rfl, rfl, rfl, rfl, fun k hk => ⟨?_, ?_⟩⟩
            · exact upd_n (by omega)
            · exact upd_n (by omega)
          · show upd (M 1 0 4) (40 * r + q) (nv (M 1 0 2 r) v) (40 * r + k) = upd (M 11 0 3) (40 * r + q) (nv (M 11 0 1 r) v) (40 * r + k)
            by_cases hkq : k = q
            · subst hkq
              rw [upd_s, upd_s, h3]
            · rw [upd_n (by omega), upd_n (by omega)]
              exact h7 k hk
        · intro o ho
          have h3 : o ≠ 3 := by omega
          have h0 : o ≠ 0 := by omega
          simp only [rS, rT, mS, sA_o h0, sA_o h3, sA_k (show (11 : Nat) ≠ 0 by decide), sA_k (show (11 : Nat) ≠ 1 by decide)]
        · intro i hi; rcases hi with rfl | rfl | rfl | rfl | rfl <;> rfl
      · refine op_mk (c_Main_set_place r n i v M hr ht h5 h4 ?_) (c_Ref_set_place r n i v _ hr hl h6 h4 hi) (Rel_find hR 2)
        simp only [Int32.reduceToInt]
        omega
  · exact op_mk (c_Main_set_bad a i v M ha) (c_Ref_set_bad a i v M ha) (Rel_bad hR)
/-! drop -/
theorem c_Main_drop_bad (a : Int32) (M : am_M) (h : ¬ (0 ≤ a ∧ a < 8)) : Con 6 mMain_drop [aR 0 0 0, aI a] M (some (aI (-1000001))) M := by
  refine con_of okMain_drop [some (aR 0 0 0), some (aI a)] (some .int) ?_
  intro J hgo
  refine hgo [] _ _ _ _ ?_
  refine cl_ (c_Rows_isRow _ _) ?_   -- call1
  refine brbf (h) ?_
  (first | exact ⟨rfl, rfl⟩ | (refine ⟨?_, rfl⟩; (first | rfl | (simp [b2i]; done) | (rw [b2i_t]; simp only [vp_in_iff, i3_lt, i3_le, i3_eq, Int32.reduceToInt, i3_m1] <;> omega) | (rw [b2i_f]; simp only [vp_in_iff, i3_lt, i3_le, i3_eq, Int32.reduceToInt, i3_m1] <;> omega))))   -- leaf2
theorem c_Main_drop_null (r : Nat) (M : am_M) (hr : r < 8) (h : M 1 0 1 r = 0) : Con 6 mMain_drop [aR 0 0 0, aI (nI r)] M (some (aI (-1000011))) (mS M 1) := by
  refine con_of okMain_drop [some (aR 0 0 0), some (aI (nI r))] (some .int) ?_
  intro J hgo
  refine hgo [] _ _ _ _ ?_
  refine cl_ (c_Rows_isRow _ _) ?_   -- call1
  refine brbt (nin (n := 8) hr (by omega)) ?_
  refine hgo [] _ _ _ _ ?_
  refine cl_ (c_Rows_isThereN r _ hr) ?_   -- call2
  refine brbf (fun q => q h) ?_
  refine cl_ (c_Main_found _ _) ?_   -- call3
  (first | exact ⟨rfl, rfl⟩ | (refine ⟨?_, rfl⟩; (first | rfl | (simp [b2i]; done) | (rw [b2i_t]; simp only [vp_in_iff, i3_lt, i3_le, i3_eq, Int32.reduceToInt, i3_m1] <;> omega) | (rw [b2i_f]; simp only [vp_in_iff, i3_lt, i3_le, i3_eq, Int32.reduceToInt, i3_m1] <;> omega))))   -- leaf4
theorem c_Rows_removeN (r : Nat) (M : am_M) (hr : r < 8) (h : ¬ M 1 0 1 r = 0) : Con 3 mRows_remove [aR 1 0 0, aI (nI r)] M (some (aI (M 1 0 3 r))) (sA (sA M 1 0 1 (upd (M 1 0 1) r 0)) 1 0 3 (upd (M 1 0 3) r 0)) := by
  have e3 : (nI r).toNatClampNeg = r := cl_nI (by omega)
  have := c_Rows_remove (nI r) M (nin (n := 8) hr (by omega)) (by rw [e3]; exact h)
  rw [e3] at this
  exact this
theorem c_Main_drop_ok (r : Nat) (M : am_M) (hr : r < 8) (h : ¬ M 1 0 1 r = 0) : Con 6 mMain_drop [aR 0 0 0, aI (nI r)] M (some (aI (M 1 0 3 r))) (mS (sA (sA M 1 0 1 (upd (M 1 0 1) r 0)) 1 0 3 (upd (M 1 0 3) r 0)) 0) := by
  refine con_of okMain_drop [some (aR 0 0 0), some (aI (nI r))] (some .int) ?_
  intro J hgo
  refine hgo [] _ _ _ _ ?_
  refine cl_ (c_Rows_isRow _ _) ?_   -- call1
  refine brbt (nin (n := 8) hr (by omega)) ?_
  refine hgo [] _ _ _ _ ?_
  refine cl_ (c_Rows_isThereN r _ hr) ?_   -- call2
  refine brbt (h) ?_
  refine hgo [] _ _ _ _ ?_
  refine cl_ (c_Rows_removeN r _ hr h) ?_   -- call3
  refine cl_ (c_Main_clean _ _) ?_   -- call4
  (first | exact ⟨rfl, rfl⟩ | (refine ⟨?_, rfl⟩; (first | rfl | (simp [b2i]; done) | (rw [b2i_t]; simp only [vp_in_iff, i3_lt, i3_le, i3_eq, Int32.reduceToInt, i3_m1] <;> omega) | (rw [b2i_f]; simp only [vp_in_iff, i3_lt, i3_le, i3_eq, Int32.reduceToInt, i3_m1] <;> omega))))   -- leaf5
theorem c_Ref_drop_bad (a : Int32) (M : am_M) (h : ¬ (0 ≤ a ∧ a < 8)) : Con 6 mRef_drop [aR 11 0 0, aI a] M (some (aI (-1000001))) (rT M) := by
  refine con_of okRef_drop [some (aR 11 0 0), some (aI a)] (some .int) ?_
  intro J hgo
  refine hgo [] _ _ _ _ ?_
  refine cl_ (c_Ref_isRow _ _) ?_   -- call1
  refine brbf (h) ?_
  (first | exact ⟨rfl, rfl⟩ | (refine ⟨?_, rfl⟩; (first | rfl | (simp [b2i]; done) | (rw [b2i_t]; simp only [vp_in_iff, i3_lt, i3_le, i3_eq, Int32.reduceToInt, i3_m1] <;> omega) | (rw [b2i_f]; simp only [vp_in_iff, i3_lt, i3_le, i3_eq, Int32.reduceToInt, i3_m1] <;> omega))))   -- leaf2
theorem c_Ref_drop_null (r : Nat) (M : am_M) (hr : r < 8) (h : M 11 0 1 r = -1) : Con 6 mRef_drop [aR 11 0 0, aI (nI r)] M (some (aI (-1000011))) (rS (rS (rT M) 0) 1) := by
  refine con_of okRef_drop [some (aR 11 0 0), some (aI (nI r))] (some .int) ?_
  intro J hgo
  refine hgo [] _ _ _ _ ?_
  refine cl_ (c_Ref_isRow _ _) ?_   -- call1
  refine brbt (nin (n := 8) hr (by omega)) ?_
  refine hgo [] _ _ _ _ ?_
  refine ob_ (by exact vp_in_nI hr (by omega)) ?_   -- ob2
  refine brf (by show ¬ 0 ≤ M 11 0 1 (nI r).toNatClampNeg; rw [cl_nI (by omega), h]; decide) ?_
  refine cl_ (c_Ref_finding _ _) ?_   -- call3
  (first | exact ⟨rfl, rfl⟩ | (refine ⟨?_, rfl⟩; (first | rfl | (simp [b2i]; done) | (rw [b2i_t]; simp only [vp_in_iff, i3_lt, i3_le, i3_eq, Int32.reduceToInt, i3_m1] <;> omega) | (rw [b2i_f]; simp only [vp_in_iff, i3_lt, i3_le, i3_eq, Int32.reduceToInt, i3_m1] <;> omega))))   -- leaf4
theorem c_Ref_drop_ok (r : Nat) (M : am_M) (hr : r < 8) (h : 0 ≤ M 11 0 1 r) : Con 6 mRef_drop [aR 11 0 0, aI (nI r)] M (some (aI (M 11 0 2 r))) (sA (rS (rT M) 0) 11 0 1 (upd (M 11 0 1) r (-1))) := by
  refine con_of okRef_drop [some (aR 11 0 0), some (aI (nI r))] (some .int) ?_
  intro J hgo
  refine hgo [] _ _ _ _ ?_
  refine cl_ (c_Ref_isRow _ _) ?_   -- call1
  refine brbt (nin (n := 8) hr (by omega)) ?_
  refine hgo [] _ _ _ _ ?_
  refine ob_ (by exact vp_in_nI hr (by omega)) ?_   -- ob2
  refine brt (by show 0 ≤ M 11 0 1 (nI r).toNatClampNeg; rw [cl_nI (by omega)]; exact h) ?_
  refine hgo [] _ _ _ _ ?_
  refine ob_ (by exact vp_in_nI hr (by omega)) ?_   -- ob3
  refine ob_ (by exact vp_in_nI hr (by omega)) ?_   -- ob4
  refine ⟨?_, ?_⟩ <;> rw [cl_nI (by omega)] <;> rfl   -- leaf5
theorem op_drop (a : Int32) (M : am_M) (hR : Rel M) : OpAt mMain_drop mRef_drop [aI a] M := by
  by_cases ha : 0 ≤ a ∧ a < 8
  · obtain ⟨r, hr, rfl⟩ := rowN ha
    rcases hR.1 r hr with ⟨h1, h2, h3⟩ | ⟨h1, h2, h3, n, h4, h5, h6, h7⟩
    · exact op_mk (c_Main_drop_null r M hr h1) (c_Ref_drop_null r _ hr h2) (Rel_find hR 1)
    · have ht : ¬ M 1 0 1 r = 0 := by rw [h1]; decide
      have hl : 0 ≤ M 11 0 1 r := by rw [h3]; exact h2.1
      have hC := c_Main_drop_ok r M hr ht
      rw [show M 1 0 3 r = M 11 0 2 r from h5.trans h6.symm] at hC
      refine op_mk hC (c_Ref_drop_ok r _ hr hl) (Rel_rows hR ?_ rfl rfl rfl rfl rfl rfl ?_ ?_ rfl rfl)
      · refine Rrow_set hR.1 r hr (fun p hp hpr => ?_) (Or.inl ⟨?_, ?_, ?_⟩)
        · exact ⟨upd_n hpr, rfl, upd_n hpr, upd_n hpr, rfl, fun k hk => ⟨rfl, rfl⟩⟩
        · exact upd_s
        · exact upd_s
        · exact upd_s
      · intro o ho
        have h1 : o ≠ 1 := by omega
        have h0 : o ≠ 0 := by omega
        simp only [rS, rT, mS, sA_o h0, sA_o h1, sA_k (show (11 : Nat) ≠ 0 by decide), sA_k (show (11 : Nat) ≠ 1 by decide)]
      · intro i hi; rcases hi with rfl | rfl | rfl | rfl | rfl <;> rfl
  · exact op_mk (c_Main_drop_bad a M ha) (c_Ref_drop_bad a M ha) (Rel_bad hR)
