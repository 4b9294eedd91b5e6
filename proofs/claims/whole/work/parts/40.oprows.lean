/-! row, set, copy, drop: class and reference -/
/-- the class's latest finding -/
def mS (M : am_M) (x : Int32) : am_M := sA M 0 0 0 (upd (M 0 0 0) 12 x)
theorem c_Main_found (n : Int32) (M : am_M) : Con 1 mMain_found [aR 0 0 0, aI n] M (some (aI (-1000010 - n))) (mS M n) := by
  refine con_of okMain_found [some (aR 0 0 0), some (aI n)] (some .int) ?_
  intro J hgo
  refine hgo [] _ _ _ _ ?_
  (first | exact ⟨rfl, rfl⟩ | (refine ⟨?_, rfl⟩; (first | rfl | (simp [b2i]; done) | (rw [b2i_t]; simp only [vp_in_iff, i3_lt, i3_le, i3_eq, Int32.reduceToInt, i3_m1] <;> omega) | (rw [b2i_f]; simp only [vp_in_iff, i3_lt, i3_le, i3_eq, Int32.reduceToInt, i3_m1] <;> omega))))   -- leaf1
theorem c_Main_clean (n : Int32) (M : am_M) : Con 1 mMain_clean [aR 0 0 0, aI n] M (some (aI n)) (mS M 0) := by
  refine con_of okMain_clean [some (aR 0 0 0), some (aI n)] (some .int) ?_
  intro J hgo
  refine hgo [] _ _ _ _ ?_
  (first | exact ⟨rfl, rfl⟩ | (refine ⟨?_, rfl⟩; (first | rfl | (simp [b2i]; done) | (rw [b2i_t]; simp only [vp_in_iff, i3_lt, i3_le, i3_eq, Int32.reduceToInt, i3_m1] <;> omega) | (rw [b2i_f]; simp only [vp_in_iff, i3_lt, i3_le, i3_eq, Int32.reduceToInt, i3_m1] <;> omega))))   -- leaf1
theorem c_Main_row_bad (a b c : Int32) (M : am_M) (h : ¬ ((0 ≤ a ∧ a < 8) ∧ (0 ≤ b ∧ b ≤ 2) ∧ c ≤ 40)) : Con 5 mMain_row [aR 0 0 0, aI a, aI b, aI c] M (some (aI (-1000001))) M := by
  refine con_of okMain_row [some (aR 0 0 0), some (aI a), some (aI b), some (aI c)] (some .int) ?_
  intro J hgo
  refine hgo [] _ _ _ _ ?_
  refine cl_ (c_Rows_isRow _ _) ?_   -- call1
  refine brb (fun h1 => ?_) (fun h1 => ?_)
  · skip
    refine hgo [] _ _ _ _ ?_
    (first | exact ⟨rfl, rfl⟩ | (refine ⟨?_, rfl⟩; (first | rfl | (simp [b2i, h1]; done) | (rw [b2i_t]; simp only [vp_in_iff, i3_lt, i3_le, i3_eq, Int32.reduceToInt, i3_m1] at h1 ⊢ <;> omega) | (rw [b2i_f]; simp only [vp_in_iff, i3_lt, i3_le, i3_eq, Int32.reduceToInt, i3_m1] at h1 ⊢ <;> omega) | (exfalso; simp only [vp_in_iff, i3_lt, i3_le, i3_eq, Int32.reduceToInt, i3_m1] at h1; omega))))   -- leaf2
  · skip
    refine cl_ (c_Rows_isLane _ _) ?_   -- call3
    refine brb (fun h2 => ?_) (fun h2 => ?_)
    · skip
      refine hgo [] _ _ _ _ ?_
      (first | exact ⟨rfl, rfl⟩ | (refine ⟨?_, rfl⟩; (first | rfl | (simp [b2i, h1, h2]; done) | (rw [b2i_t]; simp only [vp_in_iff, i3_lt, i3_le, i3_eq, Int32.reduceToInt, i3_m1] at h1 h2 ⊢ <;> omega) | (rw [b2i_f]; simp only [vp_in_iff, i3_lt, i3_le, i3_eq, Int32.reduceToInt, i3_m1] at h1 h2 ⊢ <;> omega) | (exfalso; simp only [vp_in_iff, i3_lt, i3_le, i3_eq, Int32.reduceToInt, i3_m1] at h1 h2; omega))))   -- leaf4
    · skip
      refine brf (fun q => h ⟨h1, h2, q⟩) ?_
      (first | exact ⟨rfl, rfl⟩ | (refine ⟨?_, rfl⟩; (first | rfl | (simp [b2i, h1, h2]; done) | (rw [b2i_t]; simp only [vp_in_iff, i3_lt, i3_le, i3_eq, Int32.reduceToInt, i3_m1] at h1 h2 ⊢ <;> omega) | (rw [b2i_f]; simp only [vp_in_iff, i3_lt, i3_le, i3_eq, Int32.reduceToInt, i3_m1] at h1 h2 ⊢ <;> omega) | (exfalso; simp only [vp_in_iff, i3_lt, i3_le, i3_eq, Int32.reduceToInt, i3_m1] at h1 h2; omega))))   -- leaf5
theorem c_Main_row_neg (a b c : Int32) (M : am_M) (g1 : 0 ≤ a ∧ a < 8) (g2 : 0 ≤ b ∧ b ≤ 2) (g3 : c < 0) : Con 5 mMain_row [aR 0 0 0, aI a, aI b, aI c] M (some (aI (-1000014))) (mS M 4) := by
  refine con_of okMain_row [some (aR 0 0 0), some (aI a), some (aI b), some (aI c)] (some .int) ?_
  intro J hgo
  refine hgo [] _ _ _ _ ?_
  refine cl_ (c_Rows_isRow _ _) ?_   -- call1
  refine brbt (g1) ?_
  refine cl_ (c_Rows_isLane _ _) ?_   -- call2
  refine brbt (g2) ?_
  refine brt (by (simp only [vp_in_iff, i3_lt, i3_le, i3_eq, Int32.reduceToInt, i3_m1] at g3 ⊢ <;> omega)) ?_
  refine hgo [] _ _ _ _ ?_
  refine brf (by (simp only [vp_in_iff, i3_lt, i3_le, i3_eq, Int32.reduceToInt, i3_m1] at g3 ⊢ <;> omega)) ?_
  refine cl_ (c_Main_found _ _) ?_   -- call3
  (first | exact ⟨rfl, rfl⟩ | (refine ⟨?_, rfl⟩; (first | rfl | (simp [b2i]; done) | (rw [b2i_t]; simp only [vp_in_iff, i3_lt, i3_le, i3_eq, Int32.reduceToInt, i3_m1] <;> omega) | (rw [b2i_f]; simp only [vp_in_iff, i3_lt, i3_le, i3_eq, Int32.reduceToInt, i3_m1] <;> omega))))   -- leaf4
theorem c_Main_row_ok (r n : Nat) (b : Int32) (M : am_M) (hr : r < 8) (g2 : 0 ≤ b ∧ b ≤ 2) (hn : n ≤ 40) : Con 5 mMain_row [aR 0 0 0, aI (nI r), aI b, aI (nI n)] M (some (aI (nI n))) (mS (sA (sA (sA (sA M 1 0 1 (upd (M 1 0 1) r 1)) 1 0 2 (upd (M 1 0 2) r b)) 1 0 3 (upd (M 1 0 3) r (nI n))) 1 0 4 (zf (M 1 0 4) (40 * r) (40 * r + n) 0)) 0) := by
  refine con_of okMain_row [some (aR 0 0 0), some (aI (nI r)), some (aI b), some (aI (nI n))] (some .int) ?_
  intro J hgo
  refine hgo [] _ _ _ _ ?_
  refine cl_ (c_Rows_isRow _ _) ?_   -- call1
  refine brbt (nin (n := 8) hr (by omega)) ?_
  refine cl_ (c_Rows_isLane _ _) ?_   -- call2
  refine brbt (g2) ?_
  refine brt (nI_le (b := 40) hn (by omega)) ?_
  refine hgo [] _ _ _ _ ?_
  refine brt (nI_pos' (by omega)) ?_
  refine hgo [] _ _ _ _ ?_
  refine cl_ (c_Rows_make r n b _ hr hn) ?_   -- call3
  refine cl_ (c_Main_clean _ _) ?_   -- call4
  (first | exact ⟨rfl, rfl⟩ | (refine ⟨?_, rfl⟩; (first | rfl | (simp [b2i]; done) | (rw [b2i_t]; simp only [vp_in_iff, i3_lt, i3_le, i3_eq, Int32.reduceToInt, i3_m1] <;> omega) | (rw [b2i_f]; simp only [vp_in_iff, i3_lt, i3_le, i3_eq, Int32.reduceToInt, i3_m1] <;> omega))))   -- leaf5
theorem cases_row (a b c : Int32) : (¬ ((0 ≤ a ∧ a < 8) ∧ (0 ≤ b ∧ b ≤ 2) ∧ c ≤ 40)) ∨ ((0 ≤ a ∧ a < 8) ∧ (0 ≤ b ∧ b ≤ 2) ∧ c < 0) ∨ ∃ r n : Nat, r < 8 ∧ n ≤ 40 ∧ a = nI r ∧ c = nI n ∧ (0 ≤ b ∧ b ≤ 2) := by
  by_cases h : (0 ≤ a ∧ a < 8) ∧ (0 ≤ b ∧ b ≤ 2) ∧ c ≤ 40
  · by_cases h2 : c < 0
    · exact Or.inr (Or.inl ⟨h.1, h.2.1, h2⟩)
    · obtain ⟨⟨h3, h4⟩, h5, h6⟩ := h
      refine Or.inr (Or.inr ⟨a.toNatClampNeg, c.toNatClampNeg, ?_, ?_, ?_, ?_, h5⟩)
      · simp only [i3_lt, i3_le, Int32.reduceToInt] at h3 h4
        have := i3_cl h3
        omega
      · simp only [i3_lt, i3_le, Int32.reduceToInt] at h2 h6
        have := i3_cl (x := c) (by omega)
        omega
      · simp only [i3_lt, i3_le, Int32.reduceToInt] at h3
        exact i3_of h3
      · simp only [i3_lt, Int32.reduceToInt] at h2
        exact i3_of (by omega)
  · exact Or.inl h
theorem Rrow_set {th la si it lane many item : Nat → Int32} {th2 la2 si2 it2 lane2 many2 item2 : Nat → Int32} (h : Rrow th la si it lane many item) (r : Nat) (hr : r < 8)
    (ho : ∀ q, q < 8 → q ≠ r → th2 q = th q ∧ la2 q = la q ∧ si2 q = si q ∧ lane2 q = lane q ∧ many2 q = many q ∧ ∀ i, i < 40 → it2 (40 * q + i) = it (40 * q + i) ∧ item2 (40 * q + i) = item (40 * q + i))
    (hn : (th2 r = 0 ∧ lane2 r = -1 ∧ si2 r = 0) ∨ (th2 r = 1 ∧ (0 ≤ la2 r ∧ la2 r ≤ 2) ∧ lane2 r = la2 r ∧ ∃ n : Nat, n ≤ 40 ∧ si2 r = nI n ∧ many2 r = nI n ∧ ∀ i, i < n → it2 (40 * r + i) = item2 (40 * r + i))) : Rrow th2 la2 si2 it2 lane2 many2 item2 := by
  intro q hq
  by_cases hqr : q = r
  · subst hqr; exact hn
  · obtain ⟨e1, e2, e3, e4, e5, e6⟩ := ho q hq hqr
    rw [e1, e2, e3, e4, e5]
    rcases h q hq with h1 | ⟨h1, h2, h3, n, h4, h5, h6, h7⟩
    · exact Or.inl h1
    · exact Or.inr ⟨h1, h2, h3, n, h4, h5, h6, fun i hi => by rw [(e6 i (by omega)).1, (e6 i (by omega)).2]; exact h7 i hi⟩
/-- only the rows, and the two numbers of the latest finding, changed -/
theorem Rel_rows {M M2 : am_M} (h : Rel M) (h1 : Rrow (M2 1 0 1) (M2 1 0 2) (M2 1 0 3) (M2 1 0 4) (M2 11 0 1) (M2 11 0 2) (M2 11 0 3)) (h2 : M2 2 0 = M 2 0) (h4 : M2 4 = M 4) (h5 : M2 5 = M 5) (h7 : M2 7 0 = M 7 0) (h8 : M2 8 0 = M 8 0) (h10 : M2 10 0 = M 10 0) (hr : ∀ o, 4 ≤ o → M2 11 0 o = M 11 0 o) (hs : ∀ i, i = 7 ∨ i = 9 ∨ i = 10 ∨ i = 18 ∨ i = 28 → M2 11 0 0 i = M 11 0 0 i) (ha : M2 0 0 0 11 = M 0 0 0 11) (hb : M2 0 0 0 12 = M2 11 0 0 1) : Rel M2 := by
  obtain ⟨g1, g2, g3, g4, g5, g6, g7⟩ := h
  unfold Rel RelH RelI RelA
  refine ⟨h1, ?_⟩
  rw [h2, h4, h5, h7, h8, h10, ha, hb, hr 4 (by decide), hr 6 (by decide), hr 7 (by decide), hr 8 (by decide), hr 9 (by decide), hr 13 (by decide), hr 14 (by decide), hr 15 (by decide), hs 7 (by decide), hs 9 (by decide), hs 10 (by decide), hs 18 (by decide), hs 28 (by decide)]
  exact ⟨g2, ⟨g3.1, rfl⟩, g4, g5, g6, g7⟩
theorem op_row (a b c : Int32) (M : am_M) (hR : Rel M) : OpAt mMain_row mRef_row [aI a, aI b, aI c] M := by
  rcases cases_row a b c with h | ⟨h1, h2, h3⟩ | ⟨r, n, hr, hn, rfl, rfl, hb⟩
  · refine op_mk (c_Main_row_bad a b c M h) (c_Ref_row_bad a b c M h) (Rel_keep hR rfl rfl rfl rfl rfl rfl rfl ?_ ?_ rfl ?_)
    · intro o ho; exact sA_o ho
    · intro i hi; rcases hi with rfl | rfl | rfl | rfl | rfl <;> rfl
    · exact hR.2.2.1.2
  · refine op_mk (c_Main_row_neg a b c M h1 h2 h3) (c_Ref_row_neg a b c _ h1 h2 h3) (Rel_keep hR rfl rfl rfl rfl rfl rfl rfl ?_ ?_ rfl rfl)
    · intro o ho
      simp only [rS, rT, mS, sA_o ho, sA_k (show (11 : Nat) ≠ 0 by decide)]
    · intro i hi; rcases hi with rfl | rfl | rfl | rfl | rfl <;> rfl
  · refine op_mk (c_Main_row_ok r n b M hr hb hn) (c_Ref_row_ok r n b _ hr hb hn) (Rel_rows hR ?_ rfl rfl rfl rfl rfl rfl ?_ ?_ rfl rfl)
    · refine Rrow_set hR.1 r hr (fun q hq hqr => ?_) (Or.inr ⟨?_, ?_, ?_, n, hn, ?_, ?_, fun i hi => ?_⟩)
      · refine ⟨upd_n hqr, upd_n hqr, upd_n hqr, upd_n hqr, upd_n hqr, fun i hi => ⟨?_, ?_⟩⟩
        · show zf (M 1 0 4) (40 * r) (40 * r + n) 0 (40 * q + i) = _
          exact if_neg (by omega)
        · show zf (M 11 0 3) (40 * r) (40 * r + 40) 0 (40 * q + i) = _
          exact if_neg (by omega)
      · exact upd_s
      · show 0 ≤ upd (M 1 0 2) r b r ∧ upd (M 1 0 2) r b r ≤ 2
        rw [upd_s]
        exact hb
      · show upd (M 11 0 1) r b r = upd (M 1 0 2) r b r
        rw [upd_s, upd_s]
      · exact upd_s
      · exact upd_s
      · show zf (M 1 0 4) (40 * r) (40 * r + n) 0 (40 * r + i) = zf (M 11 0 3) (40 * r) (40 * r + 40) 0 (40 * r + i)
        simp only [zf]
        rw [if_pos (by omega), if_pos (by omega)]
    · intro o ho
      have h1 : o ≠ 1 := by omega
      have h2 : o ≠ 2 := by omega
      have h3 : o ≠ 3 := by omega
      have h0 : o ≠ 0 := by omega
      simp only [rS, rT, mS, sA_o h0, sA_o h1, sA_o h2, sA_o h3, sA_k (show (11 : Nat) ≠ 0 by decide), sA_k (show (11 : Nat) ≠ 1 by decide)]
    · intro i hi; rcases hi with rfl | rfl | rfl | rfl | rfl <;> rfl
