/-! the class's reading -/
theorem c_fail (k : Nat) (t : Nat → Nat) (S : PS) (M : am_M) (hk : k ≤ 3) (hf : sf S ≤ 3) (hR : RC t S M) : ConP 1 mReader_fail [aR 3 0 0, aI (nI k)] M (fun r M2 => r = none ∧ K3 M2 M ∧ RC t (fl k S) M2) := by
  obtain ⟨r1, r2, r3, r4, r5, r6⟩ := id hR
  refine con_of okReader_fail [some (aR 3 0 0), some (aI (nI k))] none ?_
  intro J hgo
  refine hgo [] _ _ _ _ ?_
  by_cases q : sf S = 0
  · refine brt (show M 3 0 0 6 = 0 by rw [r4, q]; rfl) ?_
    refine hgo [] _ _ _ _ ?_
    refine ⟨rfl, fun k hk => (sA_k hk).trans (sA_k hk), ?_⟩
    unfold fl
    rw [if_pos q]
    refine ⟨r1, r2, r3, rfl, fun _ => ?_, r6⟩
    show M 3 0 0 3 = _
    exact r2
  · refine brf (show ¬ M 3 0 0 6 = 0 by rw [r4]; exact nI_ne0 (by omega) (by omega)) ?_
    refine ⟨rfl, fun _ _ => rfl, ?_⟩
    unfold fl
    rw [if_neg q]
    exact hR
theorem c_Str_coder_0 (M : am_M) : Con 1 mStr_coder [aR 13 0 0] M (some (aI 0)) M := by
  refine con_of okStr_coder [some (aR 13 0 0)] (some .byte) ?_
  intro J hgo
  refine hgo [] _ _ _ _ ?_
  refine brf (by decide) ?_
  refine hgo [] _ _ _ _ ?_
  exact ob_ (by decide) ⟨rfl, rfl⟩
theorem c_Str_isLatin1_0 (M : am_M) : Con 1 mStr_isLatin1 [aR 13 0 0] M (some (aI 1)) M := by
  refine con_of okStr_isLatin1 [some (aR 13 0 0)] (some .boolean) ?_
  intro J hgo
  refine hgo [] _ _ _ _ ?_
  refine brf (by decide) ?_
  refine brt rfl ?_
  refine hgo [] _ _ _ _ ?_
  exact ob_ (by decide) ⟨rfl, rfl⟩
theorem c_Str_length_0 (M : am_M) : Con 2 mStr_length [aR 13 0 0] M (some (aI (Int32.ofNat (am_sl.getD 0 0)))) M := by
  refine con_of okStr_length [some (aR 13 0 0)] (some .int) ?_
  intro J hgo
  refine hgo [] _ _ _ _ ?_
  refine cl_ (c_Str_coder_0 M) ?_
  refine ⟨?_, rfl⟩
  show some (aI (Int32.ofNat (am_sl.getD 0 0) >>> ((0 : Int32) &&& 31))) = _
  rw [show (0 : Int32) &&& 31 = 0 by decide]
  simp
theorem c_Str_coder_1 (M : am_M) : Con 1 mStr_coder [aR 13 0 1] M (some (aI 0)) M := by
  refine con_of okStr_coder [some (aR 13 0 1)] (some .byte) ?_
  intro J hgo
  refine hgo [] _ _ _ _ ?_
  refine brf (by decide) ?_
  refine hgo [] _ _ _ _ ?_
  exact ob_ (by decide) ⟨rfl, rfl⟩
theorem c_Str_isLatin1_1 (M : am_M) : Con 1 mStr_isLatin1 [aR 13 0 1] M (some (aI 1)) M := by
  refine con_of okStr_isLatin1 [some (aR 13 0 1)] (some .boolean) ?_
  intro J hgo
  refine hgo [] _ _ _ _ ?_
  refine brf (by decide) ?_
  refine brt rfl ?_
  refine hgo [] _ _ _ _ ?_
  exact ob_ (by decide) ⟨rfl, rfl⟩
theorem c_Str_length_1 (M : am_M) : Con 2 mStr_length [aR 13 0 1] M (some (aI (Int32.ofNat (am_sl.getD 1 0)))) M := by
  refine con_of okStr_length [some (aR 13 0 1)] (some .int) ?_
  intro J hgo
  refine hgo [] _ _ _ _ ?_
  refine cl_ (c_Str_coder_1 M) ?_
  refine ⟨?_, rfl⟩
  show some (aI (Int32.ofNat (am_sl.getD 1 0) >>> ((0 : Int32) &&& 31))) = _
  rw [show (0 : Int32) &&& 31 = 0 by decide]
  simp
theorem c_Str_coder_2 (M : am_M) : Con 1 mStr_coder [aR 13 0 2] M (some (aI 0)) M := by
  refine con_of okStr_coder [some (aR 13 0 2)] (some .byte) ?_
  intro J hgo
  refine hgo [] _ _ _ _ ?_
  refine brf (by decide) ?_
  refine hgo [] _ _ _ _ ?_
  exact ob_ (by decide) ⟨rfl, rfl⟩
theorem c_Str_isLatin1_2 (M : am_M) : Con 1 mStr_isLatin1 [aR 13 0 2] M (some (aI 1)) M := by
  refine con_of okStr_isLatin1 [some (aR 13 0 2)] (some .boolean) ?_
  intro J hgo
  refine hgo [] _ _ _ _ ?_
  refine brf (by decide) ?_
  refine brt rfl ?_
  refine hgo [] _ _ _ _ ?_
  exact ob_ (by decide) ⟨rfl, rfl⟩
theorem c_Str_length_2 (M : am_M) : Con 2 mStr_length [aR 13 0 2] M (some (aI (Int32.ofNat (am_sl.getD 2 0)))) M := by
  refine con_of okStr_length [some (aR 13 0 2)] (some .int) ?_
  intro J hgo
  refine hgo [] _ _ _ _ ?_
  refine cl_ (c_Str_coder_2 M) ?_
  refine ⟨?_, rfl⟩
  show some (aI (Int32.ofNat (am_sl.getD 2 0) >>> ((0 : Int32) &&& 31))) = _
  rw [show (0 : Int32) &&& 31 = 0 by decide]
  simp
theorem c_Str_coder_3 (M : am_M) : Con 1 mStr_coder [aR 13 0 3] M (some (aI 0)) M := by
  refine con_of okStr_coder [some (aR 13 0 3)] (some .byte) ?_
  intro J hgo
  refine hgo [] _ _ _ _ ?_
  refine brf (by decide) ?_
  refine hgo [] _ _ _ _ ?_
  exact ob_ (by decide) ⟨rfl, rfl⟩
theorem c_Str_isLatin1_3 (M : am_M) : Con 1 mStr_isLatin1 [aR 13 0 3] M (some (aI 1)) M := by
  refine con_of okStr_isLatin1 [some (aR 13 0 3)] (some .boolean) ?_
  intro J hgo
  refine hgo [] _ _ _ _ ?_
  refine brf (by decide) ?_
  refine brt rfl ?_
  refine hgo [] _ _ _ _ ?_
  exact ob_ (by decide) ⟨rfl, rfl⟩
theorem c_Str_length_3 (M : am_M) : Con 2 mStr_length [aR 13 0 3] M (some (aI (Int32.ofNat (am_sl.getD 3 0)))) M := by
  refine con_of okStr_length [some (aR 13 0 3)] (some .int) ?_
  intro J hgo
  refine hgo [] _ _ _ _ ?_
  refine cl_ (c_Str_coder_3 M) ?_
  refine ⟨?_, rfl⟩
  show some (aI (Int32.ofNat (am_sl.getD 3 0) >>> ((0 : Int32) &&& 31))) = _
  rw [show (0 : Int32) &&& 31 = 0 by decide]
  simp
theorem c_Str_coder_4 (M : am_M) : Con 1 mStr_coder [aR 13 0 4] M (some (aI 0)) M := by
  refine con_of okStr_coder [some (aR 13 0 4)] (some .byte) ?_
  intro J hgo
  refine hgo [] _ _ _ _ ?_
  refine brf (by decide) ?_
  refine hgo [] _ _ _ _ ?_
  exact ob_ (by decide) ⟨rfl, rfl⟩
theorem c_Str_isLatin1_4 (M : am_M) : Con 1 mStr_isLatin1 [aR 13 0 4] M (some (aI 1)) M := by
  refine con_of okStr_isLatin1 [some (aR 13 0 4)] (some .boolean) ?_
  intro J hgo
  refine hgo [] _ _ _ _ ?_
  refine brf (by decide) ?_
  refine brt rfl ?_
  refine hgo [] _ _ _ _ ?_
  exact ob_ (by decide) ⟨rfl, rfl⟩
theorem c_Str_length_4 (M : am_M) : Con 2 mStr_length [aR 13 0 4] M (some (aI (Int32.ofNat (am_sl.getD 4 0)))) M := by
  refine con_of okStr_length [some (aR 13 0 4)] (some .int) ?_
  intro J hgo
  refine hgo [] _ _ _ _ ?_
  refine cl_ (c_Str_coder_4 M) ?_
  refine ⟨?_, rfl⟩
  show some (aI (Int32.ofNat (am_sl.getD 4 0) >>> ((0 : Int32) &&& 31))) = _
  rw [show (0 : Int32) &&& 31 = 0 by decide]
  simp
theorem c_Str_coder_5 (M : am_M) : Con 1 mStr_coder [aR 13 0 5] M (some (aI 0)) M := by
  refine con_of okStr_coder [some (aR 13 0 5)] (some .byte) ?_
  intro J hgo
  refine hgo [] _ _ _ _ ?_
  refine brf (by decide) ?_
  refine hgo [] _ _ _ _ ?_
  exact ob_ (by decide) ⟨rfl, rfl⟩
theorem c_Str_isLatin1_5 (M : am_M) : Con 1 mStr_isLatin1 [aR 13 0 5] M (some (aI 1)) M := by
  refine con_of okStr_isLatin1 [some (aR 13 0 5)] (some .boolean) ?_
  intro J hgo
  refine hgo [] _ _ _ _ ?_
  refine brf (by decide) ?_
  refine brt rfl ?_
  refine hgo [] _ _ _ _ ?_
  exact ob_ (by decide) ⟨rfl, rfl⟩
theorem c_Str_length_5 (M : am_M) : Con 2 mStr_length [aR 13 0 5] M (some (aI (Int32.ofNat (am_sl.getD 5 0)))) M := by
  refine con_of okStr_length [some (aR 13 0 5)] (some .int) ?_
  intro J hgo
  refine hgo [] _ _ _ _ ?_
  refine cl_ (c_Str_coder_5 M) ?_
  refine ⟨?_, rfl⟩
  show some (aI (Int32.ofNat (am_sl.getD 5 0) >>> ((0 : Int32) &&& 31))) = _
  rw [show (0 : Int32) &&& 31 = 0 by decide]
  simp
theorem c_Str_coder_6 (M : am_M) : Con 1 mStr_coder [aR 13 0 6] M (some (aI 0)) M := by
  refine con_of okStr_coder [some (aR 13 0 6)] (some .byte) ?_
  intro J hgo
  refine hgo [] _ _ _ _ ?_
  refine brf (by decide) ?_
  refine hgo [] _ _ _ _ ?_
  exact ob_ (by decide) ⟨rfl, rfl⟩
theorem c_Str_isLatin1_6 (M : am_M) : Con 1 mStr_isLatin1 [aR 13 0 6] M (some (aI 1)) M := by
  refine con_of okStr_isLatin1 [some (aR 13 0 6)] (some .boolean) ?_
  intro J hgo
  refine hgo [] _ _ _ _ ?_
  refine brf (by decide) ?_
  refine brt rfl ?_
  refine hgo [] _ _ _ _ ?_
  exact ob_ (by decide) ⟨rfl, rfl⟩
theorem c_Str_length_6 (M : am_M) : Con 2 mStr_length [aR 13 0 6] M (some (aI (Int32.ofNat (am_sl.getD 6 0)))) M := by
  refine con_of okStr_length [some (aR 13 0 6)] (some .int) ?_
  intro J hgo
  refine hgo [] _ _ _ _ ?_
  refine cl_ (c_Str_coder_6 M) ?_
  refine ⟨?_, rfl⟩
  show some (aI (Int32.ofNat (am_sl.getD 6 0) >>> ((0 : Int32) &&& 31))) = _
  rw [show (0 : Int32) &&& 31 = 0 by decide]
  simp
theorem c_Str_coder_7 (M : am_M) : Con 1 mStr_coder [aR 13 0 7] M (some (aI 0)) M := by
  refine con_of okStr_coder [some (aR 13 0 7)] (some .byte) ?_
  intro J hgo
  refine hgo [] _ _ _ _ ?_
  refine brf (by decide) ?_
  refine hgo [] _ _ _ _ ?_
  exact ob_ (by decide) ⟨rfl, rfl⟩
theorem c_Str_isLatin1_7 (M : am_M) : Con 1 mStr_isLatin1 [aR 13 0 7] M (some (aI 1)) M := by
  refine con_of okStr_isLatin1 [some (aR 13 0 7)] (some .boolean) ?_
  intro J hgo
  refine hgo [] _ _ _ _ ?_
  refine brf (by decide) ?_
  refine brt rfl ?_
  refine hgo [] _ _ _ _ ?_
  exact ob_ (by decide) ⟨rfl, rfl⟩
theorem c_Str_length_7 (M : am_M) : Con 2 mStr_length [aR 13 0 7] M (some (aI (Int32.ofNat (am_sl.getD 7 0)))) M := by
  refine con_of okStr_length [some (aR 13 0 7)] (some .int) ?_
  intro J hgo
  refine hgo [] _ _ _ _ ?_
  refine cl_ (c_Str_coder_7 M) ?_
  refine ⟨?_, rfl⟩
  show some (aI (Int32.ofNat (am_sl.getD 7 0) >>> ((0 : Int32) &&& 31))) = _
  rw [show (0 : Int32) &&& 31 = 0 by decide]
  simp
theorem c_Pre_checkIndex (k l : Nat) (M : am_M) (hk : k < l) (hl : l < 100) : Con 1 mPre_checkIndex [aI (nI k), aI (nI l), aR 15 0 0] M (some (aI (nI k))) M := by
  refine con_of okPre_checkIndex [some (aI (nI k)), some (aI (nI l)), some (aR 15 0 0)] (some .int) ?_
  intro J hgo
  refine hgo [] _ _ _ _ ?_
  refine brf (nI_pos (by omega)) ?_
  refine brt (nI_lt hk (by omega)) ?_
  refine hgo [] _ _ _ _ ?_
  exact ⟨rfl, rfl⟩
theorem c_Str_checkIndex (k l : Nat) (M : am_M) (hk : k < l) (hl : l < 100) : Con 2 mStr_checkIndex [aI (nI k), aI (nI l)] M none M := by
  refine con_of okStr_checkIndex [some (aI (nI k)), some (aI (nI l))] none ?_
  intro J hgo
  refine hgo [] _ _ _ _ ?_
  refine cl_ (c_Pre_checkIndex k l M hk hl) ?_
  exact ⟨rfl, rfl⟩
theorem sl_lt : ∀ i, i < 8 → am_sl.getD i 0 < 8 ∧ 0 < am_sl.getD i 0 := by decide
theorem sb_nar : ∀ i, i < 8 → ∀ k, k < am_sl.getD i 0 → ((((am_sb.getD i []).getD k 0 &&& 255).toUInt32 % 65536).toInt32) = (am_sb.getD i []).getD k 0 := by decide +kernel
theorem c_Lat_charAt_0 (k : Nat) (M : am_M) (hk : k < am_sl.getD 0 0) : Con 3 mLat_charAt [aR 14 0 0, aI (nI k)] M (some (aI ((am_sb.getD 0 []).getD k 0))) M := by
  have hl := (sl_lt 0 (by decide)).1
  refine con_of okLat_charAt [some (aR 14 0 0), some (aI (nI k))] (some .char) ?_
  intro J hgo
  refine hgo [] _ _ _ _ ?_
  refine cl_ (c_Str_checkIndex k (am_sl.getD 0 0) M hk (by omega)) ?_
  refine ob_ (vp_in_nI hk (by omega)) ?_
  refine ob_ (pk_vc _) ⟨?_, rfl⟩
  rw [cl_nI (by omega), sb_nar 0 (by decide) k hk]
theorem c_Str_charAt_0 (k : Nat) (M : am_M) (hk : k < am_sl.getD 0 0) : Con 4 mStr_charAt [aR 13 0 0, aI (nI k)] M (some (aI ((am_sb.getD 0 []).getD k 0))) M := by
  refine con_of okStr_charAt [some (aR 13 0 0), some (aI (nI k))] (some .char) ?_
  intro J hgo
  refine hgo [] _ _ _ _ ?_
  refine cl_ (c_Str_isLatin1_0 M) ?_
  refine brf (by decide) ?_
  refine cl_ (c_Lat_charAt_0 k M hk) ?_
  refine ob_ ?_ ⟨rfl, rfl⟩
  rw [← sb_nar 0 (by decide) k hk]
  exact pk_vc _
theorem c_Lat_charAt_1 (k : Nat) (M : am_M) (hk : k < am_sl.getD 1 0) : Con 3 mLat_charAt [aR 14 0 1, aI (nI k)] M (some (aI ((am_sb.getD 1 []).getD k 0))) M := by
  have hl := (sl_lt 1 (by decide)).1
  refine con_of okLat_charAt [some (aR 14 0 1), some (aI (nI k))] (some .char) ?_
  intro J hgo
  refine hgo [] _ _ _ _ ?_
  refine cl_ (c_Str_checkIndex k (am_sl.getD 1 0) M hk (by omega)) ?_
  refine ob_ (vp_in_nI hk (by omega)) ?_
  refine ob_ (pk_vc _) ⟨?_, rfl⟩
  rw [cl_nI (by omega), sb_nar 1 (by decide) k hk]
theorem c_Str_charAt_1 (k : Nat) (M : am_M) (hk : k < am_sl.getD 1 0) : Con 4 mStr_charAt [aR 13 0 1, aI (nI k)] M (some (aI ((am_sb.getD 1 []).getD k 0))) M := by
  refine con_of okStr_charAt [some (aR 13 0 1), some (aI (nI k))] (some .char) ?_
  intro J hgo
  refine hgo [] _ _ _ _ ?_
  refine cl_ (c_Str_isLatin1_1 M) ?_
  refine brf (by decide) ?_
  refine cl_ (c_Lat_charAt_1 k M hk) ?_
  refine ob_ ?_ ⟨rfl, rfl⟩
  rw [← sb_nar 1 (by decide) k hk]
  exact pk_vc _
theorem c_Lat_charAt_2 (k : Nat) (M : am_M) (hk : k < am_sl.getD 2 0) : Con 3 mLat_charAt [aR 14 0 2, aI (nI k)] M (some (aI ((am_sb.getD 2 []).getD k 0))) M := by
  have hl := (sl_lt 2 (by decide)).1
  refine con_of okLat_charAt [some (aR 14 0 2), some (aI (nI k))] (some .char) ?_
  intro J hgo
  refine hgo [] _ _ _ _ ?_
  refine cl_ (c_Str_checkIndex k (am_sl.getD 2 0) M hk (by omega)) ?_
  refine ob_ (vp_in_nI hk (by omega)) ?_
  refine ob_ (pk_vc _) ⟨?_, rfl⟩
  rw [cl_nI (by omega), sb_nar 2 (by decide) k hk]
theorem c_Str_charAt_2 (k : Nat) (M : am_M) (hk : k < am_sl.getD 2 0) : Con 4 mStr_charAt [aR 13 0 2, aI (nI k)] M (some (aI ((am_sb.getD 2 []).getD k 0))) M := by
  refine con_of okStr_charAt [some (aR 13 0 2), some (aI (nI k))] (some .char) ?_
  intro J hgo
  refine hgo [] _ _ _ _ ?_
  refine cl_ (c_Str_isLatin1_2 M) ?_
  refine brf (by decide) ?_
  refine cl_ (c_Lat_charAt_2 k M hk) ?_
  refine ob_ ?_ ⟨rfl, rfl⟩
  rw [← sb_nar 2 (by decide) k hk]
  exact pk_vc _
theorem c_Lat_charAt_3 (k : Nat) (M : am_M) (hk : k < am_sl.getD 3 0) : Con 3 mLat_charAt [aR 14 0 3, aI (nI k)] M (some (aI ((am_sb.getD 3 []).getD k 0))) M := by
  have hl := (sl_lt 3 (by decide)).1
  refine con_of okLat_charAt [some (aR 14 0 3), some (aI (nI k))] (some .char) ?_
  intro J hgo
  refine hgo [] _ _ _ _ ?_
  refine cl_ (c_Str_checkIndex k (am_sl.getD 3 0) M hk (by omega)) ?_
  refine ob_ (vp_in_nI hk (by omega)) ?_
  refine ob_ (pk_vc _) ⟨?_, rfl⟩
  rw [cl_nI (by omega), sb_nar 3 (by decide) k hk]
theorem c_Str_charAt_3 (k : Nat) (M : am_M) (hk : k < am_sl.getD 3 0) : Con 4 mStr_charAt [aR 13 0 3, aI (nI k)] M (some (aI ((am_sb.getD 3 []).getD k 0))) M := by
  refine con_of okStr_charAt [some (aR 13 0 3), some (aI (nI k))] (some .char) ?_
  intro J hgo
  refine hgo [] _ _ _ _ ?_
  refine cl_ (c_Str_isLatin1_3 M) ?_
  refine brf (by decide) ?_
  refine cl_ (c_Lat_charAt_3 k M hk) ?_
  refine ob_ ?_ ⟨rfl, rfl⟩
  rw [← sb_nar 3 (by decide) k hk]
  exact pk_vc _
theorem c_Lat_charAt_4 (k : Nat) (M : am_M) (hk : k < am_sl.getD 4 0) : Con 3 mLat_charAt [aR 14 0 4, aI (nI k)] M (some (aI ((am_sb.getD 4 []).getD k 0))) M := by
  have hl := (sl_lt 4 (by decide)).1
  refine con_of okLat_charAt [some (aR 14 0 4), some (aI (nI k))] (some .char) ?_
  intro J hgo
  refine hgo [] _ _ _ _ ?_
  refine cl_ (c_Str_checkIndex k (am_sl.getD 4 0) M hk (by omega)) ?_
  refine ob_ (vp_in_nI hk (by omega)) ?_
  refine ob_ (pk_vc _) ⟨?_, rfl⟩
  rw [cl_nI (by omega), sb_nar 4 (by decide) k hk]
theorem c_Str_charAt_4 (k : Nat) (M : am_M) (hk : k < am_sl.getD 4 0) : Con 4 mStr_charAt [aR 13 0 4, aI (nI k)] M (some (aI ((am_sb.getD 4 []).getD k 0))) M := by
  refine con_of okStr_charAt [some (aR 13 0 4), some (aI (nI k))] (some .char) ?_
  intro J hgo
  refine hgo [] _ _ _ _ ?_
  refine cl_ (c_Str_isLatin1_4 M) ?_
  refine brf (by decide) ?_
  refine cl_ (c_Lat_charAt_4 k M hk) ?_
  refine ob_ ?_ ⟨rfl, rfl⟩
  rw [← sb_nar 4 (by decide) k hk]
  exact pk_vc _
theorem c_Lat_charAt_5 (k : Nat) (M : am_M) (hk : k < am_sl.getD 5 0) : Con 3 mLat_charAt [aR 14 0 5, aI (nI k)] M (some (aI ((am_sb.getD 5 []).getD k 0))) M := by
  have hl := (sl_lt 5 (by decide)).1
  refine con_of okLat_charAt [some (aR 14 0 5), some (aI (nI k))] (some .char) ?_
  intro J hgo
  refine hgo [] _ _ _ _ ?_
  refine cl_ (c_Str_checkIndex k (am_sl.getD 5 0) M hk (by omega)) ?_
  refine ob_ (vp_in_nI hk (by omega)) ?_
  refine ob_ (pk_vc _) ⟨?_, rfl⟩
  rw [cl_nI (by omega), sb_nar 5 (by decide) k hk]
theorem c_Str_charAt_5 (k : Nat) (M : am_M) (hk : k < am_sl.getD 5 0) : Con 4 mStr_charAt [aR 13 0 5, aI (nI k)] M (some (aI ((am_sb.getD 5 []).getD k 0))) M := by
  refine con_of okStr_charAt [some (aR 13 0 5), some (aI (nI k))] (some .char) ?_
  intro J hgo
  refine hgo [] _ _ _ _ ?_
  refine cl_ (c_Str_isLatin1_5 M) ?_
  refine brf (by decide) ?_
  refine cl_ (c_Lat_charAt_5 k M hk) ?_
  refine ob_ ?_ ⟨rfl, rfl⟩
  rw [← sb_nar 5 (by decide) k hk]
  exact pk_vc _
theorem c_Lat_charAt_6 (k : Nat) (M : am_M) (hk : k < am_sl.getD 6 0) : Con 3 mLat_charAt [aR 14 0 6, aI (nI k)] M (some (aI ((am_sb.getD 6 []).getD k 0))) M := by
  have hl := (sl_lt 6 (by decide)).1
  refine con_of okLat_charAt [some (aR 14 0 6), some (aI (nI k))] (some .char) ?_
  intro J hgo
  refine hgo [] _ _ _ _ ?_
  refine cl_ (c_Str_checkIndex k (am_sl.getD 6 0) M hk (by omega)) ?_
  refine ob_ (vp_in_nI hk (by omega)) ?_
  refine ob_ (pk_vc _) ⟨?_, rfl⟩
  rw [cl_nI (by omega), sb_nar 6 (by decide) k hk]
theorem c_Str_charAt_6 (k : Nat) (M : am_M) (hk : k < am_sl.getD 6 0) : Con 4 mStr_charAt [aR 13 0 6, aI (nI k)] M (some (aI ((am_sb.getD 6 []).getD k 0))) M := by
  refine con_of okStr_charAt [some (aR 13 0 6), some (aI (nI k))] (some .char) ?_
  intro J hgo
  refine hgo [] _ _ _ _ ?_
  refine cl_ (c_Str_isLatin1_6 M) ?_
  refine brf (by decide) ?_
  refine cl_ (c_Lat_charAt_6 k M hk) ?_
  refine ob_ ?_ ⟨rfl, rfl⟩
  rw [← sb_nar 6 (by decide) k hk]
  exact pk_vc _
theorem c_Lat_charAt_7 (k : Nat) (M : am_M) (hk : k < am_sl.getD 7 0) : Con 3 mLat_charAt [aR 14 0 7, aI (nI k)] M (some (aI ((am_sb.getD 7 []).getD k 0))) M := by
  have hl := (sl_lt 7 (by decide)).1
  refine con_of okLat_charAt [some (aR 14 0 7), some (aI (nI k))] (some .char) ?_
  intro J hgo
  refine hgo [] _ _ _ _ ?_
  refine cl_ (c_Str_checkIndex k (am_sl.getD 7 0) M hk (by omega)) ?_
  refine ob_ (vp_in_nI hk (by omega)) ?_
  refine ob_ (pk_vc _) ⟨?_, rfl⟩
  rw [cl_nI (by omega), sb_nar 7 (by decide) k hk]
theorem c_Str_charAt_7 (k : Nat) (M : am_M) (hk : k < am_sl.getD 7 0) : Con 4 mStr_charAt [aR 13 0 7, aI (nI k)] M (some (aI ((am_sb.getD 7 []).getD k 0))) M := by
  refine con_of okStr_charAt [some (aR 13 0 7), some (aI (nI k))] (some .char) ?_
  intro J hgo
  refine hgo [] _ _ _ _ ?_
  refine cl_ (c_Str_isLatin1_7 M) ?_
  refine brf (by decide) ?_
  refine cl_ (c_Lat_charAt_7 k M hk) ?_
  refine ob_ ?_ ⟨rfl, rfl⟩
  rw [← sb_nar 7 (by decide) k hk]
  exact pk_vc _
def nmD (t : Nat → Nat) (S : PS) (i : Nat) : Bool := decide (ss S = 1) && (decide (se S - sb S = am_sl.getD i 0) && !exB (fun k => !decide (nI (t (sb S + k)) = (am_sb.getD i []).getD k 0)) (am_sl.getD i 0))
theorem c_isName_0 (n : Nat) (t : Nat → Nat) (S : PS) (M : am_M) (hT : TC n t M) (hS : WS n t S) (hR : RC t S M) : Con 5 mReader_isName [aR 3 0 0, aR 13 0 0] M (some (aI (b2i (nmD t S 0 = true)))) M := by
  obtain ⟨r1, r2, r3, r4, r5, r6⟩ := id hR
  obtain ⟨h500, hlen, hby, h256⟩ := id hT
  have hbe := hS.1.1
  have hen := hS.1.2.1
  have hs4 := hS.1.2.2.1
  have hl := (sl_lt 0 (by decide)).1
  refine con_of okReader_isName [some (aR 3 0 0), some (aR 13 0 0), none] (some .boolean) ?_
  intro J hgo
  have no : ¬ nmD t S 0 = true → J 24 [some (aR 3 0 0), some (aR 13 0 0), none] [] M := by
    intro g
    refine hgo [] _ _ _ _ ?_
    refine ob_ (by decide) ⟨?_, rfl⟩
    rw [b2i_f g]
  have loop : ss S = 1 → se S - sb S = am_sl.getD 0 0 → ∀ m k kv, m = am_sl.getD 0 0 - k → k ≤ am_sl.getD 0 0 → kv = nI k → exB (fun k => !decide (nI (t (sb S + k)) = (am_sb.getD 0 []).getD k 0)) k = false → J 28 [some (aR 3 0 0), some (aR 13 0 0), some (aI kv)] [] M := by
    intro q1 q2 m
    induction m with
    | zero =>
      intro k kv hm hk hv hx
      obtain rfl : k = am_sl.getD 0 0 := by omega
      subst hv
      refine hgo [] _ _ _ _ ?_
      refine cl_ (c_Str_length_0 M) ?_
      refine brt (nI_le (Nat.le_refl _) (by omega)) ?_
      refine hgo [] _ _ _ _ ?_
      refine ob_ (by decide) ⟨?_, rfl⟩
      rw [b2i_t]
      unfold nmD
      rw [decide_eq_true q1, decide_eq_true q2, hx]
      rfl
    | succ m ih =>
      intro k kv hm hk hv hx
      subst hv
      have hkl : k < am_sl.getD 0 0 := by omega
      refine hgo [] _ _ _ _ ?_
      refine cl_ (c_Str_length_0 M) ?_
      refine brf (nI_ge hkl (by omega)) ?_
      refine cle (c_at n t (sb S + k) M hT (by omega)) (by show [aR 2 0 0, aI (M 3 0 0 3 + nI k)] = _; rw [r2, nI_add]) rfl ?_
      rw [if_pos (by omega)]
      refine cl_ (c_Str_charAt_0 k M hkl) ?_
      refine br_ (fun g => ?_) (fun g => ?_)
      · refine hgo [] _ _ _ _ ?_
        refine ih (k + 1) _ (by omega) (by omega) (nI_1 k) ?_
        show (exB _ k || !decide (nI (t (sb S + k)) = (am_sb.getD 0 []).getD k 0)) = false
        rw [hx, decide_eq_true g]
        rfl
      · refine ob_ (by decide) ⟨?_, rfl⟩
        rw [b2i_f]
        unfold nmD
        rw [exB_iff.mpr ⟨k, hkl, by rw [decide_eq_false g]; rfl⟩]
        simp
  have e1 : M 3 0 0 2 = 1 ↔ ss S = 1 := by rw [r1]; exact nI_eq (b := 1) (by omega) (by omega)
  have ed : M 3 0 0 4 - M 3 0 0 3 = nI (se S - sb S) := by rw [r2, r3]; exact pk_sub hbe
  refine hgo [24, 28] _ _ _ _ ?_
  refine br_ (fun g => ?_) (fun g => ?_)
  · refine cl_ (c_Str_length_0 M) ?_
    refine br_ (fun g2 => ?_) (fun g2 => ?_)
    · have g2 : M 3 0 0 4 - M 3 0 0 3 = nI (am_sl.getD 0 0) := g2
      rw [ed, nI_eq (by omega) (by omega)] at g2
      refine hgo [28] _ _ _ _ ?_
      exact loop (e1.mp g) g2 _ 0 _ rfl (by omega) rfl rfl
    · have g2 : ¬ M 3 0 0 4 - M 3 0 0 3 = nI (am_sl.getD 0 0) := g2
      rw [ed, nI_eq (by omega) (by omega)] at g2
      refine no ?_
      unfold nmD
      rw [decide_eq_false g2]
      simp
  · refine no ?_
    unfold nmD
    rw [decide_eq_false (fun q => g (e1.mpr q))]
    simp
theorem c_isName_1 (n : Nat) (t : Nat → Nat) (S : PS) (M : am_M) (hT : TC n t M) (hS : WS n t S) (hR : RC t S M) : Con 5 mReader_isName [aR 3 0 0, aR 13 0 1] M (some (aI (b2i (nmD t S 1 = true)))) M := by
  obtain ⟨r1, r2, r3, r4, r5, r6⟩ := id hR
  obtain ⟨h500, hlen, hby, h256⟩ := id hT
  have hbe := hS.1.1
  have hen := hS.1.2.1
  have hs4 := hS.1.2.2.1
  have hl := (sl_lt 1 (by decide)).1
  refine con_of okReader_isName [some (aR 3 0 0), some (aR 13 0 1), none] (some .boolean) ?_
  intro J hgo
  have no : ¬ nmD t S 1 = true → J 24 [some (aR 3 0 0), some (aR 13 0 1), none] [] M := by
    intro g
    refine hgo [] _ _ _ _ ?_
    refine ob_ (by decide) ⟨?_, rfl⟩
    rw [b2i_f g]
  have loop : ss S = 1 → se S - sb S = am_sl.getD 1 0 → ∀ m k kv, m = am_sl.getD 1 0 - k → k ≤ am_sl.getD 1 0 → kv = nI k → exB (fun k => !decide (nI (t (sb S + k)) = (am_sb.getD 1 []).getD k 0)) k = false → J 28 [some (aR 3 0 0), some (aR 13 0 1), some (aI kv)] [] M := by
    intro q1 q2 m
    induction m with
    | zero =>
      intro k kv hm hk hv hx
      obtain rfl : k = am_sl.getD 1 0 := by omega
      subst hv
      refine hgo [] _ _ _ _ ?_
      refine cl_ (c_Str_length_1 M) ?_
      refine brt (nI_le (Nat.le_refl _) (by omega)) ?_
      refine hgo [] _ _ _ _ ?_
      refine ob_ (by decide) ⟨?_, rfl⟩
      rw [b2i_t]
      unfold nmD
      rw [decide_eq_true q1, decide_eq_true q2, hx]
      rfl
    | succ m ih =>
      intro k kv hm hk hv hx
      subst hv
      have hkl : k < am_sl.getD 1 0 := by omega
      refine hgo [] _ _ _ _ ?_
      refine cl_ (c_Str_length_1 M) ?_
      refine brf (nI_ge hkl (by omega)) ?_
      refine cle (c_at n t (sb S + k) M hT (by omega)) (by show [aR 2 0 0, aI (M 3 0 0 3 + nI k)] = _; rw [r2, nI_add]) rfl ?_
      rw [if_pos (by omega)]
      refine cl_ (c_Str_charAt_1 k M hkl) ?_
      refine br_ (fun g => ?_) (fun g => ?_)
      · refine hgo [] _ _ _ _ ?_
        refine ih (k + 1) _ (by omega) (by omega) (nI_1 k) ?_
        show (exB _ k || !decide (nI (t (sb S + k)) = (am_sb.getD 1 []).getD k 0)) = false
        rw [hx, decide_eq_true g]
        rfl
      · refine ob_ (by decide) ⟨?_, rfl⟩
        rw [b2i_f]
        unfold nmD
        rw [exB_iff.mpr ⟨k, hkl, by rw [decide_eq_false g]; rfl⟩]
        simp
  have e1 : M 3 0 0 2 = 1 ↔ ss S = 1 := by rw [r1]; exact nI_eq (b := 1) (by omega) (by omega)
  have ed : M 3 0 0 4 - M 3 0 0 3 = nI (se S - sb S) := by rw [r2, r3]; exact pk_sub hbe
  refine hgo [24, 28] _ _ _ _ ?_
  refine br_ (fun g => ?_) (fun g => ?_)
  · refine cl_ (c_Str_length_1 M) ?_
    refine br_ (fun g2 => ?_) (fun g2 => ?_)
    · have g2 : M 3 0 0 4 - M 3 0 0 3 = nI (am_sl.getD 1 0) := g2
      rw [ed, nI_eq (by omega) (by omega)] at g2
      refine hgo [28] _ _ _ _ ?_
      exact loop (e1.mp g) g2 _ 0 _ rfl (by omega) rfl rfl
    · have g2 : ¬ M 3 0 0 4 - M 3 0 0 3 = nI (am_sl.getD 1 0) := g2
      rw [ed, nI_eq (by omega) (by omega)] at g2
      refine no ?_
      unfold nmD
      rw [decide_eq_false g2]
      simp
  · refine no ?_
    unfold nmD
    rw [decide_eq_false (fun q => g (e1.mpr q))]
    simp
theorem c_isName_2 (n : Nat) (t : Nat → Nat) (S : PS) (M : am_M) (hT : TC n t M) (hS : WS n t S) (hR : RC t S M) : Con 5 mReader_isName [aR 3 0 0, aR 13 0 2] M (some (aI (b2i (nmD t S 2 = true)))) M := by
  obtain ⟨r1, r2, r3, r4, r5, r6⟩ := id hR
  obtain ⟨h500, hlen, hby, h256⟩ := id hT
  have hbe := hS.1.1
  have hen := hS.1.2.1
  have hs4 := hS.1.2.2.1
  have hl := (sl_lt 2 (by decide)).1
  refine con_of okReader_isName [some (aR 3 0 0), some (aR 13 0 2), none] (some .boolean) ?_
  intro J hgo
  have no : ¬ nmD t S 2 = true → J 24 [some (aR 3 0 0), some (aR 13 0 2), none] [] M := by
    intro g
    refine hgo [] _ _ _ _ ?_
    refine ob_ (by decide) ⟨?_, rfl⟩
    rw [b2i_f g]
  have loop : ss S = 1 → se S - sb S = am_sl.getD 2 0 → ∀ m k kv, m = am_sl.getD 2 0 - k → k ≤ am_sl.getD 2 0 → kv = nI k → exB (fun k => !decide (nI (t (sb S + k)) = (am_sb.getD 2 []).getD k 0)) k = false → J 28 [some (aR 3 0 0), some (aR 13 0 2), some (aI kv)] [] M := by
    intro q1 q2 m
    induction m with
    | zero =>
      intro k kv hm hk hv hx
      obtain rfl : k = am_sl.getD 2 0 := by omega
      subst hv
      refine hgo [] _ _ _ _ ?_
      refine cl_ (c_Str_length_2 M) ?_
      refine brt (nI_le (Nat.le_refl _) (by omega)) ?_
      refine hgo [] _ _ _ _ ?_
      refine ob_ (by decide) ⟨?_, rfl⟩
      rw [b2i_t]
      unfold nmD
      rw [decide_eq_true q1, decide_eq_true q2, hx]
      rfl
    | succ m ih =>
      intro k kv hm hk hv hx
      subst hv
      have hkl : k < am_sl.getD 2 0 := by omega
      refine hgo [] _ _ _ _ ?_
      refine cl_ (c_Str_length_2 M) ?_
      refine brf (nI_ge hkl (by omega)) ?_
      refine cle (c_at n t (sb S + k) M hT (by omega)) (by show [aR 2 0 0, aI (M 3 0 0 3 + nI k)] = _; rw [r2, nI_add]) rfl ?_
      rw [if_pos (by omega)]
      refine cl_ (c_Str_charAt_2 k M hkl) ?_
      refine br_ (fun g => ?_) (fun g => ?_)
      · refine hgo [] _ _ _ _ ?_
        refine ih (k + 1) _ (by omega) (by omega) (nI_1 k) ?_
        show (exB _ k || !decide (nI (t (sb S + k)) = (am_sb.getD 2 []).getD k 0)) = false
        rw [hx, decide_eq_true g]
        rfl
      · refine ob_ (by decide) ⟨?_, rfl⟩
        rw [b2i_f]
        unfold nmD
        rw [exB_iff.mpr ⟨k, hkl, by rw [decide_eq_false g]; rfl⟩]
        simp
  have e1 : M 3 0 0 2 = 1 ↔ ss S = 1 := by rw [r1]; exact nI_eq (b := 1) (by omega) (by omega)
  have ed : M 3 0 0 4 - M 3 0 0 3 = nI (se S - sb S) := by rw [r2, r3]; exact pk_sub hbe
  refine hgo [24, 28] _ _ _ _ ?_
  refine br_ (fun g => ?_) (fun g => ?_)
  · refine cl_ (c_Str_length_2 M) ?_
    refine br_ (fun g2 => ?_) (fun g2 => ?_)
    · have g2 : M 3 0 0 4 - M 3 0 0 3 = nI (am_sl.getD 2 0) := g2
      rw [ed, nI_eq (by omega) (by omega)] at g2
      refine hgo [28] _ _ _ _ ?_
      exact loop (e1.mp g) g2 _ 0 _ rfl (by omega) rfl rfl
    · have g2 : ¬ M 3 0 0 4 - M 3 0 0 3 = nI (am_sl.getD 2 0) := g2
      rw [ed, nI_eq (by omega) (by omega)] at g2
      refine no ?_
      unfold nmD
      rw [decide_eq_false g2]
      simp
  · refine no ?_
    unfold nmD
    rw [decide_eq_false (fun q => g (e1.mpr q))]
    simp
theorem c_isName_3 (n : Nat) (t : Nat → Nat) (S : PS) (M : am_M) (hT : TC n t M) (hS : WS n t S) (hR : RC t S M) : Con 5 mReader_isName [aR 3 0 0, aR 13 0 3] M (some (aI (b2i (nmD t S 3 = true)))) M := by
  obtain ⟨r1, r2, r3, r4, r5, r6⟩ := id hR
  obtain ⟨h500, hlen, hby, h256⟩ := id hT
  have hbe := hS.1.1
  have hen := hS.1.2.1
  have hs4 := hS.1.2.2.1
  have hl := (sl_lt 3 (by decide)).1
  refine con_of okReader_isName [some (aR 3 0 0), some (aR 13 0 3), none] (some .boolean) ?_
  intro J hgo
  have no : ¬ nmD t S 3 = true → J 24 [some (aR 3 0 0), some (aR 13 0 3), none] [] M := by
    intro g
    refine hgo [] _ _ _ _ ?_
    refine ob_ (by decide) ⟨?_, rfl⟩
    rw [b2i_f g]
  have loop : ss S = 1 → se S - sb S = am_sl.getD 3 0 → ∀ m k kv, m = am_sl.getD 3 0 - k → k ≤ am_sl.getD 3 0 → kv = nI k → exB (fun k => !decide (nI (t (sb S + k)) = (am_sb.getD 3 []).getD k 0)) k = false → J 28 [some (aR 3 0 0), some (aR 13 0 3), some (aI kv)] [] M := by
    intro q1 q2 m
    induction m with
    | zero =>
      intro k kv hm hk hv hx
      obtain rfl : k = am_sl.getD 3 0 := by omega
      subst hv
      refine hgo [] _ _ _ _ ?_
      refine cl_ (c_Str_length_3 M) ?_
      refine brt (nI_le (Nat.le_refl _) (by omega)) ?_
      refine hgo [] _ _ _ _ ?_
      refine ob_ (by decide) ⟨?_, rfl⟩
      rw [b2i_t]
      unfold nmD
      rw [decide_eq_true q1, decide_eq_true q2, hx]
      rfl
    | succ m ih =>
      intro k kv hm hk hv hx
      subst hv
      have hkl : k < am_sl.getD 3 0 := by omega
      refine hgo [] _ _ _ _ ?_
      refine cl_ (c_Str_length_3 M) ?_
      refine brf (nI_ge hkl (by omega)) ?_
      refine cle (c_at n t (sb S + k) M hT (by omega)) (by show [aR 2 0 0, aI (M 3 0 0 3 + nI k)] = _; rw [r2, nI_add]) rfl ?_
      rw [if_pos (by omega)]
      refine cl_ (c_Str_charAt_3 k M hkl) ?_
      refine br_ (fun g => ?_) (fun g => ?_)
      · refine hgo [] _ _ _ _ ?_
        refine ih (k + 1) _ (by omega) (by omega) (nI_1 k) ?_
        show (exB _ k || !decide (nI (t (sb S + k)) = (am_sb.getD 3 []).getD k 0)) = false
        rw [hx, decide_eq_true g]
        rfl
      · refine ob_ (by decide) ⟨?_, rfl⟩
        rw [b2i_f]
        unfold nmD
        rw [exB_iff.mpr ⟨k, hkl, by rw [decide_eq_false g]; rfl⟩]
        simp
  have e1 : M 3 0 0 2 = 1 ↔ ss S = 1 := by rw [r1]; exact nI_eq (b := 1) (by omega) (by omega)
  have ed : M 3 0 0 4 - M 3 0 0 3 = nI (se S - sb S) := by rw [r2, r3]; exact pk_sub hbe
  refine hgo [24, 28] _ _ _ _ ?_
  refine br_ (fun g => ?_) (fun g => ?_)
  · refine cl_ (c_Str_length_3 M) ?_
    refine br_ (fun g2 => ?_) (fun g2 => ?_)
    · have g2 : M 3 0 0 4 - M 3 0 0 3 = nI (am_sl.getD 3 0) := g2
      rw [ed, nI_eq (by omega) (by omega)] at g2
      refine hgo [28] _ _ _ _ ?_
      exact loop (e1.mp g) g2 _ 0 _ rfl (by omega) rfl rfl
    · have g2 : ¬ M 3 0 0 4 - M 3 0 0 3 = nI (am_sl.getD 3 0) := g2
      rw [ed, nI_eq (by omega) (by omega)] at g2
      refine no ?_
      unfold nmD
      rw [decide_eq_false g2]
      simp
  · refine no ?_
    unfold nmD
    rw [decide_eq_false (fun q => g (e1.mpr q))]
    simp
theorem c_isName_4 (n : Nat) (t : Nat → Nat) (S : PS) (M : am_M) (hT : TC n t M) (hS : WS n t S) (hR : RC t S M) : Con 5 mReader_isName [aR 3 0 0, aR 13 0 4] M (some (aI (b2i (nmD t S 4 = true)))) M := by
  obtain ⟨r1, r2, r3, r4, r5, r6⟩ := id hR
  obtain ⟨h500, hlen, hby, h256⟩ := id hT
  have hbe := hS.1.1
  have hen := hS.1.2.1
  have hs4 := hS.1.2.2.1
  have hl := (sl_lt 4 (by decide)).1
  refine con_of okReader_isName [some (aR 3 0 0), some (aR 13 0 4), none] (some .boolean) ?_
  intro J hgo
  have no : ¬ nmD t S 4 = true → J 24 [some (aR 3 0 0), some (aR 13 0 4), none] [] M := by
    intro g
    refine hgo [] _ _ _ _ ?_
    refine ob_ (by decide) ⟨?_, rfl⟩
    rw [b2i_f g]
  have loop : ss S = 1 → se S - sb S = am_sl.getD 4 0 → ∀ m k kv, m = am_sl.getD 4 0 - k → k ≤ am_sl.getD 4 0 → kv = nI k → exB (fun k => !decide (nI (t (sb S + k)) = (am_sb.getD 4 []).getD k 0)) k = false → J 28 [some (aR 3 0 0), some (aR 13 0 4), some (aI kv)] [] M := by
    intro q1 q2 m
    induction m with
    | zero =>
      intro k kv hm hk hv hx
      obtain rfl : k = am_sl.getD 4 0 := by omega
      subst hv
      refine hgo [] _ _ _ _ ?_
      refine cl_ (c_Str_length_4 M) ?_
      refine brt (nI_le (Nat.le_refl _) (by omega)) ?_
      refine hgo [] _ _ _ _ ?_
      refine ob_ (by decide) ⟨?_, rfl⟩
      rw [b2i_t]
      unfold nmD
      rw [decide_eq_true q1, decide_eq_true q2, hx]
      rfl
    | succ m ih =>
      intro k kv hm hk hv hx
      subst hv
      have hkl : k < am_sl.getD 4 0 := by omega
      refine hgo [] _ _ _ _ ?_
      refine cl_ (c_Str_length_4 M) ?_
      refine brf (nI_ge hkl (by omega)) ?_
      refine cle (c_at n t (sb S + k) M hT (by omega)) (by show [aR 2 0 0, aI (M 3 0 0 3 + nI k)] = _; rw [r2, nI_add]) rfl ?_
      rw [if_pos (by omega)]
      refine cl_ (c_Str_charAt_4 k M hkl) ?_
      refine br_ (fun g => ?_) (fun g => ?_)
      · refine hgo [] _ _ _ _ ?_
        refine ih (k + 1) _ (by omega) (by omega) (nI_1 k) ?_
        show (exB _ k || !decide (nI (t (sb S + k)) = (am_sb.getD 4 []).getD k 0)) = false
        rw [hx, decide_eq_true g]
        rfl
      · refine ob_ (by decide) ⟨?_, rfl⟩
        rw [b2i_f]
        unfold nmD
        rw [exB_iff.mpr ⟨k, hkl, by rw [decide_eq_false g]; rfl⟩]
        simp
  have e1 : M 3 0 0 2 = 1 ↔ ss S = 1 := by rw [r1]; exact nI_eq (b := 1) (by omega) (by omega)
  have ed : M 3 0 0 4 - M 3 0 0 3 = nI (se S - sb S) := by rw [r2, r3]; exact pk_sub hbe
  refine hgo [24, 28] _ _ _ _ ?_
  refine br_ (fun g => ?_) (fun g => ?_)
  · refine cl_ (c_Str_length_4 M) ?_
    refine br_ (fun g2 => ?_) (fun g2 => ?_)
    · have g2 : M 3 0 0 4 - M 3 0 0 3 = nI (am_sl.getD 4 0) := g2
      rw [ed, nI_eq (by omega) (by omega)] at g2
      refine hgo [28] _ _ _ _ ?_
      exact loop (e1.mp g) g2 _ 0 _ rfl (by omega) rfl rfl
    · have g2 : ¬ M 3 0 0 4 - M 3 0 0 3 = nI (am_sl.getD 4 0) := g2
      rw [ed, nI_eq (by omega) (by omega)] at g2
      refine no ?_
      unfold nmD
      rw [decide_eq_false g2]
      simp
  · refine no ?_
    unfold nmD
    rw [decide_eq_false (fun q => g (e1.mpr q))]
    simp
theorem c_isName_5 (n : Nat) (t : Nat → Nat) (S : PS) (M : am_M) (hT : TC n t M) (hS : WS n t S) (hR : RC t S M) : Con 5 mReader_isName [aR 3 0 0, aR 13 0 5] M (some (aI (b2i (nmD t S 5 = true)))) M := by
  obtain ⟨r1, r2, r3, r4, r5, r6⟩ := id hR
  obtain ⟨h500, hlen, hby, h256⟩ := id hT
  have hbe := hS.1.1
  have hen := hS.1.2.1
  have hs4 := hS.1.2.2.1
  have hl := (sl_lt 5 (by decide)).1
  refine con_of okReader_isName [some (aR 3 0 0), some (aR 13 0 5), none] (some .boolean) ?_
  intro J hgo
  have no : ¬ nmD t S 5 = true → J 24 [some (aR 3 0 0), some (aR 13 0 5), none] [] M := by
    intro g
    refine hgo [] _ _ _ _ ?_
    refine ob_ (by decide) ⟨?_, rfl⟩
    rw [b2i_f g]
  have loop : ss S = 1 → se S - sb S = am_sl.getD 5 0 → ∀ m k kv, m = am_sl.getD 5 0 - k → k ≤ am_sl.getD 5 0 → kv = nI k → exB (fun k => !decide (nI (t (sb S + k)) = (am_sb.getD 5 []).getD k 0)) k = false → J 28 [some (aR 3 0 0), some (aR 13 0 5), some (aI kv)] [] M := by
    intro q1 q2 m
    induction m with
    | zero =>
      intro k kv hm hk hv hx
      obtain rfl : k = am_sl.getD 5 0 := by omega
      subst hv
      refine hgo [] _ _ _ _ ?_
      refine cl_ (c_Str_length_5 M) ?_
      refine brt (nI_le (Nat.le_refl _) (by omega)) ?_
      refine hgo [] _ _ _ _ ?_
      refine ob_ (by decide) ⟨?_, rfl⟩
      rw [b2i_t]
      unfold nmD
      rw [decide_eq_true q1, decide_eq_true q2, hx]
      rfl
    | succ m ih =>
      intro k kv hm hk hv hx
      subst hv
      have hkl : k < am_sl.getD 5 0 := by omega
      refine hgo [] _ _ _ _ ?_
      refine cl_ (c_Str_length_5 M) ?_
      refine brf (nI_ge hkl (by omega)) ?_
      refine cle (c_at n t (sb S + k) M hT (by omega)) (by show [aR 2 0 0, aI (M 3 0 0 3 + nI k)] = _; rw [r2, nI_add]) rfl ?_
      rw [if_pos (by omega)]
      refine cl_ (c_Str_charAt_5 k M hkl) ?_
      refine br_ (fun g => ?_) (fun g => ?_)
      · refine hgo [] _ _ _ _ ?_
        refine ih (k + 1) _ (by omega) (by omega) (nI_1 k) ?_
        show (exB _ k || !decide (nI (t (sb S + k)) = (am_sb.getD 5 []).getD k 0)) = false
        rw [hx, decide_eq_true g]
        rfl
      · refine ob_ (by decide) ⟨?_, rfl⟩
        rw [b2i_f]
        unfold nmD
        rw [exB_iff.mpr ⟨k, hkl, by rw [decide_eq_false g]; rfl⟩]
        simp
  have e1 : M 3 0 0 2 = 1 ↔ ss S = 1 := by rw [r1]; exact nI_eq (b := 1) (by omega) (by omega)
  have ed : M 3 0 0 4 - M 3 0 0 3 = nI (se S - sb S) := by rw [r2, r3]; exact pk_sub hbe
  refine hgo [24, 28] _ _ _ _ ?_
  refine br_ (fun g => ?_) (fun g => ?_)
  · refine cl_ (c_Str_length_5 M) ?_
    refine br_ (fun g2 => ?_) (fun g2 => ?_)
    · have g2 : M 3 0 0 4 - M 3 0 0 3 = nI (am_sl.getD 5 0) := g2
      rw [ed, nI_eq (by omega) (by omega)] at g2
      refine hgo [28] _ _ _ _ ?_
      exact loop (e1.mp g) g2 _ 0 _ rfl (by omega) rfl rfl
    · have g2 : ¬ M 3 0 0 4 - M 3 0 0 3 = nI (am_sl.getD 5 0) := g2
      rw [ed, nI_eq (by omega) (by omega)] at g2
      refine no ?_
      unfold nmD
      rw [decide_eq_false g2]
      simp
  · refine no ?_
    unfold nmD
    rw [decide_eq_false (fun q => g (e1.mpr q))]
    simp
theorem c_isName_6 (n : Nat) (t : Nat → Nat) (S : PS) (M : am_M) (hT : TC n t M) (hS : WS n t S) (hR : RC t S M) : Con 5 mReader_isName [aR 3 0 0, aR 13 0 6] M (some (aI (b2i (nmD t S 6 = true)))) M := by
  obtain ⟨r1, r2, r3, r4, r5, r6⟩ := id hR
  obtain ⟨h500, hlen, hby, h256⟩ := id hT
  have hbe := hS.1.1
  have hen := hS.1.2.1
  have hs4 := hS.1.2.2.1
  have hl := (sl_lt 6 (by decide)).1
  refine con_of okReader_isName [some (aR 3 0 0), some (aR 13 0 6), none] (some .boolean) ?_
  intro J hgo
  have no : ¬ nmD t S 6 = true → J 24 [some (aR 3 0 0), some (aR 13 0 6), none] [] M := by
    intro g
    refine hgo [] _ _ _ _ ?_
    refine ob_ (by decide) ⟨?_, rfl⟩
    rw [b2i_f g]
  have loop : ss S = 1 → se S - sb S = am_sl.getD 6 0 → ∀ m k kv, m = am_sl.getD 6 0 - k → k ≤ am_sl.getD 6 0 → kv = nI k → exB (fun k => !decide (nI (t (sb S + k)) = (am_sb.getD 6 []).getD k 0)) k = false → J 28 [some (aR 3 0 0), some (aR 13 0 6), some (aI kv)] [] M := by
    intro q1 q2 m
    induction m with
    | zero =>
      intro k kv hm hk hv hx
      obtain rfl : k = am_sl.getD 6 0 := by omega
      subst hv
      refine hgo [] _ _ _ _ ?_
      refine cl_ (c_Str_length_6 M) ?_
      refine brt (nI_le (Nat.le_refl _) (by omega)) ?_
      refine hgo [] _ _ _ _ ?_
      refine ob_ (by decide) ⟨?_, rfl⟩
      rw [b2i_t]
      unfold nmD
      rw [decide_eq_true q1, decide_eq_true q2, hx]
      rfl
    | succ m ih =>
      intro k kv hm hk hv hx
      subst hv
      have hkl : k < am_sl.getD 6 0 := by omega
      refine hgo [] _ _ _ _ ?_
      refine cl_ (c_Str_length_6 M) ?_
      refine brf (nI_ge hkl (by omega)) ?_
      refine cle (c_at n t (sb S + k) M hT (by omega)) (by show [aR 2 0 0, aI (M 3 0 0 3 + nI k)] = _; rw [r2, nI_add]) rfl ?_
      rw [if_pos (by omega)]
      refine cl_ (c_Str_charAt_6 k M hkl) ?_
      refine br_ (fun g => ?_) (fun g => ?_)
      · refine hgo [] _ _ _ _ ?_
        refine ih (k + 1) _ (by omega) (by omega) (nI_1 k) ?_
        show (exB _ k || !decide (nI (t (sb S + k)) = (am_sb.getD 6 []).getD k 0)) = false
        rw [hx, decide_eq_true g]
        rfl
      · refine ob_ (by decide) ⟨?_, rfl⟩
        rw [b2i_f]
        unfold nmD
        rw [exB_iff.mpr ⟨k, hkl, by rw [decide_eq_false g]; rfl⟩]
        simp
  have e1 : M 3 0 0 2 = 1 ↔ ss S = 1 := by rw [r1]; exact nI_eq (b := 1) (by omega) (by omega)
  have ed : M 3 0 0 4 - M 3 0 0 3 = nI (se S - sb S) := by rw [r2, r3]; exact pk_sub hbe
  refine hgo [24, 28] _ _ _ _ ?_
  refine br_ (fun g => ?_) (fun g => ?_)
  · refine cl_ (c_Str_length_6 M) ?_
    refine br_ (fun g2 => ?_) (fun g2 => ?_)
    · have g2 : M 3 0 0 4 - M 3 0 0 3 = nI (am_sl.getD 6 0) := g2
      rw [ed, nI_eq (by omega) (by omega)] at g2
      refine hgo [28] _ _ _ _ ?_
      exact loop (e1.mp g) g2 _ 0 _ rfl (by omega) rfl rfl
    · have g2 : ¬ M 3 0 0 4 - M 3 0 0 3 = nI (am_sl.getD 6 0) := g2
      rw [ed, nI_eq (by omega) (by omega)] at g2
      refine no ?_
      unfold nmD
      rw [decide_eq_false g2]
      simp
  · refine no ?_
    unfold nmD
    rw [decide_eq_false (fun q => g (e1.mpr q))]
    simp
theorem c_isName_7 (n : Nat) (t : Nat → Nat) (S : PS) (M : am_M) (hT : TC n t M) (hS : WS n t S) (hR : RC t S M) : Con 5 mReader_isName [aR 3 0 0, aR 13 0 7] M (some (aI (b2i (nmD t S 7 = true)))) M := by
  obtain ⟨r1, r2, r3, r4, r5, r6⟩ := id hR
  obtain ⟨h500, hlen, hby, h256⟩ := id hT
  have hbe := hS.1.1
  have hen := hS.1.2.1
  have hs4 := hS.1.2.2.1
  have hl := (sl_lt 7 (by decide)).1
  refine con_of okReader_isName [some (aR 3 0 0), some (aR 13 0 7), none] (some .boolean) ?_
  intro J hgo
  have no : ¬ nmD t S 7 = true → J 24 [some (aR 3 0 0), some (aR 13 0 7), none] [] M := by
    intro g
    refine hgo [] _ _ _ _ ?_
    refine ob_ (by decide) ⟨?_, rfl⟩
    rw [b2i_f g]
  have loop : ss S = 1 → se S - sb S = am_sl.getD 7 0 → ∀ m k kv, m = am_sl.getD 7 0 - k → k ≤ am_sl.getD 7 0 → kv = nI k → exB (fun k => !decide (nI (t (sb S + k)) = (am_sb.getD 7 []).getD k 0)) k = false → J 28 [some (aR 3 0 0), some (aR 13 0 7), some (aI kv)] [] M := by
    intro q1 q2 m
    induction m with
    | zero =>
      intro k kv hm hk hv hx
      obtain rfl : k = am_sl.getD 7 0 := by omega
      subst hv
      refine hgo [] _ _ _ _ ?_
      refine cl_ (c_Str_length_7 M) ?_
      refine brt (nI_le (Nat.le_refl _) (by omega)) ?_
      refine hgo [] _ _ _ _ ?_
      refine ob_ (by decide) ⟨?_, rfl⟩
      rw [b2i_t]
      unfold nmD
      rw [decide_eq_true q1, decide_eq_true q2, hx]
      rfl
    | succ m ih =>
      intro k kv hm hk hv hx
      subst hv
      have hkl : k < am_sl.getD 7 0 := by omega
      refine hgo [] _ _ _ _ ?_
      refine cl_ (c_Str_length_7 M) ?_
      refine brf (nI_ge hkl (by omega)) ?_
      refine cle (c_at n t (sb S + k) M hT (by omega)) (by show [aR 2 0 0, aI (M 3 0 0 3 + nI k)] = _; rw [r2, nI_add]) rfl ?_
      rw [if_pos (by omega)]
      refine cl_ (c_Str_charAt_7 k M hkl) ?_
      refine br_ (fun g => ?_) (fun g => ?_)
      · refine hgo [] _ _ _ _ ?_
        refine ih (k + 1) _ (by omega) (by omega) (nI_1 k) ?_
        show (exB _ k || !decide (nI (t (sb S + k)) = (am_sb.getD 7 []).getD k 0)) = false
        rw [hx, decide_eq_true g]
        rfl
      · refine ob_ (by decide) ⟨?_, rfl⟩
        rw [b2i_f]
        unfold nmD
        rw [exB_iff.mpr ⟨k, hkl, by rw [decide_eq_false g]; rfl⟩]
        simp
  have e1 : M 3 0 0 2 = 1 ↔ ss S = 1 := by rw [r1]; exact nI_eq (b := 1) (by omega) (by omega)
  have ed : M 3 0 0 4 - M 3 0 0 3 = nI (se S - sb S) := by rw [r2, r3]; exact pk_sub hbe
  refine hgo [24, 28] _ _ _ _ ?_
  refine br_ (fun g => ?_) (fun g => ?_)
  · refine cl_ (c_Str_length_7 M) ?_
    refine br_ (fun g2 => ?_) (fun g2 => ?_)
    · have g2 : M 3 0 0 4 - M 3 0 0 3 = nI (am_sl.getD 7 0) := g2
      rw [ed, nI_eq (by omega) (by omega)] at g2
      refine hgo [28] _ _ _ _ ?_
      exact loop (e1.mp g) g2 _ 0 _ rfl (by omega) rfl rfl
    · have g2 : ¬ M 3 0 0 4 - M 3 0 0 3 = nI (am_sl.getD 7 0) := g2
      rw [ed, nI_eq (by omega) (by omega)] at g2
      refine no ?_
      unfold nmD
      rw [decide_eq_false g2]
      simp
  · refine no ?_
    unfold nmD
    rw [decide_eq_false (fun q => g (e1.mpr q))]
    simp
theorem c_isName (n : Nat) (t : Nat → Nat) (S : PS) (i : Nat) (M : am_M) (hT : TC n t M) (hS : WS n t S) (hR : RC t S M) (hi : i < 8) : Con 5 mReader_isName [aR 3 0 0, aR 13 0 i] M (some (aI (b2i (nmD t S i = true)))) M := by
  rcases lt8 hi with rfl | rfl | rfl | rfl | rfl | rfl | rfl | rfl
  · exact c_isName_0 n t S M hT hS hR
  · exact c_isName_1 n t S M hT hS hR
  · exact c_isName_2 n t S M hT hS hR
  · exact c_isName_3 n t S M hT hS hR
  · exact c_isName_4 n t S M hT hS hR
  · exact c_isName_5 n t S M hT hS hR
  · exact c_isName_6 n t S M hT hS hR
  · exact c_isName_7 n t S M hT hS hR
theorem c_Cnumber (n : Nat) (t : Nat → Nat) (S : PS) (lo hi : Nat) (lx : Int32) (M : am_M) (hT : TC n t M) (hS : WS n t S) (hR : RC t S M) (hlx : sf S = 0 → lx = nI lo) (hlo : sf S = 0 → lo < 10000) (hhi : hi < 10000) : ConP 3 mReader_number [aR 3 0 0, aI lx, aI (nI hi)] M (fun r M2 => (∃ x, r = some (aI x) ∧ (sf (nu n t lo hi S) = 0 → x = nI (nuv t S))) ∧ K3 M2 M ∧ RC t (nu n t lo hi S) M2) := by
  obtain ⟨r1, r2, r3, r4, r5, r6⟩ := id hR
  have hs4 := hS.1.2.2.1
  have hf3 := hS.2
  refine con_of okReader_number [some (aR 3 0 0), some (aI lx), some (aI (nI hi)), none] (some .int) ?_
  intro J hgo
  by_cases q : sf S = 0
  · have hlx := hlx q
    subst hlx
    have hlo := hlo q
    have ff : ∀ k, k ≤ 3 → k ≠ 0 → ¬ sf (fl k S) = 0 := by
      intro k _ hk0 z
      unfold fl at z
      rw [if_pos q] at z
      exact hk0 z
    refine hgo [] _ _ _ _ ?_
    refine brt (show M 3 0 0 6 = 0 by rw [r4, q]; rfl) ?_
    by_cases q2 : ss S = 2
    · have hv := nuv_lt hS q2
      have e5 := r6 q2
      have no : ¬ (lo ≤ nuv t S ∧ nuv t S ≤ hi) → J 40 [some (aR 3 0 0), some (aI (nI lo)), some (aI (nI hi)), none] [] M := by
        intro g
        refine hgo [] _ _ _ _ ?_
        refine clp (c_fail 2 t S M (by omega) hf3 hR) ?_
        rintro r M2 ⟨rfl, k2, rr⟩
        unfold nu
        rw [if_pos q, if_pos q2, if_neg g]
        exact ⟨⟨0, rfl, fun z => absurd z (ff 2 (by omega) (by omega))⟩, k2, rr⟩
      refine hgo [] _ _ _ _ ?_
      refine brt (show M 3 0 0 2 = 2 by rw [r1, q2]; rfl) ?_
      refine hgo [40] _ _ _ _ ?_
      refine br_ (fun g => ?_) (fun g => ?_)
      · have g : M 3 0 0 5 < nI lo := g
        rw [e5, nI_ltI (by omega) (by omega)] at g
        exact no (by omega)
      · have g : ¬ M 3 0 0 5 < nI lo := g
        rw [e5, nI_ltI (by omega) (by omega)] at g
        refine br_ (fun g2 => ?_) (fun g2 => ?_)
        · have g2 : M 3 0 0 5 ≤ nI hi := g2
          rw [e5, nI_leI (by omega) (by omega)] at g2
          refine hgo [] _ _ _ _ ?_
          refine clp (c_step n t S M hT hS hR) ?_
          rintro r M2 ⟨rfl, k2, rr⟩
          unfold nu
          rw [if_pos q, if_pos q2, if_pos (by omega)]
          exact ⟨⟨_, rfl, fun _ => e5⟩, k2, rr⟩
        · have g2 : ¬ M 3 0 0 5 ≤ nI hi := g2
          rw [e5, nI_leI (by omega) (by omega)] at g2
          exact no (by omega)
    · refine hgo [] _ _ _ _ ?_
      refine brf (show ¬ M 3 0 0 2 = 2 by rw [r1]; exact fun z => q2 ((nI_eq (b := 2) (by omega) (by omega)).mp z)) ?_
      refine clp (c_fail 1 t S M (by omega) hf3 hR) ?_
      rintro r M2 ⟨rfl, k2, rr⟩
      unfold nu
      rw [if_pos q, if_neg q2]
      exact ⟨⟨0, rfl, fun z => absurd z (ff 1 (by omega) (by omega))⟩, k2, rr⟩
  · refine hgo [] _ _ _ _ ?_
    refine brf (show ¬ M 3 0 0 6 = 0 by rw [r4]; exact nI_ne0 (by omega) (by omega)) ?_
    unfold nu
    rw [if_neg q]
    exact ⟨⟨0, rfl, fun z => absurd z q⟩, fun _ _ => rfl, hR⟩
theorem c_semicolon (n : Nat) (t : Nat → Nat) (S : PS) (M : am_M) (hT : TC n t M) (hS : WS n t S) (hR : RC t S M) : ConP 3 mReader_semicolon [aR 3 0 0] M (fun r M2 => r = none ∧ K3 M2 M ∧ RC t (sc n t S) M2) := by
  obtain ⟨r1, r2, r3, r4, r5, r6⟩ := id hR
  have hs4 := hS.1.2.2.1
  have hf3 := hS.2
  refine con_of okReader_semicolon [some (aR 3 0 0)] none ?_
  intro J hgo
  refine hgo [] _ _ _ _ ?_
  by_cases q : sf S = 0
  · refine brt (show M 3 0 0 6 = 0 by rw [r4, q]; rfl) ?_
    refine hgo [] _ _ _ _ ?_
    by_cases q2 : ss S = 3
    · refine brt (show M 3 0 0 2 = 3 by rw [r1, q2]; rfl) ?_
      refine clp (c_step n t S M hT hS hR) ?_
      rintro r M2 ⟨rfl, k2, rr⟩
      refine hgo [] _ _ _ _ ?_
      refine ⟨rfl, k2, ?_⟩
      unfold sc
      rw [if_pos q, if_pos q2]
      exact rr
    · refine brf (show ¬ M 3 0 0 2 = 3 by rw [r1]; exact fun z => q2 ((nI_eq (b := 3) (by omega) (by omega)).mp z)) ?_
      refine hgo [] _ _ _ _ ?_
      refine clp (c_fail 1 t S M (by omega) hf3 hR) ?_
      rintro r M2 ⟨rfl, k2, rr⟩
      refine ⟨rfl, k2, ?_⟩
      unfold sc
      rw [if_pos q, if_neg q2]
      exact rr
  · refine brf (show ¬ M 3 0 0 6 = 0 by rw [r4]; exact nI_ne0 (by omega) (by omega)) ?_
    refine ⟨rfl, fun _ _ => rfl, ?_⟩
    unfold sc
    rw [if_neg q]
    exact hR
/-- which name -/
def wd (t : Nat → Nat) (S : PS) : Nat := if nmD t S 0 = true then 0 else if nmD t S 1 = true then 1 else if nmD t S 2 = true then 2 else 3
def kdn (t : Nat → Nat) (S : PS) : Nat := if nmD t S 7 = true then 5 else if nmD t S 6 = true then 4 else if nmD t S 5 = true then 3 else if nmD t S 4 = true then 2 else if nmD t S 3 = true then 1 else 0
def so (n : Nat) (t : Nat → Nat) (S : PS) : PS := if sf S = 0 then (if kdn t S = 0 then fl 1 S else nx n t S) else S
theorem c_word (n : Nat) (t : Nat → Nat) (S : PS) (M : am_M) (hT : TC n t M) (hS : WS n t S) (hR : RC t S M) : Con 6 mReader_word [aR 3 0 0] M (some (aI (if wd t S = 3 then -1 else nI (wd t S)))) M := by
  refine con_of okReader_word [some (aR 3 0 0)] (some .int) ?_
  intro J hgo
  refine hgo [] _ _ _ _ ?_
  refine cl_ (c_isName n t S 0 M hT hS hR (by omega)) ?_
  refine brb (fun g0 => ?_) (fun g0 => ?_)
  · refine hgo [] _ _ _ _ ?_
    refine cl_ (c_isName n t S 1 M hT hS hR (by omega)) ?_
    refine brb (fun g1 => ?_) (fun g1 => ?_)
    · refine hgo [] _ _ _ _ ?_
      refine cl_ (c_isName n t S 2 M hT hS hR (by omega)) ?_
      refine brb (fun g2 => ?_) (fun g2 => ?_)
      · refine hgo [] _ _ _ _ ?_
        refine ⟨?_, rfl⟩
        unfold wd
        rw [if_neg g0, if_neg g1, if_neg g2]
        rfl
      · refine hgo [] _ _ _ _ ?_
        refine ⟨?_, rfl⟩
        unfold wd
        rw [if_neg g0, if_neg g1, if_pos g2]
        rfl
    · refine ⟨?_, rfl⟩
      unfold wd
      rw [if_neg g0, if_pos g1]
      rfl
  · refine ⟨?_, rfl⟩
    unfold wd
    rw [if_pos g0]
    rfl
theorem c_sortOfPaper (n : Nat) (t : Nat → Nat) (S : PS) (M : am_M) (hT : TC n t M) (hS : WS n t S) (hR : RC t S M) (hf : sf S = 0) : ConP 6 mReader_sortOfPaper [aR 3 0 0] M (fun r M2 => r = some (aI (nI (kdn t S))) ∧ K3 M2 M ∧ RC t (so n t S) M2) := by
  obtain ⟨r1, r2, r3, r4, r5, r6⟩ := id hR
  have hf3 := hS.2
  refine con_of okReader_sortOfPaper [some (aR 3 0 0), none] (some .int) ?_
  intro J hgo
  have s57 : J 57 [some (aR 3 0 0), some (aI (nI (kdn t S)))] [] M := by
    have hk5 : kdn t S ≤ 5 := by
      unfold kdn
      repeat' split
      all_goals omega
    by_cases q : kdn t S = 0
    · refine hgo [] _ _ _ _ ?_
      refine brt (by rw [q]; rfl) ?_
      refine clp (c_fail 1 t S M (by omega) hf3 hR) ?_
      rintro r M2 ⟨rfl, k2, rr⟩
      refine brf (show ¬ M2 3 0 0 6 = 0 by
        rw [rr.2.2.2.1]
        unfold fl
        rw [if_pos hf]
        exact nI_ne0 (n := 1) (by omega) (by omega)) ?_
      refine hgo [] _ _ _ _ ?_
      refine ⟨rfl, k2, ?_⟩
      unfold so
      rw [if_pos hf, if_pos q]
      exact rr
    · refine hgo [] _ _ _ _ ?_
      refine brf (nI_ne0 (by omega) (by omega)) ?_
      refine hgo [] _ _ _ _ ?_
      refine brt (show M 3 0 0 6 = 0 by rw [r4, hf]; rfl) ?_
      refine clp (c_step n t S M hT hS hR) ?_
      rintro r M2 ⟨rfl, k2, rr⟩
      refine ⟨rfl, k2, ?_⟩
      unfold so
      rw [if_pos hf, if_neg q]
      exact rr
  have s46 : ∀ x : Int32, x = nI (if nmD t S 6 = true then 4 else if nmD t S 5 = true then 3 else if nmD t S 4 = true then 2 else if nmD t S 3 = true then 1 else 0) → J 46 [some (aR 3 0 0), some (aI x)] [] M := by
    intro x hx
    refine hgo [57] _ _ _ _ ?_
    refine cl_ (c_isName n t S 7 M hT hS hR (by omega)) ?_
    refine brb (fun g => ?_) (fun g => ?_)
    · rw [show x = nI (kdn t S) by rw [hx]; unfold kdn; rw [if_neg g]]
      exact s57
    · rw [show kdn t S = 5 by unfold kdn; rw [if_pos g]] at s57
      exact s57
  have s35 : ∀ x : Int32, x = nI (if nmD t S 5 = true then 3 else if nmD t S 4 = true then 2 else if nmD t S 3 = true then 1 else 0) → J 35 [some (aR 3 0 0), some (aI x)] [] M := by
    intro x hx
    refine hgo [46] _ _ _ _ ?_
    refine cl_ (c_isName n t S 6 M hT hS hR (by omega)) ?_
    refine brb (fun g => ?_) (fun g => ?_)
    · exact s46 x (by rw [hx, if_neg g])
    · exact s46 4 (by rw [if_pos g]; rfl)
  have s24 : ∀ x : Int32, x = nI (if nmD t S 4 = true then 2 else if nmD t S 3 = true then 1 else 0) → J 24 [some (aR 3 0 0), some (aI x)] [] M := by
    intro x hx
    refine hgo [35] _ _ _ _ ?_
    refine cl_ (c_isName n t S 5 M hT hS hR (by omega)) ?_
    refine brb (fun g => ?_) (fun g => ?_)
    · exact s35 x (by rw [hx, if_neg g])
    · exact s35 3 (by rw [if_pos g]; rfl)
  have s13 : ∀ x : Int32, x = nI (if nmD t S 3 = true then 1 else 0) → J 13 [some (aR 3 0 0), some (aI x)] [] M := by
    intro x hx
    refine hgo [24] _ _ _ _ ?_
    refine cl_ (c_isName n t S 4 M hT hS hR (by omega)) ?_
    refine brb (fun g => ?_) (fun g => ?_)
    · exact s24 x (by rw [hx, if_neg g])
    · exact s24 2 (by rw [if_pos g]; rfl)
  refine hgo [13] _ _ _ _ ?_
  refine cl_ (c_isName n t S 3 M hT hS hR (by omega)) ?_
  refine brb (fun g => ?_) (fun g => ?_)
  · exact s13 0 (by rw [if_neg g]; rfl)
  · exact s13 1 (by rw [if_pos g]; rfl)
