theorem peStr_0_9 : am_pk "java/lang/String" 0 9 (eT 1) := Or.inr ⟨rfl, (gm 1430 (by decide +kernel) (by decide +kernel))⟩
theorem peStr_0_15 : am_pk "java/lang/String" 0 15 (eT 0) := Or.inl ⟨rfl, (gm 1431 (by decide +kernel) (by decide +kernel))⟩
theorem peStr_3_38 : am_pk "java/lang/String" 3 38 (eI 1) := ⟨rfl, (gm 543 (by decide +kernel) (by decide +kernel))⟩
theorem peStr_3_1053 : am_pk "java/lang/String" 3 1053 (eR (aR 15 0 0)) := Or.inr ⟨rfl, (gm 559 (by decide +kernel) (by decide +kernel))⟩
theorem peStr_4_335 : am_pk "java/lang/String" 4 335 (eC 206 1 13) := ⟨0, rfl, wStr_coder, (gm 539 (by decide +kernel) (by decide +kernel)), vStr_coder.1, vStr_coder.2, Or.inr ⟨rfl, rfl⟩⟩
theorem peStr_4_492 : am_pk "java/lang/String" 4 492 (eC 207 1 13) := ⟨0, rfl, wStr_isLatin1, (gm 549 (by decide +kernel) (by decide +kernel)), vStr_isLatin1.1, vStr_isLatin1.2, Or.inr ⟨rfl, rfl⟩⟩
theorem peStr_5_495 : am_pk "java/lang/String" 5 495 (eC 209 2 0) := ⟨wLat_charAt, sLat_charAt, Or.inl (gm 553 (by decide +kernel) (by decide +kernel))⟩
theorem peStr_5_1059 : am_pk "java/lang/String" 5 1059 (eC 213 3 0) := ⟨wPre_checkIndex, sPre_checkIndex, Or.inl (gm 561 (by decide +kernel) (by decide +kernel))⟩
def plStr : List (Nat × Nat × am_N) := [(0, 9, eT 1), (0, 15, eT 0), (3, 38, eI 1), (3, 1053, eR (aR 15 0 0)), (4, 335, eC 206 1 13), (4, 492, eC 207 1 13), (5, 495, eC 209 2 0), (5, 1059, eC 213 3 0)]
theorem poStr : ∀ q ∈ plStr, am_pk "java/lang/String" q.1 q.2.1 q.2.2 := List.forall_mem_cons.mpr ⟨peStr_0_9, List.forall_mem_cons.mpr ⟨peStr_0_15, List.forall_mem_cons.mpr ⟨peStr_3_38, List.forall_mem_cons.mpr ⟨peStr_3_1053, List.forall_mem_cons.mpr ⟨peStr_4_335, List.forall_mem_cons.mpr ⟨peStr_4_492, List.forall_mem_cons.mpr ⟨peStr_5_495, List.forall_mem_cons.mpr ⟨peStr_5_1059, fun _ h => absurd h List.not_mem_nil⟩⟩⟩⟩⟩⟩⟩⟩
def kStr_length : List am_E := [(0, .aload_n 0, [0], none),
  (1, .getfield 9, [], some (eT 1)),
  (4, .arraylength, [], none),
  (5, .aload_n 0, [0], none),
  (6, .invokevirtual 335, [], some (eC 206 1 13)),
  (9, .ishr, [], none),
  (10, .ireturn, [], none)]
theorem okStr_length : am_mok mStr_length kStr_length := ⟨by decide +kernel, plStr, by decide +kernel, poStr⟩
def kStr_charAt : List am_E := [(0, .aload_n 0, [0], none),
  (1, .invokevirtual 492, [], some (eC 207 1 13)),
  (4, .ifCond .eq 12, [16], none),
  (7, .aload_n 0, [0], none),
  (8, .getfield 9, [], some (eT 1)),
  (11, .iload_n 1, [1], none),
  (12, .invokestatic 495, [], some (eC 209 2 0)),
  (15, .ireturn, [], none),
  (16, .aload_n 0, [0], none),
  (17, .getfield 9, [], some (eT 1)),
  (20, .iload_n 1, [1], none),
  (21, .invokestatic 498, [], none),
  (24, .ireturn, [], none)]
theorem okStr_charAt : am_mok mStr_charAt kStr_charAt := ⟨by decide +kernel, plStr, by decide +kernel, poStr⟩
def kStr_coder : List am_E := [(0, .getstatic 38, [], some (eI 1)),
  (3, .ifCond .eq 10, [13], none),
  (6, .aload_n 0, [0], none),
  (7, .getfield 15, [], some (eT 0)),
  (10, .goto 4, [14], none),
  (13, .iconst 1, [], some (eI 1)),
  (14, .ireturn, [], none)]
theorem okStr_coder : am_mok mStr_coder kStr_coder := ⟨by decide +kernel, plStr, by decide +kernel, poStr⟩
def kStr_isLatin1 : List am_E := [(0, .getstatic 38, [], some (eI 1)),
  (3, .ifCond .eq 14, [17], none),
  (6, .aload_n 0, [0], none),
  (7, .getfield 15, [], some (eT 0)),
  (10, .ifCond .ne 7, [17], none),
  (13, .iconst 1, [], some (eI 1)),
  (14, .goto 4, [18], none),
  (17, .iconst 0, [], some (eI 0)),
  (18, .ireturn, [], none)]
theorem okStr_isLatin1 : am_mok mStr_isLatin1 kStr_isLatin1 := ⟨by decide +kernel, plStr, by decide +kernel, poStr⟩
def kStr_checkIndex : List am_E := [(0, .iload_n 0, [0], none),
  (1, .iload_n 1, [1], none),
  (2, .getstatic 1053, [], some (eR (aR 15 0 0))),
  (5, .invokestatic 1059, [], some (eC 213 3 0)),
  (8, .pop, [], none),
  (9, .return_, [], none)]
theorem okStr_checkIndex : am_mok mStr_checkIndex kStr_checkIndex := ⟨by decide +kernel, plStr, by decide +kernel, poStr⟩
