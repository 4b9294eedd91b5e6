theorem peLat_5_9 : am_pk "java/lang/StringLatin1" 5 9 (eC 208 2 0) := ⟨wStr_checkIndex, sStr_checkIndex, Or.inl (gm 556 (by decide +kernel) (by decide +kernel))⟩
def plLat : List (Nat × Nat × am_N) := [(5, 9, eC 208 2 0)]
theorem poLat : ∀ q ∈ plLat, am_pk "java/lang/StringLatin1" q.1 q.2.1 q.2.2 := List.forall_mem_cons.mpr ⟨peLat_5_9, fun _ h => absurd h List.not_mem_nil⟩
def kLat_charAt : List am_E := [(0, .iload_n 1, [1], none),
  (1, .aload_n 0, [0], none),
  (2, .arraylength, [], none),
  (3, .invokestatic 9, [], some (eC 208 2 0)),
  (6, .aload_n 0, [0], none),
  (7, .iload_n 1, [1], none),
  (8, .baload, [], none),
  (9, .sipush 255, [], some (eI 255)),
  (12, .iand, [], none),
  (13, .i2c, [], none),
  (14, .ireturn, [], none)]
theorem okLat_charAt : am_mok mLat_charAt kLat_charAt := ⟨by decide +kernel, plLat, by decide +kernel, poLat⟩
