def plPre : List (Nat × Nat × am_N) := []
theorem poPre : ∀ q ∈ plPre, am_pk "jdk/internal/util/Preconditions" q.1 q.2.1 q.2.2 := fun _ h => absurd h List.not_mem_nil
def kPre_checkIndex : List am_E := [(0, .iload_n 0, [0], none),
  (1, .ifCond .lt 8, [9], none),
  (4, .iload_n 0, [0], none),
  (5, .iload_n 1, [1], none),
  (6, .if_icmp .lt 10, [16], none),
  (9, .aload_n 2, [2], none),
  (10, .iload_n 0, [0], none),
  (11, .iload_n 1, [1], none),
  (12, .invokestatic 95, [], none),
  (15, .athrow, [], none),
  (16, .iload_n 0, [0], none),
  (17, .ireturn, [], none)]
theorem okPre_checkIndex : am_mok mPre_checkIndex kPre_checkIndex := ⟨by decide +kernel, plPre, by decide +kernel, poPre⟩
