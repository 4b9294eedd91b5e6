def plMath : List (Nat × Nat × am_N) := []
theorem poMath : ∀ q ∈ plMath, am_pk "java/lang/Math" q.1 q.2.1 q.2.2 := fun _ h => absurd h List.not_mem_nil
def kMath_abs : List am_E := [(0, .iload_n 0, [0], none),
  (1, .ifCond .ge 8, [9], none),
  (4, .iload_n 0, [0], none),
  (5, .ineg, [], none),
  (6, .goto 4, [10], none),
  (9, .iload_n 0, [0], none),
  (10, .ireturn, [], none)]
theorem okMath_abs : am_mok mMath_abs kMath_abs := ⟨by decide +kernel, plMath, by decide +kernel, poMath⟩
def kMath_max : List am_E := [(0, .iload_n 0, [0], none),
  (1, .iload_n 1, [1], none),
  (2, .if_icmp .lt 7, [9], none),
  (5, .iload_n 0, [0], none),
  (6, .goto 4, [10], none),
  (9, .iload_n 1, [1], none),
  (10, .ireturn, [], none)]
theorem okMath_max : am_mok mMath_max kMath_max := ⟨by decide +kernel, plMath, by decide +kernel, poMath⟩
def kMath_min : List am_E := [(0, .iload_n 0, [0], none),
  (1, .iload_n 1, [1], none),
  (2, .if_icmp .gt 7, [9], none),
  (5, .iload_n 0, [0], none),
  (6, .goto 4, [10], none),
  (9, .iload_n 1, [1], none),
  (10, .ireturn, [], none)]
theorem okMath_min : am_mok mMath_min kMath_min := ⟨by decide +kernel, plMath, by decide +kernel, poMath⟩
