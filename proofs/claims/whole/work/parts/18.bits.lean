/-! sets of ten as bits -/
def bsn (f : Nat → Bool) : Nat → Nat
  | 0 => 0
  | n + 1 => bsn f n + (if f n then 2 ^ n else 0)
theorem bsn_lt (f : Nat → Bool) : ∀ n, bsn f n < 2 ^ n
  | 0 => Nat.zero_lt_one
  | n + 1 => by
    have := bsn_lt f n
    unfold bsn
    rw [Nat.pow_succ]
    split <;> omega
theorem bsn_bit (f : Nat → Bool) (i : Nat) : ∀ n, (bsn f n).testBit i = (decide (i < n) && f i)
  | 0 => by simp [bsn]
  | n + 1 => by
    have h1 := bsn_lt f n
    have ih := bsn_bit f i n
    unfold bsn
    by_cases hf : f n = true
    · rw [if_pos hf]
      have e0 : bsn f n + 2 ^ n = 2 ^ n * 1 + bsn f n := by omega
      rw [e0, Nat.testBit_two_pow_mul_add _ h1]
      by_cases hi : i < n
      · rw [if_pos hi, ih]
        simp [hi, Nat.lt_succ_of_lt hi]
      · rw [if_neg hi]
        by_cases he : i = n
        · subst he
          simp [hf]
        · have : ¬ i < n + 1 := by omega
          have h9 : (1 : Nat).testBit (i - n) = false := by
            obtain ⟨q, hq⟩ : ∃ q, i - n = q + 1 := ⟨i - n - 1, by omega⟩
            rw [hq, Nat.testBit_succ]
            simp
          simp [this, h9]
    · rw [if_neg hf, Nat.add_zero, ih]
      by_cases hi : i < n
      · simp [hi, Nat.lt_succ_of_lt hi]
      · by_cases he : i = n
        · subst he
          simp at hf
          simp [hf]
        · have : ¬ i < n + 1 := by omega
          simp [hi, this]
/-- the set of those below ten of which f is true -/
def bs (f : Nat → Bool) : Int32 := nI (bsn f 10)
theorem bsn_cong {f g : Nat → Bool} : ∀ {n : Nat}, (∀ i, i < n → f i = g i) → bsn f n = bsn g n
  | 0, _ => rfl
  | n + 1, h => by
    unfold bsn
    rw [bsn_cong (fun i hi => h i (by omega)), h n (by omega)]
theorem bs_cong {f g : Nat → Bool} (h : ∀ i, i < 10 → f i = g i) : bs f = bs g := by
  unfold bs
  rw [bsn_cong h]
theorem bsn_1024 (f : Nat → Bool) : bsn f 10 < 1024 := bsn_lt f 10
theorem bs_inj {f g : Nat → Bool} (h : bs f = bs g) : ∀ i, i < 10 → f i = g i := by
  intro i hi
  have h1 : bsn f 10 = bsn g 10 := (nI_eq (by have := bsn_1024 f; omega) (by have := bsn_1024 g; omega)).mp h
  have h2 := bsn_bit f i 10
  rw [h1, bsn_bit g i 10] at h2
  simpa [hi] using h2.symm
theorem nI_bv (n : Nat) : (nI n).toBitVec = BitVec.ofNat 32 n := rfl
theorem nI_or (a b : Nat) : nI a ||| nI b = nI (a ||| b) := by
  apply Int32.toBitVec_inj.mp
  rw [Int32.toBitVec_or, nI_bv, nI_bv, nI_bv]
  apply BitVec.eq_of_getLsbD_eq
  intro i hi
  simp [BitVec.getLsbD_ofNat, Nat.testBit_or, hi]
theorem nI_and (a b : Nat) : nI a &&& nI b = nI (a &&& b) := by
  apply Int32.toBitVec_inj.mp
  rw [Int32.toBitVec_and, nI_bv, nI_bv, nI_bv]
  apply BitVec.eq_of_getLsbD_eq
  intro i hi
  simp [BitVec.getLsbD_ofNat, Nat.testBit_and, hi]
/-- a set by its bits -/
theorem bs_of {n : Nat} {f : Nat → Bool} (h : ∀ i, n.testBit i = (decide (i < 10) && f i)) : nI n = bs f := by
  unfold bs
  congr 1
  apply Nat.eq_of_testBit_eq
  intro i
  rw [h i, bsn_bit]
theorem bs_or (f g : Nat → Bool) : bs f ||| bs g = bs (fun i => f i || g i) := by
  unfold bs
  rw [nI_or]
  apply bs_of
  intro i
  rw [Nat.testBit_or, bsn_bit, bsn_bit]
  cases decide (i < 10) <;> simp
theorem bs_and (f g : Nat → Bool) : bs f &&& bs g = bs (fun i => f i && g i) := by
  unfold bs
  rw [nI_and]
  apply bs_of
  intro i
  rw [Nat.testBit_and, bsn_bit, bsn_bit]
  cases decide (i < 10) <;> simp
theorem bs_andn (f g : Nat → Bool) : bs f &&& (bs g ^^^ (-1)) = bs (fun i => f i && !g i) := by
  have h0 := bs_of (n := bsn f 10 &&& (bsn g 10 ^^^ 1023)) (f := fun i => f i && !g i) (by
    intro i
    have h9 : (1023 : Nat).testBit i = decide (i < 10) := by
      have := Nat.testBit_two_pow_sub_one 10 i
      simpa using this
    rw [Nat.testBit_and, Nat.testBit_xor, bsn_bit, bsn_bit, h9]
    cases decide (i < 10) <;> cases f i <;> cases g i <;> rfl)
  rw [← h0]
  apply Int32.toBitVec_inj.mp
  unfold bs
  rw [Int32.toBitVec_and, Int32.toBitVec_xor, nI_bv, nI_bv, nI_bv]
  apply BitVec.eq_of_getLsbD_eq
  intro i hi
  have hm : (-1 : Int32).toBitVec = BitVec.allOnes 32 := by decide
  rw [hm]
  have h9 : (1023 : Nat).testBit i = decide (i < 10) := by
    have := Nat.testBit_two_pow_sub_one 10 i
    simpa using this
  simp only [BitVec.getLsbD_and, BitVec.getLsbD_xor, BitVec.getLsbD_ofNat, BitVec.getLsbD_allOnes, Nat.testBit_and, Nat.testBit_xor, bsn_bit, h9, hi]
  cases decide (i < 10) <;> cases f i <;> cases g i <;> rfl
theorem bs_0 : bs (fun _ => false) = 0 := by decide
theorem bs_zero {f : Nat → Bool} : bs f = 0 ↔ ∀ i, i < 10 → f i = false := by
  rw [← bs_0]
  exact ⟨fun h => bs_inj h, fun h => bs_cong h⟩
theorem sh_and {p : Nat} (hp : p < 32) : nI p &&& 31 = nI p := by
  have e0 : (31 : Int32) = nI 31 := rfl
  rw [e0, nI_and]
  congr 1
  have := Nat.and_two_pow_sub_one_eq_mod p 5
  have e1 : (2 ^ 5 - 1 : Nat) = 31 := rfl
  rw [e1] at this
  rw [this]
  omega
theorem sh_smod {p : Nat} (hp : p < 32) : ((nI p).toBitVec.smod 32).toNat = p := by
  have : ∀ p, p < 32 → ((nI p).toBitVec.smod 32).toNat = p := by decide +kernel
  exact this p hp
theorem bs_one {p : Nat} (hp : p < 10) : (1 : Int32) <<< (nI p &&& 31) = bs (fun i => decide (i = p)) := by
  have : ∀ p, p < 10 → (1 : Int32) <<< (nI p &&& 31) = bs (fun i => decide (i = p)) := by decide +kernel
  exact this p hp
theorem bs_shr (f : Nat → Bool) {p : Nat} (hp : p < 10) : (bs f >>> (nI p &&& 31)) &&& 1 = b2i (f p = true) := by
  rw [sh_and (by omega)]
  unfold bs
  rw [pk_shrN (by have := bsn_1024 f; omega) (nI p) p (sh_smod (by omega))]
  have e0 : (1 : Int32) = nI 1 := rfl
  rw [e0, nI_and]
  have e1 : bsn f 10 / 2 ^ p &&& 1 = if f p = true then 1 else 0 := by
    have h1 := bsn_bit f p 10
    rw [Nat.testBit_eq_decide_div_mod_eq] at h1
    rw [Nat.and_one_is_mod]
    have h2 : bsn f 10 / 2 ^ p % 2 = 0 ∨ bsn f 10 / 2 ^ p % 2 = 1 := by omega
    by_cases hf : f p = true
    · rw [if_pos hf]
      simp [hp, hf] at h1
      exact h1
    · rw [if_neg hf]
      simp [hf] at h1
      omega
  rw [e1]
  unfold b2i
  split <;> rfl
