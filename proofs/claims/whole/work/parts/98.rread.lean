/-! the reference's names -/
theorem v8_0 {t : Nat → Nat} {b L : Nat} (hL : L < 8) (hl : ∀ j, j < L → 97 ≤ t (b + j) ∧ t (b + j) ≤ 122) : v8 t b L = 2002873452 ↔ L = 4 ∧ t (b + 0) = 119 ∧ t (b + 1) = 97 ∧ t (b + 2) = 108 ∧ t (b + 3) = 108 := by
  rcases lt8 hL with rfl | rfl | rfl | rfl | rfl | rfl | rfl | rfl
  · have e : v8 t b 0 = 0 := rfl
    rw [e]
    omega
  · have h0 := hl 0 (by omega)
    have e : v8 t b 1 = 256 * (0) + t (b + 0) := rfl
    rw [e]
    omega
  · have h0 := hl 0 (by omega)
    have h1 := hl 1 (by omega)
    have e : v8 t b 2 = 256 * (256 * (0) + t (b + 0)) + t (b + 1) := rfl
    rw [e]
    omega
  · have h0 := hl 0 (by omega)
    have h1 := hl 1 (by omega)
    have h2 := hl 2 (by omega)
    have e : v8 t b 3 = 256 * (256 * (256 * (0) + t (b + 0)) + t (b + 1)) + t (b + 2) := rfl
    rw [e]
    omega
  · have h0 := hl 0 (by omega)
    have h1 := hl 1 (by omega)
    have h2 := hl 2 (by omega)
    have h3 := hl 3 (by omega)
    have e : v8 t b 4 = 256 * (256 * (256 * (256 * (0) + t (b + 0)) + t (b + 1)) + t (b + 2)) + t (b + 3) := rfl
    rw [e]
    constructor
    · intro q
      refine ⟨rfl, ?_, ?_, ?_, ?_⟩ <;> omega
    · rintro ⟨-, q0, q1, q2, q3⟩
      omega
  · have h0 := hl 0 (by omega)
    have h1 := hl 1 (by omega)
    have h2 := hl 2 (by omega)
    have h3 := hl 3 (by omega)
    have h4 := hl 4 (by omega)
    have e : v8 t b 5 = 256 * (256 * (256 * (256 * (256 * (0) + t (b + 0)) + t (b + 1)) + t (b + 2)) + t (b + 3)) + t (b + 4) := rfl
    rw [e]
    omega
  · have h0 := hl 0 (by omega)
    have h1 := hl 1 (by omega)
    have h2 := hl 2 (by omega)
    have h3 := hl 3 (by omega)
    have h4 := hl 4 (by omega)
    have h5 := hl 5 (by omega)
    have e : v8 t b 6 = 256 * (256 * (256 * (256 * (256 * (256 * (0) + t (b + 0)) + t (b + 1)) + t (b + 2)) + t (b + 3)) + t (b + 4)) + t (b + 5) := rfl
    rw [e]
    omega
  · have h0 := hl 0 (by omega)
    have h1 := hl 1 (by omega)
    have h2 := hl 2 (by omega)
    have h3 := hl 3 (by omega)
    have h4 := hl 4 (by omega)
    have h5 := hl 5 (by omega)
    have h6 := hl 6 (by omega)
    have e : v8 t b 7 = 256 * (256 * (256 * (256 * (256 * (256 * (256 * (0) + t (b + 0)) + t (b + 1)) + t (b + 2)) + t (b + 3)) + t (b + 4)) + t (b + 5)) + t (b + 6) := rfl
    rw [e]
    omega
theorem v8_1 {t : Nat → Nat} {b L : Nat} (hL : L < 8) (hl : ∀ j, j < L → 97 ≤ t (b + j) ∧ t (b + j) ≤ 122) : v8 t b L = 482671093106 ↔ L = 5 ∧ t (b + 0) = 112 ∧ t (b + 1) = 97 ∧ t (b + 2) = 112 ∧ t (b + 3) = 101 ∧ t (b + 4) = 114 := by
  rcases lt8 hL with rfl | rfl | rfl | rfl | rfl | rfl | rfl | rfl
  · have e : v8 t b 0 = 0 := rfl
    rw [e]
    omega
  · have h0 := hl 0 (by omega)
    have e : v8 t b 1 = 256 * (0) + t (b + 0) := rfl
    rw [e]
    omega
  · have h0 := hl 0 (by omega)
    have h1 := hl 1 (by omega)
    have e : v8 t b 2 = 256 * (256 * (0) + t (b + 0)) + t (b + 1) := rfl
    rw [e]
    omega
  · have h0 := hl 0 (by omega)
    have h1 := hl 1 (by omega)
    have h2 := hl 2 (by omega)
    have e : v8 t b 3 = 256 * (256 * (256 * (0) + t (b + 0)) + t (b + 1)) + t (b + 2) := rfl
    rw [e]
    omega
  · have h0 := hl 0 (by omega)
    have h1 := hl 1 (by omega)
    have h2 := hl 2 (by omega)
    have h3 := hl 3 (by omega)
    have e : v8 t b 4 = 256 * (256 * (256 * (256 * (0) + t (b + 0)) + t (b + 1)) + t (b + 2)) + t (b + 3) := rfl
    rw [e]
    omega
  · have h0 := hl 0 (by omega)
    have h1 := hl 1 (by omega)
    have h2 := hl 2 (by omega)
    have h3 := hl 3 (by omega)
    have h4 := hl 4 (by omega)
    have e : v8 t b 5 = 256 * (256 * (256 * (256 * (256 * (0) + t (b + 0)) + t (b + 1)) + t (b + 2)) + t (b + 3)) + t (b + 4) := rfl
    rw [e]
    constructor
    · intro q
      refine ⟨rfl, ?_, ?_, ?_, ?_, ?_⟩ <;> omega
    · rintro ⟨-, q0, q1, q2, q3, q4⟩
      omega
  · have h0 := hl 0 (by omega)
    have h1 := hl 1 (by omega)
    have h2 := hl 2 (by omega)
    have h3 := hl 3 (by omega)
    have h4 := hl 4 (by omega)
    have h5 := hl 5 (by omega)
    have e : v8 t b 6 = 256 * (256 * (256 * (256 * (256 * (256 * (0) + t (b + 0)) + t (b + 1)) + t (b + 2)) + t (b + 3)) + t (b + 4)) + t (b + 5) := rfl
    rw [e]
    omega
  · have h0 := hl 0 (by omega)
    have h1 := hl 1 (by omega)
    have h2 := hl 2 (by omega)
    have h3 := hl 3 (by omega)
    have h4 := hl 4 (by omega)
    have h5 := hl 5 (by omega)
    have h6 := hl 6 (by omega)
    have e : v8 t b 7 = 256 * (256 * (256 * (256 * (256 * (256 * (256 * (0) + t (b + 0)) + t (b + 1)) + t (b + 2)) + t (b + 3)) + t (b + 4)) + t (b + 5)) + t (b + 6) := rfl
    rw [e]
    omega
theorem v8_2 {t : Nat → Nat} {b L : Nat} (hL : L < 8) (hl : ∀ j, j < L → 97 ≤ t (b + j) ∧ t (b + j) ≤ 122) : v8 t b L = 127978992397940 ↔ L = 6 ∧ t (b + 0) = 116 ∧ t (b + 1) = 101 ∧ t (b + 2) = 110 ∧ t (b + 3) = 97 ∧ t (b + 4) = 110 ∧ t (b + 5) = 116 := by
  rcases lt8 hL with rfl | rfl | rfl | rfl | rfl | rfl | rfl | rfl
  · have e : v8 t b 0 = 0 := rfl
    rw [e]
    omega
  · have h0 := hl 0 (by omega)
    have e : v8 t b 1 = 256 * (0) + t (b + 0) := rfl
    rw [e]
    omega
  · have h0 := hl 0 (by omega)
    have h1 := hl 1 (by omega)
    have e : v8 t b 2 = 256 * (256 * (0) + t (b + 0)) + t (b + 1) := rfl
    rw [e]
    omega
  · have h0 := hl 0 (by omega)
    have h1 := hl 1 (by omega)
    have h2 := hl 2 (by omega)
    have e : v8 t b 3 = 256 * (256 * (256 * (0) + t (b + 0)) + t (b + 1)) + t (b + 2) := rfl
    rw [e]
    omega
  · have h0 := hl 0 (by omega)
    have h1 := hl 1 (by omega)
    have h2 := hl 2 (by omega)
    have h3 := hl 3 (by omega)
    have e : v8 t b 4 = 256 * (256 * (256 * (256 * (0) + t (b + 0)) + t (b + 1)) + t (b + 2)) + t (b + 3) := rfl
    rw [e]
    omega
  · have h0 := hl 0 (by omega)
    have h1 := hl 1 (by omega)
    have h2 := hl 2 (by omega)
    have h3 := hl 3 (by omega)
    have h4 := hl 4 (by omega)
    have e : v8 t b 5 = 256 * (256 * (256 * (256 * (256 * (0) + t (b + 0)) + t (b + 1)) + t (b + 2)) + t (b + 3)) + t (b + 4) := rfl
    rw [e]
    omega
  · have h0 := hl 0 (by omega)
    have h1 := hl 1 (by omega)
    have h2 := hl 2 (by omega)
    have h3 := hl 3 (by omega)
    have h4 := hl 4 (by omega)
    have h5 := hl 5 (by omega)
    have e : v8 t b 6 = 256 * (256 * (256 * (256 * (256 * (256 * (0) + t (b + 0)) + t (b + 1)) + t (b + 2)) + t (b + 3)) + t (b + 4)) + t (b + 5) := rfl
    rw [e]
    constructor
    · intro q
      refine ⟨rfl, ?_, ?_, ?_, ?_, ?_, ?_⟩ <;> omega
    · rintro ⟨-, q0, q1, q2, q3, q4, q5⟩
      omega
  · have h0 := hl 0 (by omega)
    have h1 := hl 1 (by omega)
    have h2 := hl 2 (by omega)
    have h3 := hl 3 (by omega)
    have h4 := hl 4 (by omega)
    have h5 := hl 5 (by omega)
    have h6 := hl 6 (by omega)
    have e : v8 t b 7 = 256 * (256 * (256 * (256 * (256 * (256 * (256 * (0) + t (b + 0)) + t (b + 1)) + t (b + 2)) + t (b + 3)) + t (b + 4)) + t (b + 5)) + t (b + 6) := rfl
    rw [e]
    omega
theorem v8_3 {t : Nat → Nat} {b L : Nat} (hL : L < 8) (hl : ∀ j, j < L → 97 ≤ t (b + j) ∧ t (b + j) ≤ 122) : v8 t b L = 482854660462 ↔ L = 5 ∧ t (b + 0) = 112 ∧ t (b + 1) = 108 ∧ t (b + 2) = 97 ∧ t (b + 3) = 105 ∧ t (b + 4) = 110 := by
  rcases lt8 hL with rfl | rfl | rfl | rfl | rfl | rfl | rfl | rfl
  · have e : v8 t b 0 = 0 := rfl
    rw [e]
    omega
  · have h0 := hl 0 (by omega)
    have e : v8 t b 1 = 256 * (0) + t (b + 0) := rfl
    rw [e]
    omega
  · have h0 := hl 0 (by omega)
    have h1 := hl 1 (by omega)
    have e : v8 t b 2 = 256 * (256 * (0) + t (b + 0)) + t (b + 1) := rfl
    rw [e]
    omega
  · have h0 := hl 0 (by omega)
    have h1 := hl 1 (by omega)
    have h2 := hl 2 (by omega)
    have e : v8 t b 3 = 256 * (256 * (256 * (0) + t (b + 0)) + t (b + 1)) + t (b + 2) := rfl
    rw [e]
    omega
  · have h0 := hl 0 (by omega)
    have h1 := hl 1 (by omega)
    have h2 := hl 2 (by omega)
    have h3 := hl 3 (by omega)
    have e : v8 t b 4 = 256 * (256 * (256 * (256 * (0) + t (b + 0)) + t (b + 1)) + t (b + 2)) + t (b + 3) := rfl
    rw [e]
    omega
  · have h0 := hl 0 (by omega)
    have h1 := hl 1 (by omega)
    have h2 := hl 2 (by omega)
    have h3 := hl 3 (by omega)
    have h4 := hl 4 (by omega)
    have e : v8 t b 5 = 256 * (256 * (256 * (256 * (256 * (0) + t (b + 0)) + t (b + 1)) + t (b + 2)) + t (b + 3)) + t (b + 4) := rfl
    rw [e]
    constructor
    · intro q
      refine ⟨rfl, ?_, ?_, ?_, ?_, ?_⟩ <;> omega
    · rintro ⟨-, q0, q1, q2, q3, q4⟩
      omega
  · have h0 := hl 0 (by omega)
    have h1 := hl 1 (by omega)
    have h2 := hl 2 (by omega)
    have h3 := hl 3 (by omega)
    have h4 := hl 4 (by omega)
    have h5 := hl 5 (by omega)
    have e : v8 t b 6 = 256 * (256 * (256 * (256 * (256 * (256 * (0) + t (b + 0)) + t (b + 1)) + t (b + 2)) + t (b + 3)) + t (b + 4)) + t (b + 5) := rfl
    rw [e]
    omega
  · have h0 := hl 0 (by omega)
    have h1 := hl 1 (by omega)
    have h2 := hl 2 (by omega)
    have h3 := hl 3 (by omega)
    have h4 := hl 4 (by omega)
    have h5 := hl 5 (by omega)
    have h6 := hl 6 (by omega)
    have e : v8 t b 7 = 256 * (256 * (256 * (256 * (256 * (256 * (256 * (0) + t (b + 0)) + t (b + 1)) + t (b + 2)) + t (b + 3)) + t (b + 4)) + t (b + 5)) + t (b + 6) := rfl
    rw [e]
    omega
theorem v8_4 {t : Nat → Nat} {b L : Nat} (hL : L < 8) (hl : ∀ j, j < L → 97 ≤ t (b + j) ∧ t (b + j) ≤ 122) : v8 t b L = 495873781104 ↔ L = 5 ∧ t (b + 0) = 115 ∧ t (b + 1) = 116 ∧ t (b + 2) = 97 ∧ t (b + 3) = 109 ∧ t (b + 4) = 112 := by
  rcases lt8 hL with rfl | rfl | rfl | rfl | rfl | rfl | rfl | rfl
  · have e : v8 t b 0 = 0 := rfl
    rw [e]
    omega
  · have h0 := hl 0 (by omega)
    have e : v8 t b 1 = 256 * (0) + t (b + 0) := rfl
    rw [e]
    omega
  · have h0 := hl 0 (by omega)
    have h1 := hl 1 (by omega)
    have e : v8 t b 2 = 256 * (256 * (0) + t (b + 0)) + t (b + 1) := rfl
    rw [e]
    omega
  · have h0 := hl 0 (by omega)
    have h1 := hl 1 (by omega)
    have h2 := hl 2 (by omega)
    have e : v8 t b 3 = 256 * (256 * (256 * (0) + t (b + 0)) + t (b + 1)) + t (b + 2) := rfl
    rw [e]
    omega
  · have h0 := hl 0 (by omega)
    have h1 := hl 1 (by omega)
    have h2 := hl 2 (by omega)
    have h3 := hl 3 (by omega)
    have e : v8 t b 4 = 256 * (256 * (256 * (256 * (0) + t (b + 0)) + t (b + 1)) + t (b + 2)) + t (b + 3) := rfl
    rw [e]
    omega
  · have h0 := hl 0 (by omega)
    have h1 := hl 1 (by omega)
    have h2 := hl 2 (by omega)
    have h3 := hl 3 (by omega)
    have h4 := hl 4 (by omega)
    have e : v8 t b 5 = 256 * (256 * (256 * (256 * (256 * (0) + t (b + 0)) + t (b + 1)) + t (b + 2)) + t (b + 3)) + t (b + 4) := rfl
    rw [e]
    constructor
    · intro q
      refine ⟨rfl, ?_, ?_, ?_, ?_, ?_⟩ <;> omega
    · rintro ⟨-, q0, q1, q2, q3, q4⟩
      omega
  · have h0 := hl 0 (by omega)
    have h1 := hl 1 (by omega)
    have h2 := hl 2 (by omega)
    have h3 := hl 3 (by omega)
    have h4 := hl 4 (by omega)
    have h5 := hl 5 (by omega)
    have e : v8 t b 6 = 256 * (256 * (256 * (256 * (256 * (256 * (0) + t (b + 0)) + t (b + 1)) + t (b + 2)) + t (b + 3)) + t (b + 4)) + t (b + 5) := rfl
    rw [e]
    omega
  · have h0 := hl 0 (by omega)
    have h1 := hl 1 (by omega)
    have h2 := hl 2 (by omega)
    have h3 := hl 3 (by omega)
    have h4 := hl 4 (by omega)
    have h5 := hl 5 (by omega)
    have h6 := hl 6 (by omega)
    have e : v8 t b 7 = 256 * (256 * (256 * (256 * (256 * (256 * (256 * (0) + t (b + 0)) + t (b + 1)) + t (b + 2)) + t (b + 3)) + t (b + 4)) + t (b + 5)) + t (b + 6) := rfl
    rw [e]
    omega
theorem v8_5 {t : Nat → Nat} {b L : Nat} (hL : L < 8) (hl : ∀ j, j < L → 97 ≤ t (b + j) ∧ t (b + j) ≤ 122) : v8 t b L = 1852143475 ↔ L = 4 ∧ t (b + 0) = 110 ∧ t (b + 1) = 101 ∧ t (b + 2) = 119 ∧ t (b + 3) = 115 := by
  rcases lt8 hL with rfl | rfl | rfl | rfl | rfl | rfl | rfl | rfl
  · have e : v8 t b 0 = 0 := rfl
    rw [e]
    omega
  · have h0 := hl 0 (by omega)
    have e : v8 t b 1 = 256 * (0) + t (b + 0) := rfl
    rw [e]
    omega
  · have h0 := hl 0 (by omega)
    have h1 := hl 1 (by omega)
    have e : v8 t b 2 = 256 * (256 * (0) + t (b + 0)) + t (b + 1) := rfl
    rw [e]
    omega
  · have h0 := hl 0 (by omega)
    have h1 := hl 1 (by omega)
    have h2 := hl 2 (by omega)
    have e : v8 t b 3 = 256 * (256 * (256 * (0) + t (b + 0)) + t (b + 1)) + t (b + 2) := rfl
    rw [e]
    omega
  · have h0 := hl 0 (by omega)
    have h1 := hl 1 (by omega)
    have h2 := hl 2 (by omega)
    have h3 := hl 3 (by omega)
    have e : v8 t b 4 = 256 * (256 * (256 * (256 * (0) + t (b + 0)) + t (b + 1)) + t (b + 2)) + t (b + 3) := rfl
    rw [e]
    constructor
    · intro q
      refine ⟨rfl, ?_, ?_, ?_, ?_⟩ <;> omega
    · rintro ⟨-, q0, q1, q2, q3⟩
      omega
  · have h0 := hl 0 (by omega)
    have h1 := hl 1 (by omega)
    have h2 := hl 2 (by omega)
    have h3 := hl 3 (by omega)
    have h4 := hl 4 (by omega)
    have e : v8 t b 5 = 256 * (256 * (256 * (256 * (256 * (0) + t (b + 0)) + t (b + 1)) + t (b + 2)) + t (b + 3)) + t (b + 4) := rfl
    rw [e]
    omega
  · have h0 := hl 0 (by omega)
    have h1 := hl 1 (by omega)
    have h2 := hl 2 (by omega)
    have h3 := hl 3 (by omega)
    have h4 := hl 4 (by omega)
    have h5 := hl 5 (by omega)
    have e : v8 t b 6 = 256 * (256 * (256 * (256 * (256 * (256 * (0) + t (b + 0)) + t (b + 1)) + t (b + 2)) + t (b + 3)) + t (b + 4)) + t (b + 5) := rfl
    rw [e]
    omega
  · have h0 := hl 0 (by omega)
    have h1 := hl 1 (by omega)
    have h2 := hl 2 (by omega)
    have h3 := hl 3 (by omega)
    have h4 := hl 4 (by omega)
    have h5 := hl 5 (by omega)
    have h6 := hl 6 (by omega)
    have e : v8 t b 7 = 256 * (256 * (256 * (256 * (256 * (256 * (256 * (0) + t (b + 0)) + t (b + 1)) + t (b + 2)) + t (b + 3)) + t (b + 4)) + t (b + 5)) + t (b + 6) := rfl
    rw [e]
    omega
theorem v8_6 {t : Nat → Nat} {b L : Nat} (hL : L < 8) (hl : ∀ j, j < L → 97 ≤ t (b + j) ∧ t (b + j) ≤ 122) : v8 t b L = 1919251316 ↔ L = 4 ∧ t (b + 0) = 114 ∧ t (b + 1) = 101 ∧ t (b + 2) = 115 ∧ t (b + 3) = 116 := by
  rcases lt8 hL with rfl | rfl | rfl | rfl | rfl | rfl | rfl | rfl
  · have e : v8 t b 0 = 0 := rfl
    rw [e]
    omega
  · have h0 := hl 0 (by omega)
    have e : v8 t b 1 = 256 * (0) + t (b + 0) := rfl
    rw [e]
    omega
  · have h0 := hl 0 (by omega)
    have h1 := hl 1 (by omega)
    have e : v8 t b 2 = 256 * (256 * (0) + t (b + 0)) + t (b + 1) := rfl
    rw [e]
    omega
  · have h0 := hl 0 (by omega)
    have h1 := hl 1 (by omega)
    have h2 := hl 2 (by omega)
    have e : v8 t b 3 = 256 * (256 * (256 * (0) + t (b + 0)) + t (b + 1)) + t (b + 2) := rfl
    rw [e]
    omega
  · have h0 := hl 0 (by omega)
    have h1 := hl 1 (by omega)
    have h2 := hl 2 (by omega)
    have h3 := hl 3 (by omega)
    have e : v8 t b 4 = 256 * (256 * (256 * (256 * (0) + t (b + 0)) + t (b + 1)) + t (b + 2)) + t (b + 3) := rfl
    rw [e]
    constructor
    · intro q
      refine ⟨rfl, ?_, ?_, ?_, ?_⟩ <;> omega
    · rintro ⟨-, q0, q1, q2, q3⟩
      omega
  · have h0 := hl 0 (by omega)
    have h1 := hl 1 (by omega)
    have h2 := hl 2 (by omega)
    have h3 := hl 3 (by omega)
    have h4 := hl 4 (by omega)
    have e : v8 t b 5 = 256 * (256 * (256 * (256 * (256 * (0) + t (b + 0)) + t (b + 1)) + t (b + 2)) + t (b + 3)) + t (b + 4) := rfl
    rw [e]
    omega
  · have h0 := hl 0 (by omega)
    have h1 := hl 1 (by omega)
    have h2 := hl 2 (by omega)
    have h3 := hl 3 (by omega)
    have h4 := hl 4 (by omega)
    have h5 := hl 5 (by omega)
    have e : v8 t b 6 = 256 * (256 * (256 * (256 * (256 * (256 * (0) + t (b + 0)) + t (b + 1)) + t (b + 2)) + t (b + 3)) + t (b + 4)) + t (b + 5) := rfl
    rw [e]
    omega
  · have h0 := hl 0 (by omega)
    have h1 := hl 1 (by omega)
    have h2 := hl 2 (by omega)
    have h3 := hl 3 (by omega)
    have h4 := hl 4 (by omega)
    have h5 := hl 5 (by omega)
    have h6 := hl 6 (by omega)
    have e : v8 t b 7 = 256 * (256 * (256 * (256 * (256 * (256 * (256 * (0) + t (b + 0)) + t (b + 1)) + t (b + 2)) + t (b + 3)) + t (b + 4)) + t (b + 5)) + t (b + 6) := rfl
    rw [e]
    omega
theorem v8_7 {t : Nat → Nat} {b L : Nat} (hL : L < 8) (hl : ∀ j, j < L → 97 ≤ t (b + j) ∧ t (b + j) ≤ 122) : v8 t b L = 482670636660 ↔ L = 5 ∧ t (b + 0) = 112 ∧ t (b + 1) = 97 ∧ t (b + 2) = 105 ∧ t (b + 3) = 110 ∧ t (b + 4) = 116 := by
  rcases lt8 hL with rfl | rfl | rfl | rfl | rfl | rfl | rfl | rfl
  · have e : v8 t b 0 = 0 := rfl
    rw [e]
    omega
  · have h0 := hl 0 (by omega)
    have e : v8 t b 1 = 256 * (0) + t (b + 0) := rfl
    rw [e]
    omega
  · have h0 := hl 0 (by omega)
    have h1 := hl 1 (by omega)
    have e : v8 t b 2 = 256 * (256 * (0) + t (b + 0)) + t (b + 1) := rfl
    rw [e]
    omega
  · have h0 := hl 0 (by omega)
    have h1 := hl 1 (by omega)
    have h2 := hl 2 (by omega)
    have e : v8 t b 3 = 256 * (256 * (256 * (0) + t (b + 0)) + t (b + 1)) + t (b + 2) := rfl
    rw [e]
    omega
  · have h0 := hl 0 (by omega)
    have h1 := hl 1 (by omega)
    have h2 := hl 2 (by omega)
    have h3 := hl 3 (by omega)
    have e : v8 t b 4 = 256 * (256 * (256 * (256 * (0) + t (b + 0)) + t (b + 1)) + t (b + 2)) + t (b + 3) := rfl
    rw [e]
    omega
  · have h0 := hl 0 (by omega)
    have h1 := hl 1 (by omega)
    have h2 := hl 2 (by omega)
    have h3 := hl 3 (by omega)
    have h4 := hl 4 (by omega)
    have e : v8 t b 5 = 256 * (256 * (256 * (256 * (256 * (0) + t (b + 0)) + t (b + 1)) + t (b + 2)) + t (b + 3)) + t (b + 4) := rfl
    rw [e]
    constructor
    · intro q
      refine ⟨rfl, ?_, ?_, ?_, ?_, ?_⟩ <;> omega
    · rintro ⟨-, q0, q1, q2, q3, q4⟩
      omega
  · have h0 := hl 0 (by omega)
    have h1 := hl 1 (by omega)
    have h2 := hl 2 (by omega)
    have h3 := hl 3 (by omega)
    have h4 := hl 4 (by omega)
    have h5 := hl 5 (by omega)
    have e : v8 t b 6 = 256 * (256 * (256 * (256 * (256 * (256 * (0) + t (b + 0)) + t (b + 1)) + t (b + 2)) + t (b + 3)) + t (b + 4)) + t (b + 5) := rfl
    rw [e]
    omega
  · have h0 := hl 0 (by omega)
    have h1 := hl 1 (by omega)
    have h2 := hl 2 (by omega)
    have h3 := hl 3 (by omega)
    have h4 := hl 4 (by omega)
    have h5 := hl 5 (by omega)
    have h6 := hl 6 (by omega)
    have e : v8 t b 7 = 256 * (256 * (256 * (256 * (256 * (256 * (256 * (0) + t (b + 0)) + t (b + 1)) + t (b + 2)) + t (b + 3)) + t (b + 4)) + t (b + 5)) + t (b + 6) := rfl
    rw [e]
    omega
theorem nm_0 {n : Nat} {t : Nat → Nat} {S : PS} (hS : WS n t S) : nmV t S = 2002873452 ↔ nmD t S 0 = true := by
  constructor
  · intro q
    unfold nmV at q
    by_cases cc : ss S = 1 ∧ se S - sb S < 8
    · rw [if_pos cc] at q
      have hl : ∀ j, j < se S - sb S → 97 ≤ t (sb S + j) ∧ t (sb S + j) ≤ 122 := fun j hj => of_decide_eq_true (hS.1.2.2.2.2.2.1 cc.1 _ (by omega) (by omega))
      obtain ⟨ql, q0, q1, q2, q3⟩ := (v8_0 cc.2 hl).mp q
      have hx : exB (fun k => !decide (nI (t (sb S + k)) = (am_sb.getD 0 []).getD k 0)) (am_sl.getD 0 0) = false := by
        rw [← Bool.not_eq_true]
        intro z
        obtain ⟨k, hk, z⟩ := exB_iff.mp z
        have hk : k < 4 := hk
        have hkk : k = 0 ∨ k = 1 ∨ k = 2 ∨ k = 3 := by omega
        rcases hkk with rfl | rfl | rfl | rfl
        · rw [q0] at z
          exact absurd z (by decide)
        · rw [q1] at z
          exact absurd z (by decide)
        · rw [q2] at z
          exact absurd z (by decide)
        · rw [q3] at z
          exact absurd z (by decide)
      unfold nmD
      rw [decide_eq_true cc.1, decide_eq_true (show se S - sb S = am_sl.getD 0 0 from ql), hx]
      rfl
    · rw [if_neg cc] at q
      exact absurd q (by decide)
  · intro q
    unfold nmD at q
    rw [Bool.and_eq_true, Bool.and_eq_true] at q
    have c1 := of_decide_eq_true q.1
    have c2 : se S - sb S = 4 := of_decide_eq_true q.2.1
    have hl : ∀ j, j < se S - sb S → 97 ≤ t (sb S + j) ∧ t (sb S + j) ≤ 122 := fun j hj => of_decide_eq_true (hS.1.2.2.2.2.2.1 c1 _ (by omega) (by omega))
    have ce : ∀ k, k < 4 → nI (t (sb S + k)) = (am_sb.getD 0 []).getD k 0 := by
      intro k hk
      apply Classical.byContradiction
      intro z
      have hz : exB (fun k => !decide (nI (t (sb S + k)) = (am_sb.getD 0 []).getD k 0)) (am_sl.getD 0 0) = true := exB_iff.mpr ⟨k, hk, by rw [decide_eq_false z]; rfl⟩
      rw [hz] at q
      exact absurd q.2.2 (by decide)
    unfold nmV
    rw [if_pos ⟨c1, by omega⟩]
    refine (v8_0 (by omega) hl).mpr ⟨c2, ?_, ?_, ?_, ?_⟩
    · exact (nI_eq (b := 119) (by have := hl 0 (by omega); omega) (by omega)).mp (ce 0 (by omega))
    · exact (nI_eq (b := 97) (by have := hl 1 (by omega); omega) (by omega)).mp (ce 1 (by omega))
    · exact (nI_eq (b := 108) (by have := hl 2 (by omega); omega) (by omega)).mp (ce 2 (by omega))
    · exact (nI_eq (b := 108) (by have := hl 3 (by omega); omega) (by omega)).mp (ce 3 (by omega))
theorem nm_1 {n : Nat} {t : Nat → Nat} {S : PS} (hS : WS n t S) : nmV t S = 482671093106 ↔ nmD t S 1 = true := by
  constructor
  · intro q
    unfold nmV at q
    by_cases cc : ss S = 1 ∧ se S - sb S < 8
    · rw [if_pos cc] at q
      have hl : ∀ j, j < se S - sb S → 97 ≤ t (sb S + j) ∧ t (sb S + j) ≤ 122 := fun j hj => of_decide_eq_true (hS.1.2.2.2.2.2.1 cc.1 _ (by omega) (by omega))
      obtain ⟨ql, q0, q1, q2, q3, q4⟩ := (v8_1 cc.2 hl).mp q
      have hx : exB (fun k => !decide (nI (t (sb S + k)) = (am_sb.getD 1 []).getD k 0)) (am_sl.getD 1 0) = false := by
        rw [← Bool.not_eq_true]
        intro z
        obtain ⟨k, hk, z⟩ := exB_iff.mp z
        have hk : k < 5 := hk
        have hkk : k = 0 ∨ k = 1 ∨ k = 2 ∨ k = 3 ∨ k = 4 := by omega
        rcases hkk with rfl | rfl | rfl | rfl | rfl
        · rw [q0] at z
          exact absurd z (by decide)
        · rw [q1] at z
          exact absurd z (by decide)
        · rw [q2] at z
          exact absurd z (by decide)
        · rw [q3] at z
          exact absurd z (by decide)
        · rw [q4] at z
          exact absurd z (by decide)
      unfold nmD
      rw [decide_eq_true cc.1, decide_eq_true (show se S - sb S = am_sl.getD 1 0 from ql), hx]
      rfl
    · rw [if_neg cc] at q
      exact absurd q (by decide)
  · intro q
    unfold nmD at q
    rw [Bool.and_eq_true, Bool.and_eq_true] at q
    have c1 := of_decide_eq_true q.1
    have c2 : se S - sb S = 5 := of_decide_eq_true q.2.1
    have hl : ∀ j, j < se S - sb S → 97 ≤ t (sb S + j) ∧ t (sb S + j) ≤ 122 := fun j hj => of_decide_eq_true (hS.1.2.2.2.2.2.1 c1 _ (by omega) (by omega))
    have ce : ∀ k, k < 5 → nI (t (sb S + k)) = (am_sb.getD 1 []).getD k 0 := by
      intro k hk
      apply Classical.byContradiction
      intro z
      have hz : exB (fun k => !decide (nI (t (sb S + k)) = (am_sb.getD 1 []).getD k 0)) (am_sl.getD 1 0) = true := exB_iff.mpr ⟨k, hk, by rw [decide_eq_false z]; rfl⟩
      rw [hz] at q
      exact absurd q.2.2 (by decide)
    unfold nmV
    rw [if_pos ⟨c1, by omega⟩]
    refine (v8_1 (by omega) hl).mpr ⟨c2, ?_, ?_, ?_, ?_, ?_⟩
    · exact (nI_eq (b := 112) (by have := hl 0 (by omega); omega) (by omega)).mp (ce 0 (by omega))
    · exact (nI_eq (b := 97) (by have := hl 1 (by omega); omega) (by omega)).mp (ce 1 (by omega))
    · exact (nI_eq (b := 112) (by have := hl 2 (by omega); omega) (by omega)).mp (ce 2 (by omega))
    · exact (nI_eq (b := 101) (by have := hl 3 (by omega); omega) (by omega)).mp (ce 3 (by omega))
    · exact (nI_eq (b := 114) (by have := hl 4 (by omega); omega) (by omega)).mp (ce 4 (by omega))
theorem nm_2 {n : Nat} {t : Nat → Nat} {S : PS} (hS : WS n t S) : nmV t S = 127978992397940 ↔ nmD t S 2 = true := by
  constructor
  · intro q
    unfold nmV at q
    by_cases cc : ss S = 1 ∧ se S - sb S < 8
    · rw [if_pos cc] at q
      have hl : ∀ j, j < se S - sb S → 97 ≤ t (sb S + j) ∧ t (sb S + j) ≤ 122 := fun j hj => of_decide_eq_true (hS.1.2.2.2.2.2.1 cc.1 _ (by omega) (by omega))
      obtain ⟨ql, q0, q1, q2, q3, q4, q5⟩ := (v8_2 cc.2 hl).mp q
      have hx : exB (fun k => !decide (nI (t (sb S + k)) = (am_sb.getD 2 []).getD k 0)) (am_sl.getD 2 0) = false := by
        rw [← Bool.not_eq_true]
        intro z
        obtain ⟨k, hk, z⟩ := exB_iff.mp z
        have hk : k < 6 := hk
        have hkk : k = 0 ∨ k = 1 ∨ k = 2 ∨ k = 3 ∨ k = 4 ∨ k = 5 := by omega
        rcases hkk with rfl | rfl | rfl | rfl | rfl | rfl
        · rw [q0] at z
          exact absurd z (by decide)
        · rw [q1] at z
          exact absurd z (by decide)
        · rw [q2] at z
          exact absurd z (by decide)
        · rw [q3] at z
          exact absurd z (by decide)
        · rw [q4] at z
          exact absurd z (by decide)
        · rw [q5] at z
          exact absurd z (by decide)
      unfold nmD
      rw [decide_eq_true cc.1, decide_eq_true (show se S - sb S = am_sl.getD 2 0 from ql), hx]
      rfl
    · rw [if_neg cc] at q
      exact absurd q (by decide)
  · intro q
    unfold nmD at q
    rw [Bool.and_eq_true, Bool.and_eq_true] at q
    have c1 := of_decide_eq_true q.1
    have c2 : se S - sb S = 6 := of_decide_eq_true q.2.1
    have hl : ∀ j, j < se S - sb S → 97 ≤ t (sb S + j) ∧ t (sb S + j) ≤ 122 := fun j hj => of_decide_eq_true (hS.1.2.2.2.2.2.1 c1 _ (by omega) (by omega))
    have ce : ∀ k, k < 6 → nI (t (sb S + k)) = (am_sb.getD 2 []).getD k 0 := by
      intro k hk
      apply Classical.byContradiction
      intro z
      have hz : exB (fun k => !decide (nI (t (sb S + k)) = (am_sb.getD 2 []).getD k 0)) (am_sl.getD 2 0) = true := exB_iff.mpr ⟨k, hk, by rw [decide_eq_false z]; rfl⟩
      rw [hz] at q
      exact absurd q.2.2 (by decide)
    unfold nmV
    rw [if_pos ⟨c1, by omega⟩]
    refine (v8_2 (by omega) hl).mpr ⟨c2, ?_, ?_, ?_, ?_, ?_, ?_⟩
    · exact (nI_eq (b := 116) (by have := hl 0 (by omega); omega) (by omega)).mp (ce 0 (by omega))
    · exact (nI_eq (b := 101) (by have := hl 1 (by omega); omega) (by omega)).mp (ce 1 (by omega))
    · exact (nI_eq (b := 110) (by have := hl 2 (by omega); omega) (by omega)).mp (ce 2 (by omega))
    · exact (nI_eq (b := 97) (by have := hl 3 (by omega); omega) (by omega)).mp (ce 3 (by omega))
    · exact (nI_eq (b := 110) (by have := hl 4 (by omega); omega) (by omega)).mp (ce 4 (by omega))
    · exact (nI_eq (b := 116) (by have := hl 5 (by omega); omega) (by omega)).mp (ce 5 (by omega))
theorem nm_3 {n : Nat} {t : Nat → Nat} {S : PS} (hS : WS n t S) : nmV t S = 482854660462 ↔ nmD t S 3 = true := by
  constructor
  · intro q
    unfold nmV at q
    by_cases cc : ss S = 1 ∧ se S - sb S < 8
    · rw [if_pos cc] at q
      have hl : ∀ j, j < se S - sb S → 97 ≤ t (sb S + j) ∧ t (sb S + j) ≤ 122 := fun j hj => of_decide_eq_true (hS.1.2.2.2.2.2.1 cc.1 _ (by omega) (by omega))
      obtain ⟨ql, q0, q1, q2, q3, q4⟩ := (v8_3 cc.2 hl).mp q
      have hx : exB (fun k => !decide (nI (t (sb S + k)) = (am_sb.getD 3 []).getD k 0)) (am_sl.getD 3 0) = false := by
        rw [← Bool.not_eq_true]
        intro z
        obtain ⟨k, hk, z⟩ := exB_iff.mp z
        have hk : k < 5 := hk
        have hkk : k = 0 ∨ k = 1 ∨ k = 2 ∨ k = 3 ∨ k = 4 := by omega
        rcases hkk with rfl | rfl | rfl | rfl | rfl
        · rw [q0] at z
          exact absurd z (by decide)
        · rw [q1] at z
          exact absurd z (by decide)
        · rw [q2] at z
          exact absurd z (by decide)
        · rw [q3] at z
          exact absurd z (by decide)
        · rw [q4] at z
          exact absurd z (by decide)
      unfold nmD
      rw [decide_eq_true cc.1, decide_eq_true (show se S - sb S = am_sl.getD 3 0 from ql), hx]
      rfl
    · rw [if_neg cc] at q
      exact absurd q (by decide)
  · intro q
    unfold nmD at q
    rw [Bool.and_eq_true, Bool.and_eq_true] at q
    have c1 := of_decide_eq_true q.1
    have c2 : se S - sb S = 5 := of_decide_eq_true q.2.1
    have hl : ∀ j, j < se S - sb S → 97 ≤ t (sb S + j) ∧ t (sb S + j) ≤ 122 := fun j hj => of_decide_eq_true (hS.1.2.2.2.2.2.1 c1 _ (by omega) (by omega))
    have ce : ∀ k, k < 5 → nI (t (sb S + k)) = (am_sb.getD 3 []).getD k 0 := by
      intro k hk
      apply Classical.byContradiction
      intro z
      have hz : exB (fun k => !decide (nI (t (sb S + k)) = (am_sb.getD 3 []).getD k 0)) (am_sl.getD 3 0) = true := exB_iff.mpr ⟨k, hk, by rw [decide_eq_false z]; rfl⟩
      rw [hz] at q
      exact absurd q.2.2 (by decide)
    unfold nmV
    rw [if_pos ⟨c1, by omega⟩]
    refine (v8_3 (by omega) hl).mpr ⟨c2, ?_, ?_, ?_, ?_, ?_⟩
    · exact (nI_eq (b := 112) (by have := hl 0 (by omega); omega) (by omega)).mp (ce 0 (by omega))
    · exact (nI_eq (b := 108) (by have := hl 1 (by omega); omega) (by omega)).mp (ce 1 (by omega))
    · exact (nI_eq (b := 97) (by have := hl 2 (by omega); omega) (by omega)).mp (ce 2 (by omega))
    · exact (nI_eq (b := 105) (by have := hl 3 (by omega); omega) (by omega)).mp (ce 3 (by omega))
    · exact (nI_eq (b := 110) (by have := hl 4 (by omega); omega) (by omega)).mp (ce 4 (by omega))
theorem nm_4 {n : Nat} {t : Nat → Nat} {S : PS} (hS : WS n t S) : nmV t S = 495873781104 ↔ nmD t S 4 = true := by
  constructor
  · intro q
    unfold nmV at q
    by_cases cc : ss S = 1 ∧ se S - sb S < 8
    · rw [if_pos cc] at q
      have hl : ∀ j, j < se S - sb S → 97 ≤ t (sb S + j) ∧ t (sb S + j) ≤ 122 := fun j hj => of_decide_eq_true (hS.1.2.2.2.2.2.1 cc.1 _ (by omega) (by omega))
      obtain ⟨ql, q0, q1, q2, q3, q4⟩ := (v8_4 cc.2 hl).mp q
      have hx : exB (fun k => !decide (nI (t (sb S + k)) = (am_sb.getD 4 []).getD k 0)) (am_sl.getD 4 0) = false := by
        rw [← Bool.not_eq_true]
        intro z
        obtain ⟨k, hk, z⟩ := exB_iff.mp z
        have hk : k < 5 := hk
        have hkk : k = 0 ∨ k = 1 ∨ k = 2 ∨ k = 3 ∨ k = 4 := by omega
        rcases hkk with rfl | rfl | rfl | rfl | rfl
        · rw [q0] at z
          exact absurd z (by decide)
        · rw [q1] at z
          exact absurd z (by decide)
        · rw [q2] at z
          exact absurd z (by decide)
        · rw [q3] at z
          exact absurd z (by decide)
        · rw [q4] at z
          exact absurd z (by decide)
      unfold nmD
      rw [decide_eq_true cc.1, decide_eq_true (show se S - sb S = am_sl.getD 4 0 from ql), hx]
      rfl
    · rw [if_neg cc] at q
      exact absurd q (by decide)
  · intro q
    unfold nmD at q
    rw [Bool.and_eq_true, Bool.and_eq_true] at q
    have c1 := of_decide_eq_true q.1
    have c2 : se S - sb S = 5 := of_decide_eq_true q.2.1
    have hl : ∀ j, j < se S - sb S → 97 ≤ t (sb S + j) ∧ t (sb S + j) ≤ 122 := fun j hj => of_decide_eq_true (hS.1.2.2.2.2.2.1 c1 _ (by omega) (by omega))
    have ce : ∀ k, k < 5 → nI (t (sb S + k)) = (am_sb.getD 4 []).getD k 0 := by
      intro k hk
      apply Classical.byContradiction
      intro z
      have hz : exB (fun k => !decide (nI (t (sb S + k)) = (am_sb.getD 4 []).getD k 0)) (am_sl.getD 4 0) = true := exB_iff.mpr ⟨k, hk, by rw [decide_eq_false z]; rfl⟩
      rw [hz] at q
      exact absurd q.2.2 (by decide)
    unfold nmV
    rw [if_pos ⟨c1, by omega⟩]
    refine (v8_4 (by omega) hl).mpr ⟨c2, ?_, ?_, ?_, ?_, ?_⟩
    · exact (nI_eq (b := 115) (by have := hl 0 (by omega); omega) (by omega)).mp (ce 0 (by omega))
    · exact (nI_eq (b := 116) (by have := hl 1 (by omega); omega) (by omega)).mp (ce 1 (by omega))
    · exact (nI_eq (b := 97) (by have := hl 2 (by omega); omega) (by omega)).mp (ce 2 (by omega))
    · exact (nI_eq (b := 109) (by have := hl 3 (by omega); omega) (by omega)).mp (ce 3 (by omega))
    · exact (nI_eq (b := 112) (by have := hl 4 (by omega); omega) (by omega)).mp (ce 4 (by omega))
theorem nm_5 {n : Nat} {t : Nat → Nat} {S : PS} (hS : WS n t S) : nmV t S = 1852143475 ↔ nmD t S 5 = true := by
  constructor
  · intro q
    unfold nmV at q
    by_cases cc : ss S = 1 ∧ se S - sb S < 8
    · rw [if_pos cc] at q
      have hl : ∀ j, j < se S - sb S → 97 ≤ t (sb S + j) ∧ t (sb S + j) ≤ 122 := fun j hj => of_decide_eq_true (hS.1.2.2.2.2.2.1 cc.1 _ (by omega) (by omega))
      obtain ⟨ql, q0, q1, q2, q3⟩ := (v8_5 cc.2 hl).mp q
      have hx : exB (fun k => !decide (nI (t (sb S + k)) = (am_sb.getD 5 []).getD k 0)) (am_sl.getD 5 0) = false := by
        rw [← Bool.not_eq_true]
        intro z
        obtain ⟨k, hk, z⟩ := exB_iff.mp z
        have hk : k < 4 := hk
        have hkk : k = 0 ∨ k = 1 ∨ k = 2 ∨ k = 3 := by omega
        rcases hkk with rfl | rfl | rfl | rfl
        · rw [q0] at z
          exact absurd z (by decide)
        · rw [q1] at z
          exact absurd z (by decide)
        · rw [q2] at z
          exact absurd z (by decide)
        · rw [q3] at z
          exact absurd z (by decide)
      unfold nmD
      rw [decide_eq_true cc.1, decide_eq_true (show se S - sb S = am_sl.getD 5 0 from ql), hx]
      rfl
    · rw [if_neg cc] at q
      exact absurd q (by decide)
  · intro q
    unfold nmD at q
    rw [Bool.and_eq_true, Bool.and_eq_true] at q
    have c1 := of_decide_eq_true q.1
    have c2 : se S - sb S = 4 := of_decide_eq_true q.2.1
    have hl : ∀ j, j < se S - sb S → 97 ≤ t (sb S + j) ∧ t (sb S + j) ≤ 122 := fun j hj => of_decide_eq_true (hS.1.2.2.2.2.2.1 c1 _ (by omega) (by omega))
    have ce : ∀ k, k < 4 → nI (t (sb S + k)) = (am_sb.getD 5 []).getD k 0 := by
      intro k hk
      apply Classical.byContradiction
      intro z
      have hz : exB (fun k => !decide (nI (t (sb S + k)) = (am_sb.getD 5 []).getD k 0)) (am_sl.getD 5 0) = true := exB_iff.mpr ⟨k, hk, by rw [decide_eq_false z]; rfl⟩
      rw [hz] at q
      exact absurd q.2.2 (by decide)
    unfold nmV
    rw [if_pos ⟨c1, by omega⟩]
    refine (v8_5 (by omega) hl).mpr ⟨c2, ?_, ?_, ?_, ?_⟩
    · exact (nI_eq (b := 110) (by have := hl 0 (by omega); omega) (by omega)).mp (ce 0 (by omega))
    · exact (nI_eq (b := 101) (by have := hl 1 (by omega); omega) (by omega)).mp (ce 1 (by omega))
    · exact (nI_eq (b := 119) (by have := hl 2 (by omega); omega) (by omega)).mp (ce 2 (by omega))
    · exact (nI_eq (b := 115) (by have := hl 3 (by omega); omega) (by omega)).mp (ce 3 (by omega))
theorem nm_6 {n : Nat} {t : Nat → Nat} {S : PS} (hS : WS n t S) : nmV t S = 1919251316 ↔ nmD t S 6 = true := by
  constructor
  · intro q
    unfold nmV at q
    by_cases cc : ss S = 1 ∧ se S - sb S < 8
    · rw [if_pos cc] at q
      have hl : ∀ j, j < se S - sb S → 97 ≤ t (sb S + j) ∧ t (sb S + j) ≤ 122 := fun j hj => of_decide_eq_true (hS.1.2.2.2.2.2.1 cc.1 _ (by omega) (by omega))
      obtain ⟨ql, q0, q1, q2, q3⟩ := (v8_6 cc.2 hl).mp q
      have hx : exB (fun k => !decide (nI (t (sb S + k)) = (am_sb.getD 6 []).getD k 0)) (am_sl.getD 6 0) = false := by
        rw [← Bool.not_eq_true]
        intro z
        obtain ⟨k, hk, z⟩ := exB_iff.mp z
        have hk : k < 4 := hk
        have hkk : k = 0 ∨ k = 1 ∨ k = 2 ∨ k = 3 := by omega
        rcases hkk with rfl | rfl | rfl | rfl
        · rw [q0] at z
          exact absurd z (by decide)
        · rw [q1] at z
          exact absurd z (by decide)
        · rw [q2] at z
          exact absurd z (by decide)
        · rw [q3] at z
          exact absurd z (by decide)
      unfold nmD
      rw [decide_eq_true cc.1, decide_eq_true (show se S - sb S = am_sl.getD 6 0 from ql), hx]
      rfl
    · rw [if_neg cc] at q
      exact absurd q (by decide)
  · intro q
    unfold nmD at q
    rw [Bool.and_eq_true, Bool.and_eq_true] at q
    have c1 := of_decide_eq_true q.1
    have c2 : se S - sb S = 4 := of_decide_eq_true q.2.1
    have hl : ∀ j, j < se S - sb S → 97 ≤ t (sb S + j) ∧ t (sb S + j) ≤ 122 := fun j hj => of_decide_eq_true (hS.1.2.2.2.2.2.1 c1 _ (by omega) (by omega))
    have ce : ∀ k, k < 4 → nI (t (sb S + k)) = (am_sb.getD 6 []).getD k 0 := by
      intro k hk
      apply Classical.byContradiction
      intro z
      have hz : exB (fun k => !decide (nI (t (sb S + k)) = (am_sb.getD 6 []).getD k 0)) (am_sl.getD 6 0) = true := exB_iff.mpr ⟨k, hk, by rw [decide_eq_false z]; rfl⟩
      rw [hz] at q
      exact absurd q.2.2 (by decide)
    unfold nmV
    rw [if_pos ⟨c1, by omega⟩]
    refine (v8_6 (by omega) hl).mpr ⟨c2, ?_, ?_, ?_, ?_⟩
    · exact (nI_eq (b := 114) (by have := hl 0 (by omega); omega) (by omega)).mp (ce 0 (by omega))
    · exact (nI_eq (b := 101) (by have := hl 1 (by omega); omega) (by omega)).mp (ce 1 (by omega))
    · exact (nI_eq (b := 115) (by have := hl 2 (by omega); omega) (by omega)).mp (ce 2 (by omega))
    · exact (nI_eq (b := 116) (by have := hl 3 (by omega); omega) (by omega)).mp (ce 3 (by omega))
theorem nm_7 {n : Nat} {t : Nat → Nat} {S : PS} (hS : WS n t S) : nmV t S = 482670636660 ↔ nmD t S 7 = true := by
  constructor
  · intro q
    unfold nmV at q
    by_cases cc : ss S = 1 ∧ se S - sb S < 8
    · rw [if_pos cc] at q
      have hl : ∀ j, j < se S - sb S → 97 ≤ t (sb S + j) ∧ t (sb S + j) ≤ 122 := fun j hj => of_decide_eq_true (hS.1.2.2.2.2.2.1 cc.1 _ (by omega) (by omega))
      obtain ⟨ql, q0, q1, q2, q3, q4⟩ := (v8_7 cc.2 hl).mp q
      have hx : exB (fun k => !decide (nI (t (sb S + k)) = (am_sb.getD 7 []).getD k 0)) (am_sl.getD 7 0) = false := by
        rw [← Bool.not_eq_true]
        intro z
        obtain ⟨k, hk, z⟩ := exB_iff.mp z
        have hk : k < 5 := hk
        have hkk : k = 0 ∨ k = 1 ∨ k = 2 ∨ k = 3 ∨ k = 4 := by omega
        rcases hkk with rfl | rfl | rfl | rfl | rfl
        · rw [q0] at z
          exact absurd z (by decide)
        · rw [q1] at z
          exact absurd z (by decide)
        · rw [q2] at z
          exact absurd z (by decide)
        · rw [q3] at z
          exact absurd z (by decide)
        · rw [q4] at z
          exact absurd z (by decide)
      unfold nmD
      rw [decide_eq_true cc.1, decide_eq_true (show se S - sb S = am_sl.getD 7 0 from ql), hx]
      rfl
    · rw [if_neg cc] at q
      exact absurd q (by decide)
  · intro q
    unfold nmD at q
    rw [Bool.and_eq_true, Bool.and_eq_true] at q
    have c1 := of_decide_eq_true q.1
    have c2 : se S - sb S = 5 := of_decide_eq_true q.2.1
    have hl : ∀ j, j < se S - sb S → 97 ≤ t (sb S + j) ∧ t (sb S + j) ≤ 122 := fun j hj => of_decide_eq_true (hS.1.2.2.2.2.2.1 c1 _ (by omega) (by omega))
    have ce : ∀ k, k < 5 → nI (t (sb S + k)) = (am_sb.getD 7 []).getD k 0 := by
      intro k hk
      apply Classical.byContradiction
      intro z
      have hz : exB (fun k => !decide (nI (t (sb S + k)) = (am_sb.getD 7 []).getD k 0)) (am_sl.getD 7 0) = true := exB_iff.mpr ⟨k, hk, by rw [decide_eq_false z]; rfl⟩
      rw [hz] at q
      exact absurd q.2.2 (by decide)
    unfold nmV
    rw [if_pos ⟨c1, by omega⟩]
    refine (v8_7 (by omega) hl).mpr ⟨c2, ?_, ?_, ?_, ?_, ?_⟩
    · exact (nI_eq (b := 112) (by have := hl 0 (by omega); omega) (by omega)).mp (ce 0 (by omega))
    · exact (nI_eq (b := 97) (by have := hl 1 (by omega); omega) (by omega)).mp (ce 1 (by omega))
    · exact (nI_eq (b := 105) (by have := hl 2 (by omega); omega) (by omega)).mp (ce 2 (by omega))
    · exact (nI_eq (b := 110) (by have := hl 3 (by omega); omega) (by omega)).mp (ce 3 (by omega))
    · exact (nI_eq (b := 116) (by have := hl 4 (by omega); omega) (by omega)).mp (ce 4 (by omega))
theorem v8_lt {t : Nat → Nat} {b : Nat} : ∀ {k : Nat}, (∀ j, j < k → t (b + j) < 256) → v8 t b k < 256 ^ k := by
  intro k
  induction k with
  | zero => intro _; show 0 < 1; omega
  | succ k ih =>
    intro h
    have h1 := ih (fun j hj => h j (by omega))
    have h2 := h k (by omega)
    show 256 * v8 t b k + t (b + k) < 256 ^ (k + 1)
    rw [Nat.pow_succ]
    omega
theorem v8_b {t : Nat → Nat} {b k : Nat} (h : ∀ j, j < k → t (b + j) < 256) (hk : k < 8) : v8 t b k < 2 ^ 56 := by
  have h1 := v8_lt h
  have h2 : 256 ^ k ≤ 256 ^ 7 := Nat.pow_le_pow_right (by omega) (by omega)
  have h3 : 256 ^ 7 = 2 ^ 56 := by decide
  omega
theorem l8 {v c : Nat} (hv : v < 2 ^ 48) (hc : c < 256) : lN v <<< ((8 : Int32).toInt64 &&& 63) ||| (nI c).toInt64 = lN (256 * v + c) := by
  rw [show (8 : Int32) = nI 8 from rfl, wb_shl v (k := 8) (by omega), nI_l (by omega), wb_or (by omega) (by omega)]
  congr 1
  have := Nat.shiftLeft_add_eq_or_of_lt (i := 8) (b := c) (by omega) v
  rw [Nat.shiftLeft_eq] at this
  rw [← this]
  omega
theorem tkc_i {s k : Nat} (hs : s ≤ 4) (hk : k < 4) : nI (tkc s) = nI (k + 1) ↔ s = k := by
  rw [nI_eq (by unfold tkc; split <;> omega) (by omega)]
  unfold tkc
  split <;> omega
theorem c_name (n : Nat) (t : Nat → Nat) (S : PS) (M : am_M) (hT : TR n t M) (hS : WS n t S) (hR : RR S M) : Con 1 mRef_name [aR 11 0 0] M (some (aL (lN (if sf S = 0 then nmV t S else 0)))) M := by
  obtain ⟨h500, hlen, hby, h256⟩ := id hT
  obtain ⟨r1, r2, r3, r4, r5, r6⟩ := id hR
  have hbe := hS.1.1
  have hen := hS.1.2.1
  have hs4 := hS.1.2.2.1
  have hf3 := hS.2
  have et : M 11 0 0 13 = 2 ↔ ss S = 1 := by rw [r1]; exact tkc_i (k := 1) hs4 (by omega)
  have ed : M 11 0 0 15 - M 11 0 0 14 = nI (se S - sb S) := by rw [r2, r4]; exact pk_sub hbe
  refine con_of okRef_name [some (aR 11 0 0), none, none, none] (some .long) ?_
  intro J hgo
  have s56 : ∀ (v : Nat) (kv : Int32), v = nmV t S → J 56 [some (aR 11 0 0), some (aL (lN v)), none, some (aI kv)] [] M := by
    intro v kv hv
    by_cases q : sf S = 0
    · refine hgo [] _ _ _ _ ?_
      refine brt (show M 11 0 0 16 = 0 by rw [r5, q]; rfl) ?_
      refine hgo [] _ _ _ _ ?_
      refine ⟨?_, rfl⟩
      rw [if_pos q, hv]
    · refine hgo [] _ _ _ _ ?_
      refine brf (show ¬ M 11 0 0 16 = 0 by rw [r5]; exact nI_ne0 (by omega) (by omega)) ?_
      refine hgo [] _ _ _ _ ?_
      refine ⟨?_, rfl⟩
      rw [if_neg q]
      rfl
  by_cases c : ss S = 1 ∧ se S - sb S < 8
  · have loop : ∀ m k kv, m = (se S - sb S) - k → k ≤ se S - sb S → kv = nI (sb S + k) → J 7 [some (aR 11 0 0), some (aL (lN (v8 t (sb S) k))), none, some (aI kv)] [] M := by
      intro m
      induction m with
      | zero =>
        intro k kv hm hk hv
        have hk : k = se S - sb S := by omega
        subst hv
        refine hgo [56] _ _ _ _ ?_
        refine brt (show M 11 0 0 15 ≤ nI (sb S + k) by rw [r4]; exact nI_le (by omega) (by omega)) ?_
        refine s56 _ _ ?_
        unfold nmV
        rw [if_pos c, hk]
      | succ m ih =>
        intro k kv hm hk hv
        subst hv
        have hkl : k < se S - sb S := by omega
        have h25 := h256 (sb S + k) (by omega)
        have hvb := v8_lt (t := t) (b := sb S) (k := k) (fun j hj => h256 _ (by omega))
        have hvc : 256 ^ k ≤ 256 ^ 6 := Nat.pow_le_pow_right (by omega) (by omega)
        have hvd : 256 ^ 6 = 2 ^ 48 := by decide
        refine hgo [56] _ _ _ _ ?_
        refine brf (show ¬ M 11 0 0 15 ≤ nI (sb S + k) by rw [r4]; exact nI_ge (by omega) (by omega)) ?_
        refine brt (et.mpr c.1) ?_
        refine brf (show ¬ nI 8 ≤ M 11 0 0 15 - M 11 0 0 14 by rw [ed]; exact nI_ge c.2 (by omega)) ?_
        refine ob_ (vp_in_nI (by omega) (by omega)) ?_
        have := ih (k + 1) (nI (sb S + k) + 1) (by omega) (by omega) (by rw [nI_1, Nat.add_assoc])
        have e8 : lN (v8 t (sb S) (k + 1)) = lN (v8 t (sb S) k) <<< ((8 : Int32).toInt64 &&& 63) ||| (M 11 0 6 (nI (sb S + k)).toNatClampNeg).toInt64 := by
          rw [cl_nI (by omega), hby _ (by omega), l8 (by omega) h25]
          rfl
        rw [e8] at this
        exact this
    refine hgo [7] _ _ _ _ ?_
    have := loop _ 0 (M 11 0 0 14) rfl (by omega) (by rw [r2]; rfl)
    exact this
  · have hv0 : (0 : Nat) = nmV t S := by
      unfold nmV
      rw [if_neg c]
    refine hgo [56] _ _ _ _ ?_
    by_cases q1 : nI (se S) ≤ nI (sb S)
    · refine brt (show M 11 0 0 15 ≤ M 11 0 0 14 by rw [r2, r4]; exact q1) ?_
      exact s56 0 _ hv0
    · refine brf (show ¬ M 11 0 0 15 ≤ M 11 0 0 14 by rw [r2, r4]; exact q1) ?_
      by_cases q2 : ss S = 1
      · refine brt (et.mpr q2) ?_
        refine brt (show nI 8 ≤ M 11 0 0 15 - M 11 0 0 14 by rw [ed]; exact nI_le (by omega) (by omega)) ?_
        exact s56 0 _ hv0
      · refine brf (fun z => q2 (et.mp z)) ?_
        exact s56 0 _ hv0
theorem nmV_b {n : Nat} {t : Nat → Nat} {S : PS} (hS : WS n t S) (h256 : ∀ i, i < n → t i < 256) : nmV t S < 2 ^ 56 := by
  have hbe := hS.1.1
  have hen := hS.1.2.1
  unfold nmV
  split
  · rename_i c
    exact v8_b (fun j hj => h256 _ (by omega)) c.2
  · decide
theorem lcN {a b : Nat} (ha : a < 2 ^ 63) (hb : b < 2 ^ 63) : lg_cmp (lN a) (lN b) = 0 ↔ a = b := by
  rw [lg_cmp_eq, pk_lEQ ha hb]
def sv (v : Nat) : Int32 := if v = 482854660462 then 1 else if v = 1852143475 then 3 else if v = 495873781104 then 2 else if v = 482670636660 then 5 else if v = 1919251316 then 4 else -1000000
theorem c_sortOf (v : Nat) (M : am_M) (hv : v < 2 ^ 63) : Con 1 mRef_sortOf [aL (lN v)] M (some (aI (sv v))) M := by
  refine con_of okRef_sortOf [some (aL (lN v)), none] (some .int) ?_
  intro J hgo
  have e1 := lcN (a := v) (b := 482854660462) hv (by omega)
  have e2 := lcN (a := v) (b := 1852143475) hv (by omega)
  have e3 := lcN (a := v) (b := 495873781104) hv (by omega)
  have e4 := lcN (a := v) (b := 482670636660) hv (by omega)
  have e5 := lcN (a := v) (b := 1919251316) hv (by omega)
  refine hgo [] _ _ _ _ ?_
  by_cases q1 : v = 482854660462
  · refine brt (e1.mpr q1) ?_
    refine hgo [] _ _ _ _ ?_
    refine ⟨?_, rfl⟩
    unfold sv
    rw [if_pos q1]
  · refine brf (fun z => q1 (e1.mp z)) ?_
    refine hgo [] _ _ _ _ ?_
    by_cases q2 : v = 1852143475
    · refine brt (e2.mpr q2) ?_
      refine hgo [] _ _ _ _ ?_
      refine ⟨?_, rfl⟩
      unfold sv
      rw [if_neg q1, if_pos q2]
    · refine brf (fun z => q2 (e2.mp z)) ?_
      refine hgo [] _ _ _ _ ?_
      by_cases q3 : v = 495873781104
      · refine brt (e3.mpr q3) ?_
        refine hgo [] _ _ _ _ ?_
        refine ⟨?_, rfl⟩
        unfold sv
        rw [if_neg q1, if_neg q2, if_pos q3]
      · refine brf (fun z => q3 (e3.mp z)) ?_
        refine hgo [] _ _ _ _ ?_
        by_cases q4 : v = 482670636660
        · refine brt (e4.mpr q4) ?_
          refine hgo [] _ _ _ _ ?_
          refine ⟨?_, rfl⟩
          unfold sv
          rw [if_neg q1, if_neg q2, if_neg q3, if_pos q4]
        · refine brf (fun z => q4 (e4.mp z)) ?_
          refine hgo [] _ _ _ _ ?_
          by_cases q5 : v = 1919251316
          · refine brt (e5.mpr q5) ?_
            refine hgo [] _ _ _ _ ?_
            refine ⟨?_, rfl⟩
            unfold sv
            rw [if_neg q1, if_neg q2, if_neg q3, if_neg q4, if_pos q5]
          · refine brf (fun z => q5 (e5.mp z)) ?_
            refine hgo [] _ _ _ _ ?_
            refine ⟨?_, rfl⟩
            unfold sv
            rw [if_neg q1, if_neg q2, if_neg q3, if_neg q4, if_neg q5]
theorem sv_kd {n : Nat} {t : Nat → Nat} {S : PS} (hS : WS n t S) : (kdn t S = 0 ∧ sv (nmV t S) = -1000000) ∨ (kdn t S ≠ 0 ∧ sv (nmV t S) = nI (kdn t S)) := by
  unfold kdn
  by_cases q7 : nmV t S = 482670636660
  · rw [if_pos ((nm_7 hS).mp q7), q7]
    exact Or.inr ⟨by decide, by decide⟩
  · rw [if_neg (fun z => q7 ((nm_7 hS).mpr z))]
    by_cases q6 : nmV t S = 1919251316
    · rw [if_pos ((nm_6 hS).mp q6), q6]
      exact Or.inr ⟨by decide, by decide⟩
    · rw [if_neg (fun z => q6 ((nm_6 hS).mpr z))]
      by_cases q5 : nmV t S = 1852143475
      · rw [if_pos ((nm_5 hS).mp q5), q5]
        exact Or.inr ⟨by decide, by decide⟩
      · rw [if_neg (fun z => q5 ((nm_5 hS).mpr z))]
        by_cases q4 : nmV t S = 495873781104
        · rw [if_pos ((nm_4 hS).mp q4), q4]
          exact Or.inr ⟨by decide, by decide⟩
        · rw [if_neg (fun z => q4 ((nm_4 hS).mpr z))]
          by_cases q3 : nmV t S = 482854660462
          · rw [if_pos ((nm_3 hS).mp q3), q3]
            exact Or.inr ⟨by decide, by decide⟩
          · rw [if_neg (fun z => q3 ((nm_3 hS).mpr z))]
            unfold sv
            rw [if_neg q3, if_neg q5, if_neg q4, if_neg q7, if_neg q6]
            exact Or.inl ⟨rfl, rfl⟩
theorem c_bad (k : Nat) (S : PS) (M : am_M) (hf : sf S ≤ 3) (hR : RR S M) : ConP 1 mRef_bad [aR 11 0 0, aI (nI k)] M (fun r M2 => r = none ∧ KT M2 M ∧ RR (fl k S) M2) := by
  obtain ⟨r1, r2, r3, r4, r5, r6⟩ := id hR
  refine con_of okRef_bad [some (aR 11 0 0), some (aI (nI k))] none ?_
  intro J hgo
  refine hgo [] _ _ _ _ ?_
  by_cases q : sf S = 0
  · refine brt (show M 11 0 0 16 = 0 by rw [r5, q]; rfl) ?_
    refine ⟨rfl, ⟨fun k hk => (sA_k hk).trans (sA_k hk), fun o ho => (sA_o ho).trans (sA_o ho), fun i hi => ?_⟩, ?_⟩
    · show upd (upd (M 11 0 0) 16 (nI k)) 17 (upd (M 11 0 0) 16 (nI k) 14) i = _
      rw [upd_n (by omega), upd_n (by omega)]
    · unfold fl
      rw [if_pos q]
      exact ⟨r1, r2, r3, r4, rfl, fun _ => r2⟩
  · refine brf (show ¬ M 11 0 0 16 = 0 by rw [r5]; exact nI_ne0 (by omega) (by omega)) ?_
    refine hgo [] _ _ _ _ ?_
    refine ⟨rfl, KT.rf, ?_⟩
    unfold fl
    rw [if_neg q]
    exact hR
def mus (n : Nat) (t : Nat → Nat) (P : Prop) [Decidable P] (S : PS) : PS := if sf S = 0 then (if P then nx n t S else fl 1 S) else S
theorem c_must (n : Nat) (t : Nat → Nat) (P : Prop) [Decidable P] (S : PS) (M : am_M) (hT : TR n t M) (hS : WS n t S) (hR : RR S M) : ConP 3 mRef_must [aR 11 0 0, aI (b2i P)] M (fun r M2 => r = none ∧ KT M2 M ∧ RR (mus n t P S) M2) := by
  have hf3 := hS.2
  refine con_of okRef_must [some (aR 11 0 0), some (aI (b2i P))] none ?_
  intro J hgo
  have s9 : ∀ (S' : PS) M2, KT M2 M → RR S' M2 → WS n t S' → (if sf S' = 0 then nx n t S' else S') = mus n t P S → J 9 [some (aR 11 0 0), some (aI (b2i P))] [] M2 := by
    intro S' M2 k2 r2 w2 e
    have hf3 := w2.2
    by_cases q : sf S' = 0
    · rw [if_pos q] at e
      refine hgo [] _ _ _ _ ?_
      refine brt (show M2 11 0 0 16 = 0 by rw [r2.2.2.2.2.1, q]; rfl) ?_
      refine clp (c_next n t S' M2 (TR_KT hT k2) w2 r2) ?_
      rintro r M3 ⟨rfl, k3, r3⟩
      refine ⟨rfl, k2.tr k3, ?_⟩
      rw [← e]
      exact r3
    · rw [if_neg q] at e
      refine hgo [] _ _ _ _ ?_
      refine brf (show ¬ M2 11 0 0 16 = 0 by rw [r2.2.2.2.2.1]; exact nI_ne0 (by omega) (by omega)) ?_
      refine hgo [] _ _ _ _ ?_
      refine ⟨rfl, k2, ?_⟩
      rw [← e]
      exact r2
  refine hgo [9] _ _ _ _ ?_
  refine brb (fun g => ?_) (fun g => ?_)
  · refine clp (c_bad 1 S M hf3 hR) ?_
    rintro r M2 ⟨rfl, k2, r2⟩
    refine s9 _ M2 k2 r2 (WS_fl (by omega) hS).1 ?_
    unfold mus
    by_cases q : sf S = 0
    · rw [if_pos q, if_neg g]
      have hff : sf (fl 1 S) = 1 := by unfold fl; rw [if_pos q]; rfl
      rw [if_neg (by rw [hff]; decide)]
    · rw [if_neg q]
      have e : fl 1 S = S := by unfold fl; rw [if_neg q]
      rw [e, if_neg q]
  · refine s9 S M KT.rf hR hS ?_
    unfold mus
    by_cases q : sf S = 0
    · rw [if_pos q, if_pos q, if_pos g]
    · rw [if_neg q, if_neg q]
theorem c_figures (n : Nat) (t : Nat → Nat) (S : PS) (M : am_M) (hT : TR n t M) (hS : WS n t S) (hR : RR S M) : Con 1 mRef_figures [aR 11 0 0] M (some (aI (nI (if ss S = 2 then nuv t S else 0)))) M := by
  obtain ⟨h500, hlen, hby, h256⟩ := id hT
  obtain ⟨r1, r2, r3, r4, r5, r6⟩ := id hR
  have hbe := hS.1.1
  have hen := hS.1.2.1
  have hs4 := hS.1.2.2.1
  have et : M 11 0 0 13 = 3 ↔ ss S = 2 := by rw [r1]; exact tkc_i (k := 2) hs4 (by omega)
  refine con_of okRef_figures [some (aR 11 0 0), none, none] (some .int) ?_
  intro J hgo
  by_cases c : ss S = 2
  · have hfg := (hS.1.2.2.2.2.2.2 c).1
    have loop : ∀ m k kv, m = (se S - sb S) - k → k ≤ se S - sb S → kv = nI (sb S + k) → J 7 [some (aR 11 0 0), some (aI (nI (vl t (sb S) k))), some (aI kv)] [] M := by
      intro m
      induction m with
      | zero =>
        intro k kv hm hk hv
        have hk : k = se S - sb S := by omega
        subst hv
        refine hgo [] _ _ _ _ ?_
        refine brt (show M 11 0 0 15 ≤ nI (sb S + k) by rw [r4]; exact nI_le (by omega) (by omega)) ?_
        refine hgo [] _ _ _ _ ?_
        refine ⟨?_, rfl⟩
        rw [if_pos c, hk]
        rfl
      | succ m ih =>
        intro k kv hm hk hv
        subst hv
        have hkl : k < se S - sb S := by omega
        have hd := of_decide_eq_true (hfg (sb S + k) (by omega) (by omega))
        refine hgo [] _ _ _ _ ?_
        refine brf (show ¬ M 11 0 0 15 ≤ nI (sb S + k) by rw [r4]; exact nI_ge (by omega) (by omega)) ?_
        refine brt (et.mpr c) ?_
        refine ob_ (vp_in_nI (by omega) (by omega)) ?_
        have := ih (k + 1) (nI (sb S + k) + 1) (by omega) (by omega) (by rw [nI_1, Nat.add_assoc])
        have e8 : nI (vl t (sb S) (k + 1)) = 10 * nI (vl t (sb S) k) + M 11 0 6 (nI (sb S + k)).toNatClampNeg - 48 := by
          rw [cl_nI (by omega), hby _ (by omega), show (10 : Int32) = nI 10 from rfl, show (48 : Int32) = nI 48 from rfl, pk_mul, nI_add, pk_sub (by omega)]
          congr 1
          show 10 * vl t (sb S) k + (t (sb S + k) - 48) = _
          omega
        rw [e8] at this
        exact this
    refine hgo [7] _ _ _ _ ?_
    exact loop _ 0 (M 11 0 0 14) rfl (by omega) (by rw [r2]; rfl)
  · have s44 : ∀ kv : Int32, J 44 [some (aR 11 0 0), some (aI 0), some (aI kv)] [] M := by
      intro kv
      refine hgo [] _ _ _ _ ?_
      refine ⟨?_, rfl⟩
      rw [if_neg c]
      rfl
    refine hgo [44] _ _ _ _ ?_
    by_cases q1 : nI (se S) ≤ nI (sb S)
    · refine brt (show M 11 0 0 15 ≤ M 11 0 0 14 by rw [r2, r4]; exact q1) ?_
      exact s44 _
    · refine brf (show ¬ M 11 0 0 15 ≤ M 11 0 0 14 by rw [r2, r4]; exact q1) ?_
      refine brf (fun z => c (et.mp z)) ?_
      exact s44 _
theorem c_Rnumber (n : Nat) (t : Nat → Nat) (S : PS) (lo hi : Nat) (lx : Int32) (M : am_M) (hT : TR n t M) (hS : WS n t S) (hR : RR S M) (hlx : sf S = 0 → lx = nI lo) (hlo : sf S = 0 → lo < 10000) (hhi : hi < 10000) : ConP 4 mRef_number [aR 11 0 0, aI lx, aI (nI hi)] M (fun r M2 => (∃ x, r = some (aI x) ∧ (sf (nu n t lo hi S) = 0 → x = nI (nuv t S))) ∧ KT M2 M ∧ RR (nu n t lo hi S) M2) := by
  obtain ⟨r1, r2, r3, r4, r5, r6⟩ := id hR
  have hs4 := hS.1.2.2.1
  have hf3 := hS.2
  have et : M 11 0 0 13 = 3 ↔ ss S = 2 := by rw [r1]; exact tkc_i (k := 2) hs4 (by omega)
  refine con_of okRef_number [some (aR 11 0 0), some (aI lx), some (aI (nI hi)), none] (some .int) ?_
  intro J hgo
  by_cases q : sf S = 0
  · have hlx := hlx q
    subst hlx
    have hlo := hlo q
    have s39 : ∀ (S' : PS) M2, KT M2 M → RR S' M2 → WS n t S' → ss S' = ss S → (if sf S' = 0 then (if ss S = 2 then nx n t S' else fl 1 S') else S') = nu n t lo hi S → J 39 [some (aR 11 0 0), some (aI (nI lo)), some (aI (nI hi)), some (aI (nI (if ss S = 2 then nuv t S else 0)))] [] M2 := by
      intro S' M2 k2 r2' w2 es e
      have et2 : M2 11 0 0 13 = 3 ↔ ss S = 2 := by rw [r2'.1, es]; exact tkc_i (k := 2) hs4 (by omega)
      have s53 : J 53 [some (aR 11 0 0), some (aI (nI lo)), some (aI (nI hi)), some (aI (nI (if ss S = 2 then nuv t S else 0)))] [aI (b2i (ss S = 2)), aR 11 0 0] M2 := by
        refine hgo [] _ _ _ _ ?_
        refine clp (c_must n t (ss S = 2) S' M2 (TR_KT hT k2) w2 r2') ?_
        rintro r M3 ⟨rfl, k3, r3⟩
        have e2 : mus n t (ss S = 2) S' = nu n t lo hi S := by unfold mus; exact e
        rw [e2] at r3
        refine ⟨⟨_, rfl, fun z => ?_⟩, k2.tr k3, r3⟩
        rw [if_pos (nu_ok z).2.1]
      by_cases c : ss S = 2
      · rw [b2i_t c] at s53
        refine hgo [] _ _ _ _ ?_
        refine brt (et2.mpr c) ?_
        exact s53
      · rw [b2i_f c] at s53
        refine hgo [53] _ _ _ _ ?_
        refine brf (fun z => c (et2.mp z)) ?_
        refine hgo [53] _ _ _ _ ?_
        exact s53
    refine hgo [] _ _ _ _ ?_
    refine brt (show M 11 0 0 16 ≤ 0 by rw [r5, q]; decide) ?_
    refine hgo [39] _ _ _ _ ?_
    refine cl_ (c_figures n t S M hT hS hR) ?_
    by_cases c : ss S = 2
    · have hv := nuv_lt hS c
      refine brt (et.mpr c) ?_
      refine cl_ (c_Ref_in (nI (if ss S = 2 then nuv t S else 0)) (nI lo) (nI hi) _ _ _ rfl rfl rfl M) ?_
      have hin : (nI lo ≤ nI (if ss S = 2 then nuv t S else 0) ∧ nI (if ss S = 2 then nuv t S else 0) ≤ nI hi) ↔ (lo ≤ nuv t S ∧ nuv t S ≤ hi) := by
        rw [if_pos c, nI_leI (by omega) (by omega), nI_leI (by omega) (by omega)]
      refine brb (fun g => ?_) (fun g => ?_)
      · have g : ¬ (lo ≤ nuv t S ∧ nuv t S ≤ hi) := fun z => g (hin.mpr z)
        refine clp (c_bad 2 S M hf3 hR) ?_
        rintro r M2 ⟨rfl, k2, r2'⟩
        have hff : sf (fl 2 S) = 2 := by unfold fl; rw [if_pos q]; rfl
        refine s39 _ M2 k2 r2' (WS_fl (by omega) hS).1 (by unfold fl; rw [if_pos q]; rfl) ?_
        rw [if_neg (by rw [hff]; decide)]
        unfold nu
        rw [if_pos q, if_pos c, if_neg g]
      · have g := hin.mp g
        refine s39 S M KT.rf hR hS rfl ?_
        unfold nu
        rw [if_pos q, if_pos c, if_pos q, if_pos c, if_pos g]
    · refine brf (fun z => c (et.mp z)) ?_
      refine s39 S M KT.rf hR hS rfl ?_
      unfold nu
      rw [if_pos q, if_neg c, if_pos q, if_neg c]
  · refine hgo [] _ _ _ _ ?_
    refine brf (show ¬ M 11 0 0 16 ≤ 0 by rw [r5]; exact nI_nle (by omega) (by omega)) ?_
    unfold nu
    rw [if_neg q]
    exact ⟨⟨0, rfl, fun z => absurd z q⟩, KT.rf, hR⟩
theorem c_mustEnd (n : Nat) (t : Nat → Nat) (S : PS) (M : am_M) (hT : TR n t M) (hS : WS n t S) (hR : RR S M) : ConP 4 mRef_mustEnd [aR 11 0 0] M (fun r M2 => r = none ∧ KT M2 M ∧ RR (sc n t S) M2) := by
  obtain ⟨r1, r2, r3, r4, r5, r6⟩ := id hR
  have hs4 := hS.1.2.2.1
  have hf3 := hS.2
  have et : M 11 0 0 13 = 4 ↔ ss S = 3 := by rw [r1]; exact tkc_i (k := 3) hs4 (by omega)
  refine con_of okRef_mustEnd [some (aR 11 0 0)] none ?_
  intro J hgo
  by_cases q : sf S = 0
  · have s21 : J 21 [some (aR 11 0 0)] [aI (b2i (ss S = 3)), aR 11 0 0] M := by
      refine hgo [] _ _ _ _ ?_
      refine clp (c_must n t (ss S = 3) S M hT hS hR) ?_
      rintro r M3 ⟨rfl, k3, r3⟩
      refine ⟨rfl, k3, ?_⟩
      have e2 : mus n t (ss S = 3) S = sc n t S := by
        unfold mus sc
        rfl
      rw [← e2]
      exact r3
    refine hgo [21] _ _ _ _ ?_
    refine brt (show M 11 0 0 16 = 0 by rw [r5, q]; rfl) ?_
    by_cases c : ss S = 3
    · rw [b2i_t c] at s21
      refine brt (et.mpr c) ?_
      exact s21
    · rw [b2i_f c] at s21
      refine brf (fun z => c (et.mp z)) ?_
      refine hgo [21] _ _ _ _ ?_
      exact s21
  · refine hgo [] _ _ _ _ ?_
    refine brf (show ¬ M 11 0 0 16 = 0 by rw [r5]; exact nI_ne0 (by omega) (by omega)) ?_
    refine hgo [] _ _ _ _ ?_
    refine ⟨rfl, KT.rf, ?_⟩
    unfold sc
    rw [if_neg q]
    exact hR
theorem c_begins (n : Nat) (t : Nat → Nat) (S : PS) (w c rm : Nat) (M : am_M) (hT : TR n t M) (hS : WS n t S) (hR : RR S M) (hf : sf S = 0) (hw : w < 198) (hc : M 11 0 5 w = nI c) (hc1 : c < 100) (hr : rm < 100) : ConP 4 mRef_begins [aR 11 0 0, aI (nI w), aI (nI rm)] M (fun r M2 => r = none ∧ KT M2 M ∧ RR (if c = rm then fl 3 S else nx n t S) M2) := by
  have hf3 := hS.2
  refine con_of okRef_begins [some (aR 11 0 0), some (aI (nI w)), some (aI (nI rm))] none ?_
  intro J hgo
  have s15 : ∀ (S' : PS) M2, KT M2 M → RR S' M2 → WS n t S' → (if sf S' = 0 then nx n t S' else S') = (if c = rm then fl 3 S else nx n t S) → J 15 [some (aR 11 0 0), some (aI (nI w)), some (aI (nI rm))] [] M2 := by
    intro S' M2 k2 r2 w2 e
    refine hgo [] _ _ _ _ ?_
    refine clpe (c_must n t True S' M2 (TR_KT hT k2) w2 r2) (by rw [b2i_t trivial]) rfl ?_
    rintro r M3 ⟨rfl, k3, r3⟩
    refine ⟨rfl, k2.tr k3, ?_⟩
    rw [← e]
    unfold mus at r3
    rw [if_pos trivial] at r3
    exact r3
  refine hgo [15] _ _ _ _ ?_
  refine ob_ (vp_in_nI (by omega) (by omega)) ?_
  by_cases q : c = rm
  · refine brt (show M 11 0 5 (nI w).toNatClampNeg = nI rm by rw [cl_nI (by omega), hc, q]) ?_
    refine clp (c_bad 3 S M hf3 hR) ?_
    rintro r M2 ⟨rfl, k2, r2⟩
    have hff : sf (fl 3 S) = 3 := by unfold fl; rw [if_pos hf]; rfl
    refine s15 _ M2 k2 r2 (WS_fl (by omega) hS).1 ?_
    rw [if_neg (by rw [hff]; decide), if_pos q]
  · refine brf (show ¬ M 11 0 5 (nI w).toNatClampNeg = nI rm by rw [cl_nI (by omega), hc]; exact fun z => q ((nI_eq (by omega) (by omega)).mp z)) ?_
    refine s15 S M KT.rf hR hS ?_
    rw [if_pos hf, if_neg q]
