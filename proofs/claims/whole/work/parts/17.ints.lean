theorem i3_lt {x y : Int32} : x < y ↔ x.toInt < y.toInt := Int32.lt_iff_toInt_lt
theorem i3_le {x y : Int32} : x ≤ y ↔ x.toInt ≤ y.toInt := Int32.le_iff_toInt_le
theorem i3_eq {x y : Int32} : x = y ↔ x.toInt = y.toInt := Int32.toInt_inj.symm
theorem i3_rng (x : Int32) : -2147483648 ≤ x.toInt ∧ x.toInt < 2147483648 := ⟨by have := Int32.le_toInt x; omega, by have := Int32.toInt_lt x; omega⟩
theorem i3_cl {x : Int32} (h : 0 ≤ x.toInt) : (x.toNatClampNeg : Int) = x.toInt := by
  show ((x.toInt.toNat : Nat) : Int) = x.toInt
  omega
theorem i3_bmod {z : Int} (h1 : -2147483648 ≤ z) (h2 : z < 2147483648) : z.bmod (2 ^ 32) = z := by
  rw [Int.bmod_eq_of_le] <;> omega
theorem i3_add {x y : Int32} (h1 : -2147483648 ≤ x.toInt + y.toInt) (h2 : x.toInt + y.toInt < 2147483648) : (x + y).toInt = x.toInt + y.toInt := by
  rw [Int32.toInt_add]; exact i3_bmod h1 h2
theorem i3_sub {x y : Int32} (h1 : -2147483648 ≤ x.toInt - y.toInt) (h2 : x.toInt - y.toInt < 2147483648) : (x - y).toInt = x.toInt - y.toInt := by
  rw [Int32.toInt_sub]; exact i3_bmod h1 h2
theorem i3_mul {x y : Int32} (h1 : -2147483648 ≤ x.toInt * y.toInt) (h2 : x.toInt * y.toInt < 2147483648) : (x * y).toInt = x.toInt * y.toInt := by
  rw [Int32.toInt_mul]; exact i3_bmod h1 h2
theorem i3_n {n : Nat} (h : n < 2 ^ 31) : (nI n).toInt = (n : Int) := nI_toInt h
theorem i3_of {x : Int32} (h : 0 ≤ x.toInt) : x = nI x.toNatClampNeg := by
  apply Int32.toInt_inj.mp
  have := i3_rng x
  have := i3_cl h
  rw [nI_toInt (by omega)]
  omega
theorem i3_m1 : Int32.toInt (-1) = -1 := by decide
theorem brbt {p A B : Prop} [Decidable p] (h : p) (b : B) : Br (b2i p = 0) A B := ⟨fun q => absurd h (b2i_0.mp q), fun _ => b⟩
theorem brbf {p A B : Prop} [Decidable p] (h : ¬ p) (a : A) : Br (b2i p = 0) A B := ⟨fun _ => a, fun q => absurd (b2i_0.mpr h) q⟩
theorem cl_nI {n : Nat} (h : n < 1000000) : (nI n).toNatClampNeg = n := nI_clamp (by omega)
theorem sA_k {M : am_M} {k j o a : Nat} {f : Nat → Int32} (h : a ≠ k) : sA M k j o f a = M a := by
  funext b c
  have : ¬ (a = k ∧ b = j ∧ c = o) := fun q => h q.1
  simp only [sA, if_neg this]
theorem sA_j {M : am_M} {k j o b : Nat} {f : Nat → Int32} (h : b ≠ j) : sA M k j o f k b = M k b := by
  funext c
  exact if_neg (fun q => h q.2.1)
theorem sA_o {M : am_M} {k j o c : Nat} {f : Nat → Int32} (h : c ≠ o) : sA M k j o f k j c = M k j c := by
  exact if_neg (fun q => h q.2.2)
theorem sA_s {M : am_M} {k j o : Nat} {f : Nat → Int32} : sA M k j o f k j o = f := sA_same
theorem upd_s {f : Nat → Int32} {k : Nat} {x : Int32} : upd f k x k = x := by simp [upd]
theorem upd_n {f : Nat → Int32} {k j : Nat} {x : Int32} (h : j ≠ k) : upd f k x j = f j := by simp [upd, h]
theorem cle {d n d2 : Nat} {as as2 : List am_V} {M M1 M2 : am_M} {r : Option am_V} {K : Option am_V → am_M → Prop} (h : Con d2 n as2 M1 r M2) (e : as = as2) (eM : M = M1) (k : K r M2) (hd : d2 < d := by decide) : Cl d n as M K := by
  subst e
  subst eM
  exact cl_ h k hd
theorem clpe {d n d2 : Nat} {as as2 : List am_V} {M M1 : am_M} {Po : Option am_V → am_M → Prop} {K : Option am_V → am_M → Prop} (h : ConP d2 n as2 M1 Po) (e : as = as2) (eM : M = M1) (k : ∀ r M2, Po r M2 → K r M2) (hd : d2 < d := by decide) : Cl d n as M K := by
  subst e
  subst eM
  exact clp h k hd
