/-! closures -/
theorem wsh_mono {R : Nat → Nat → Bool} {n p q : Nat} (h : wsh R n p q = true) : wsh R (n + 1) p q = true := by
  show (wsh R n p q || (wsh R n p n && wsh R n n q)) = true
  rw [h]
  rfl
theorem wsh_le {R : Nat → Nat → Bool} {p q : Nat} : ∀ {m n : Nat}, m ≤ n → wsh R m p q = true → wsh R n p q = true := by
  intro m n h
  induction n with
  | zero =>
    obtain rfl : m = 0 := by omega
    exact id
  | succ n ih =>
    intro h1
    by_cases e : m = n + 1
    · rw [← e]; exact h1
    · exact wsh_mono (ih (by omega) h1)
theorem wsh_via {R : Nat → Nat → Bool} {n p q : Nat} (h1 : wsh R n p n = true) (h2 : wsh R n n q = true) : wsh R (n + 1) p q = true := by
  show (wsh R n p q || (wsh R n p n && wsh R n n q)) = true
  rw [h1, h2]
  simp
theorem wsh_or {R : Nat → Nat → Bool} {n p q : Nat} (h : wsh R (n + 1) p q = true) : wsh R n p q = true ∨ (wsh R n p n = true ∧ wsh R n n q = true) := by
  have h : (wsh R n p q || (wsh R n p n && wsh R n n q)) = true := h
  rw [Bool.or_eq_true, Bool.and_eq_true] at h
  exact h
theorem wsh_tr {R : Nat → Nat → Bool} : ∀ {n k p q : Nat}, k < n → wsh R n p k = true → wsh R n k q = true → wsh R n p q = true := by
  intro n
  induction n with
  | zero => intro k p q h; omega
  | succ n ih =>
    intro k p q hk h1 h2
    by_cases e : k = n
    · subst e
      have g1 : wsh R k p k = true := by rcases wsh_or h1 with h | h; exact h; exact h.1
      have g2 : wsh R k k q = true := by rcases wsh_or h2 with h | h; exact h; exact h.2
      exact wsh_via g1 g2
    · have hk : k < n := by omega
      rcases wsh_or h1 with h1 | ⟨h1, h3⟩
      · rcases wsh_or h2 with h2 | ⟨h2, h4⟩
        · exact wsh_mono (ih hk h1 h2)
        · exact wsh_via (ih hk h1 h2) h4
      · rcases wsh_or h2 with h2 | ⟨h2, h4⟩
        · exact wsh_via h1 (ih hk h3 h2)
        · exact wsh_via h1 h4
theorem wsh_row {R : Nat → Nat → Bool} {n q : Nat} : wsh R (n + 1) n q = wsh R n n q := by
  show (wsh R n n q || (wsh R n n n && wsh R n n q)) = _
  cases wsh R n n q <;> simp
/-- between R and its closure -/
theorem wsh_min {R T : Nat → Nat → Bool} (h0 : ∀ p q, R p q = true → T p q = true) (ht : ∀ p k q, T p k = true → T k q = true → T p q = true) : ∀ n p q, wsh R n p q = true → T p q = true := by
  intro n
  induction n with
  | zero => exact h0
  | succ n ih =>
    intro p q h
    rcases wsh_or h with h | ⟨h1, h2⟩
    · exact ih p q h
    · exact ht _ _ _ (ih _ _ h1) (ih _ _ h2)
/-! a count of a set below 10 -/
def cB (f : Nat → Bool) : Nat → Nat
  | 0 => 0
  | n + 1 => cB f n + (if f n = true then 1 else 0)
theorem cB_le {f g : Nat → Bool} : ∀ {n : Nat}, (∀ i, i < n → f i = true → g i = true) → cB f n ≤ cB g n
  | 0, _ => Nat.le_refl _
  | n + 1, h => by
    have h1 := cB_le (f := f) (g := g) (n := n) (fun i hi => h i (by omega))
    unfold cB
    by_cases hf : f n = true
    · rw [if_pos hf, if_pos (h n (by omega) hf)]
      omega
    · rw [if_neg hf]
      omega
theorem cB_lt {f g : Nat → Bool} : ∀ {n k : Nat}, (∀ i, i < n → f i = true → g i = true) → k < n → f k = false → g k = true → cB f n < cB g n
  | 0, _, _, h, _, _ => by omega
  | n + 1, k, h, hk, h1, h2 => by
    unfold cB
    by_cases e : k = n
    · subst e
      have := cB_le (f := f) (g := g) (n := k) (fun i hi => h i (by omega))
      rw [if_neg (by rw [h1]; decide), if_pos h2]
      omega
    · have := cB_lt (f := f) (g := g) (n := n) (k := k) (fun i hi => h i (by omega)) (by omega) h1 h2
      by_cases hf : f n = true
      · rw [if_pos hf, if_pos (h n (by omega) hf)]
        omega
      · rw [if_neg hf]
        omega
theorem cB_n (f : Nat → Bool) : ∀ n, cB f n ≤ n
  | 0 => Nat.le_refl _
  | n + 1 => by
    have := cB_n f n
    unfold cB
    split <;> omega
/-! the greatest of some -/
def mxF (P : Nat → Bool) (f : Nat → Int) (d : Int) : Nat → Int
  | 0 => d
  | n + 1 => if P n = true then max (mxF P f d n) (f n) else mxF P f d n
theorem mxF_d (P : Nat → Bool) (f : Nat → Int) (d : Int) : ∀ n, d ≤ mxF P f d n
  | 0 => Int.le_refl _
  | n + 1 => by
    have := mxF_d P f d n
    unfold mxF
    split <;> omega
theorem mxF_ge {P : Nat → Bool} {f : Nat → Int} {d : Int} : ∀ {n i : Nat}, i < n → P i = true → f i ≤ mxF P f d n
  | 0, _, h, _ => by omega
  | n + 1, i, h, hp => by
    unfold mxF
    by_cases e : i = n
    · subst e
      rw [if_pos hp]
      omega
    · have := mxF_ge (P := P) (f := f) (d := d) (n := n) (i := i) (by omega) hp
      split <;> omega
theorem mxF_le {P : Nat → Bool} {f : Nat → Int} {d x : Int} : ∀ {n : Nat}, d ≤ x → (∀ i, i < n → P i = true → f i ≤ x) → mxF P f d n ≤ x
  | 0, h, _ => h
  | n + 1, h, h2 => by
    have := mxF_le (P := P) (f := f) (d := d) (x := x) (n := n) h (fun i hi => h2 i (by omega))
    unfold mxF
    by_cases hp : P n = true
    · have := h2 n (by omega) hp
      rw [if_pos hp]
      omega
    · rw [if_neg hp]
      exact this
theorem mxF_cong {P Q : Nat → Bool} {f g : Nat → Int} {d : Int} : ∀ {n : Nat}, (∀ i, i < n → P i = Q i ∧ (P i = true → f i = g i)) → mxF P f d n = mxF Q g d n
  | 0, _ => rfl
  | n + 1, h => by
    obtain ⟨h1, h2⟩ := h n (by omega)
    unfold mxF
    rw [mxF_cong (P := P) (Q := Q) (f := f) (g := g) (d := d) (n := n) (fun i hi => h i (by omega)), ← h1]
    by_cases hp : P n = true
    · rw [if_pos hp, if_pos hp, h2 hp]
    · rw [if_neg hp, if_neg hp]
/-! the longest way from below: L p = max (base p) (L q + 1) -/
def Lf (A : Nat → Nat → Bool) (base : Nat → Int) : Nat → Nat → Int
  | 0 => base
  | k + 1 => fun p => mxF (A p) (fun q => Lf A base k q + 1) (base p) 10
/-- a rank that goes down along A -/
def RkA (A : Nat → Nat → Bool) (rk : Nat → Nat) : Prop := ∀ p q, q < 10 → A p q = true → rk q < rk p
theorem Lf_stab {A : Nat → Nat → Bool} {base : Nat → Int} {rk : Nat → Nat} (h : RkA A rk) : ∀ k p, rk p < k → Lf A base k p = Lf A base (k + 1) p := by
  intro k
  induction k with
  | zero => intro p hp; omega
  | succ k ih =>
    intro p hp
    show mxF (A p) (fun q => Lf A base k q + 1) (base p) 10 = mxF (A p) (fun q => Lf A base (k + 1) q + 1) (base p) 10
    apply mxF_cong
    intro q hq
    refine ⟨rfl, fun ha => ?_⟩
    have := h p q hq ha
    show Lf A base k q + 1 = Lf A base (k + 1) q + 1
    rw [ih q (by omega)]
def LL (A : Nat → Nat → Bool) (base : Nat → Int) (p : Nat) : Int := Lf A base 10 p
theorem LL_eq {A : Nat → Nat → Bool} {base : Nat → Int} {rk : Nat → Nat} (h : RkA A rk) (h9 : ∀ p, p < 10 → rk p < 10) (p : Nat) (hp : p < 10) : LL A base p = mxF (A p) (fun q => LL A base q + 1) (base p) 10 := by
  unfold LL
  rw [Lf_stab h 10 p (h9 p hp)]
  rfl
theorem LL_b {A : Nat → Nat → Bool} {base : Nat → Int} (p : Nat) : base p ≤ LL A base p := mxF_d _ _ _ _
theorem LL_ge {A : Nat → Nat → Bool} {base : Nat → Int} {rk : Nat → Nat} (h : RkA A rk) (h9 : ∀ p, p < 10 → rk p < 10) {p q : Nat} (hp : p < 10) (hq : q < 10) (ha : A p q = true) : LL A base q + 1 ≤ LL A base p := by
  rw [LL_eq h h9 p hp]
  exact mxF_ge (f := fun q => LL A base q + 1) hq ha
theorem Lf_top {A : Nat → Nat → Bool} {base : Nat → Int} {B : Int} (hb : ∀ p, p < 10 → base p ≤ B) : ∀ k p, p < 10 → Lf A base k p ≤ B + k := by
  intro k
  induction k with
  | zero => intro p hp; have := hb p hp; show base p ≤ B + 0; omega
  | succ k ih =>
    intro p hp
    show mxF (A p) (fun q => Lf A base k q + 1) (base p) 10 ≤ _
    have := hb p hp
    refine mxF_le (by omega) (fun i hi ha => ?_)
    have := ih i hi
    show Lf A base k i + 1 ≤ _
    omega
