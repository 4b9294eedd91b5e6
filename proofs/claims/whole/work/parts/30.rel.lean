/-! the house as the reference's row of numbers, and what follows from it -/
def exB (P : Nat → Bool) : Nat → Bool
  | 0 => false
  | n + 1 => exB P n || P n
def hN (h : Nat → Int32) (i : Nat) : Nat := (h i).toNatClampNeg
def nW (h : Nat → Int32) : Nat := hN h 0
def nP (h : Nat → Int32) : Nat := hN h 1
def nT (h : Nat → Int32) : Nat := hN h 2
def nS (h : Nat → Int32) : Nat := hN h 3
def wl (h : Nat → Int32) (s : Nat) : Nat := hN h (108 + 10 * s)
def dp (h : Nat → Int32) (s : Nat) : Nat := hN h (109 + 10 * s)
def ly (h : Nat → Int32) (s k : Nat) : Nat := hN h (110 + 10 * s + k)
def atB (h : Nat → Int32) (s n p : Nat) : Bool := exB (fun k => ly h s k == p) n
def seB (h : Nat → Int32) (n p : Nat) : Bool := exB (fun s => atB h s (dp h s) p) n
def onB (h : Nat → Int32) (n w p : Nat) : Bool := exB (fun s => (wl h s == w) && atB h s (dp h s) p) n
def a1B (h : Nat → Int32) (s m p q : Nat) : Bool := exB (fun k => (ly h s (k + 1) == p) && (ly h s k == q)) m
def ahB (h : Nat → Int32) (n p q : Nat) : Bool := exB (fun s => a1B h s (dp h s - 1) p q) n
def Seen (h : Nat → Int32) (p : Nat) : Bool := seB h (nS h) p
def On (h : Nat → Int32) (w p : Nat) : Bool := onB h (nS h) w p
def Ah (h : Nat → Int32) (p q : Nat) : Bool := ahB h (nS h) p q
def wsh (R : Nat → Nat → Bool) : Nat → Nat → Nat → Bool
  | 0 => R
  | n + 1 => fun p q => wsh R n p q || (wsh R n p n && wsh R n n q)
def Su (h : Nat → Int32) (p q : Nat) : Bool := wsh (Ah h) 10 p q
def Ring (h : Nat → Int32) (p : Nat) : Bool := Su h p p
/-- a valid house -/
def HV (h : Nat → Int32) : Prop :=
  (h 0 = nI (nW h) ∧ nW h ≤ 8) ∧ (h 1 = nI (nP h) ∧ nP h ≤ 10) ∧ (h 2 = nI (nT h) ∧ nT h ≤ 10) ∧ (h 3 = nI (nS h) ∧ nS h ≤ 9) ∧
  (∀ w, w < nW h → ∃ b wd hg : Nat, h (4 + 3 * w) = nI b ∧ 1700 ≤ b ∧ b ≤ 1999 ∧ h (5 + 3 * w) = nI wd ∧ 50 ≤ wd ∧ wd ≤ 999 ∧ h (6 + 3 * w) = nI hg ∧ 100 ≤ hg ∧ hg ≤ 400) ∧
  (∀ p, p < nP h → ∃ kd md la pr re : Nat, h (28 + 5 * p) = nI kd ∧ 1 ≤ kd ∧ kd ≤ 5 ∧ h (29 + 5 * p) = nI md ∧ 1700 ≤ md ∧ md ≤ 1999 ∧ h (30 + 5 * p) = nI la ∧ md ≤ la ∧ la ≤ 1999 ∧ h (31 + 5 * p) = nI pr ∧ pr ≤ 99 ∧ h (32 + 5 * p) = nI re ∧ 1 ≤ re ∧ re ≤ 99) ∧
  (∀ t, t < nT h → ∃ fr to me : Nat, h (78 + 3 * t) = nI fr ∧ 1700 ≤ fr ∧ fr ≤ 1999 ∧ h (79 + 3 * t) = nI to ∧ fr ≤ to ∧ to ≤ 1999 ∧ h (80 + 3 * t) = nI me ∧ me ≤ 99) ∧
  (∀ s, s < nS h → h (108 + 10 * s) = nI (wl h s) ∧ wl h s < nW h ∧ h (109 + 10 * s) = nI (dp h s) ∧ 1 ≤ dp h s ∧ dp h s ≤ 8 ∧ ∀ k, k < dp h s → h (110 + 10 * s + k) = nI (ly h s k) ∧ ly h s k < nP h)
/-- the class's house and spots hold it -/
def RHw (C : Nat → Nat → Int32) (h : Nat → Int32) : Prop := C 0 0 = h 0 ∧ ∀ w, w < nW h → C 1 w = h (4 + 3 * w) ∧ C 2 w = h (5 + 3 * w) ∧ C 3 w = h (6 + 3 * w)
def RHp (C : Nat → Nat → Int32) (h : Nat → Int32) : Prop := C 0 4 = h 1 ∧ ∀ p, p < nP h → C 4 p = h (28 + 5 * p) ∧ C 5 p = h (29 + 5 * p) ∧ C 6 p = h (30 + 5 * p) ∧ C 7 p = h (31 + 5 * p) ∧ C 8 p = h (32 + 5 * p)
def RHt (C : Nat → Nat → Int32) (h : Nat → Int32) : Prop := C 0 10 = h 2 ∧ ∀ t, t < nT h → C 9 t = h (78 + 3 * t) ∧ C 10 t = h (79 + 3 * t) ∧ C 11 t = h (80 + 3 * t)
def RHs (P : Nat → Nat → Int32) (h : Nat → Int32) : Prop := P 0 0 = h 3 ∧ ∀ s, s < nS h → P 1 s = h (108 + 10 * s) ∧ P 2 s = h (109 + 10 * s) ∧ ∀ k, k < dp h s → P 3 (8 * s + k) = h (110 + 10 * s + k)
def RH (C P : Nat → Nat → Int32) (h : Nat → Int32) : Prop := RHw C h ∧ RHp C h ∧ RHt C h ∧ RHs P h
def Rrow (th la si it lane many item : Nat → Int32) : Prop := ∀ r, r < 8 →
  (th r = 0 ∧ lane r = -1 ∧ si r = 0) ∨ (th r = 1 ∧ (0 ≤ la r ∧ la r ≤ 2) ∧ lane r = la r ∧ ∃ n : Nat, n ≤ 40 ∧ si r = nI n ∧ many r = nI n ∧ ∀ i, i < n → it (40 * r + i) = item (40 * r + i))
def Rtape (len : Int32) (bts : Nat → Int32) (taped : Int32) (tape : Nat → Int32) : Prop := ∃ n : Nat, n ≤ 500 ∧ len = nI n ∧ taped = nI n ∧ ∀ i, i < n → bts i = tape i ∧ ∃ c, c < 256 ∧ tape i = nI c
def Rimg (C P : Nat → Nat → Int32) (h : Nat → Int32) (isk : Int32) : Prop := (isk = 0 ∧ C 0 0 = 0) ∨ (isk = 1 ∧ HV h ∧ RH C P h ∧ 1 ≤ nW h)
def Rbod (bg : Int32) (tr : Nat → Int32) (traced : Int32) (trace : Nat → Int32) : Prop := ∃ n : Nat, n ≤ 16 ∧ bg = nI n ∧ traced = nI n ∧ ∀ i, i < n → tr i = trace i
def FR (seen : Int32) (on ahead sure : Nat → Int32) (h : Nat → Int32) : Prop := seen = bs (Seen h) ∧ (∀ w, w < 8 → on w = bs (On h w)) ∧ (∀ p, p < 10 → ahead p = bs (Ah h p)) ∧ ∀ p, p < 10 → sure p = bs (Su h p)
/-! closures -/
theorem wsh_mono {R : Nat → Nat → Bool} {n p q : Nat} (h : wsh R n p q = true) : wsh R (n + 1) p q = true := by
  show (wsh R n p q || (wsh R n p n && wsh R n n q)) = true
  rw [h]
  rfl
theorem wsh_le {R : Nat → Nat → Bool} {p q : Nat} : ∀ {m n : Nat}, m ≤ n → wsh R m p q = true → wsh R n p q = true := by
  intro m n h
  induction n with
  | zero =>
    obtain rfl : m = 0 := by omega
    exact id
  | succ n ih =>
    intro h1
    by_cases e : m = n + 1
    · rw [← e]; exact h1
    · exact wsh_mono (ih (by omega) h1)
theorem wsh_via {R : Nat → Nat → Bool} {n p q : Nat} (h1 : wsh R n p n = true) (h2 : wsh R n n q = true) : wsh R (n + 1) p q = true := by
  show (wsh R n p q || (wsh R n p n && wsh R n n q)) = true
  rw [h1, h2]
  simp
theorem wsh_or {R : Nat → Nat → Bool} {n p q : Nat} (h : wsh R (n + 1) p q = true) : wsh R n p q = true ∨ (wsh R n p n = true ∧ wsh R n n q = true) := by
  have h : (wsh R n p q || (wsh R n p n && wsh R n n q)) = true := h
  rw [Bool.or_eq_true, Bool.and_eq_true] at h
  exact h
theorem wsh_tr {R : Nat → Nat → Bool} : ∀ {n k p q : Nat}, k < n → wsh R n p k = true → wsh R n k q = true → wsh R n p q = true := by
  intro n
  induction n with
  | zero => intro k p q h; omega
  | succ n ih =>
    intro k p q hk h1 h2
    by_cases e : k = n
    · subst e
      have g1 : wsh R k p k = true := by rcases wsh_or h1 with h | h; exact h; exact h.1
      have g2 : wsh R k k q = true := by rcases wsh_or h2 with h | h; exact h; exact h.2
      exact wsh_via g1 g2
    · have hk : k < n := by omega
      rcases wsh_or h1 with h1 | ⟨h1, h3⟩
      · rcases wsh_or h2 with h2 | ⟨h2, h4⟩
        · exact wsh_mono (ih hk h1 h2)
        · exact wsh_via (ih hk h1 h2) h4
      · rcases wsh_or h2 with h2 | ⟨h2, h4⟩
        · exact wsh_via h1 (ih hk h3 h2)
        · exact wsh_via h1 h4
theorem wsh_row {R : Nat → Nat → Bool} {n q : Nat} : wsh R (n + 1) n q = wsh R n n q := by
  show (wsh R n n q || (wsh R n n n && wsh R n n q)) = _
  cases wsh R n n q <;> simp
/-- between R and its closure -/
theorem wsh_min {R T : Nat → Nat → Bool} (h0 : ∀ p q, R p q = true → T p q = true) (ht : ∀ p k q, T p k = true → T k q = true → T p q = true) : ∀ n p q, wsh R n p q = true → T p q = true := by
  intro n
  induction n with
  | zero => exact h0
  | succ n ih =>
    intro p q h
    rcases wsh_or h with h | ⟨h1, h2⟩
    · exact ih p q h
    · exact ht _ _ _ (ih _ _ h1) (ih _ _ h2)
/-! a count of a set below 10 -/
def cB (f : Nat → Bool) : Nat → Nat
  | 0 => 0
  | n + 1 => cB f n + (if f n = true then 1 else 0)
theorem cB_le {f g : Nat → Bool} : ∀ {n : Nat}, (∀ i, i < n → f i = true → g i = true) → cB f n ≤ cB g n
  | 0, _ => Nat.le_refl _
  | n + 1, h => by
    have h1 := cB_le (f := f) (g := g) (n := n) (fun i hi => h i (by omega))
    unfold cB
    by_cases hf : f n = true
    · rw [if_pos hf, if_pos (h n (by omega) hf)]
      omega
    · rw [if_neg hf]
      omega
theorem cB_lt {f g : Nat → Bool} : ∀ {n k : Nat}, (∀ i, i < n → f i = true → g i = true) → k < n → f k = false → g k = true → cB f n < cB g n
  | 0, _, _, h, _, _ => by omega
  | n + 1, k, h, hk, h1, h2 => by
    unfold cB
    by_cases e : k = n
    · subst e
      have := cB_le (f := f) (g := g) (n := k) (fun i hi => h i (by omega))
      rw [if_neg (by rw [h1]; decide), if_pos h2]
      omega
    · have := cB_lt (f := f) (g := g) (n := n) (k := k) (fun i hi => h i (by omega)) (by omega) h1 h2
      by_cases hf : f n = true
      · rw [if_pos hf, if_pos (h n (by omega) hf)]
        omega
      · rw [if_neg hf]
        omega
theorem cB_n (f : Nat → Bool) : ∀ n, cB f n ≤ n
  | 0 => Nat.le_refl _
  | n + 1 => by
    have := cB_n f n
    unfold cB
    split <;> omega
/-! the greatest of some -/
def mxF (P : Nat → Bool) (f : Nat → Int) (d : Int) : Nat → Int
  | 0 => d
  | n + 1 => if P n = true then max (mxF P f d n) (f n) else mxF P f d n
theorem mxF_d (P : Nat → Bool) (f : Nat → Int) (d : Int) : ∀ n, d ≤ mxF P f d n
  | 0 => Int.le_refl _
  | n + 1 => by
    have := mxF_d P f d n
    unfold mxF
    split <;> omega
theorem mxF_ge {P : Nat → Bool} {f : Nat → Int} {d : Int} : ∀ {n i : Nat}, i < n → P i = true → f i ≤ mxF P f d n
  | 0, _, h, _ => by omega
  | n + 1, i, h, hp => by
    unfold mxF
    by_cases e : i = n
    · subst e
      rw [if_pos hp]
      omega
    · have := mxF_ge (P := P) (f := f) (d := d) (n := n) (i := i) (by omega) hp
      split <;> omega
theorem mxF_le {P : Nat → Bool} {f : Nat → Int} {d x : Int} : ∀ {n : Nat}, d ≤ x → (∀ i, i < n → P i = true → f i ≤ x) → mxF P f d n ≤ x
  | 0, h, _ => h
  | n + 1, h, h2 => by
    have := mxF_le (P := P) (f := f) (d := d) (x := x) (n := n) h (fun i hi => h2 i (by omega))
    unfold mxF
    by_cases hp : P n = true
    · have := h2 n (by omega) hp
      rw [if_pos hp]
      omega
    · rw [if_neg hp]
      exact this
theorem mxF_cong {P Q : Nat → Bool} {f g : Nat → Int} {d : Int} : ∀ {n : Nat}, (∀ i, i < n → P i = Q i ∧ (P i = true → f i = g i)) → mxF P f d n = mxF Q g d n
  | 0, _ => rfl
  | n + 1, h => by
    obtain ⟨h1, h2⟩ := h n (by omega)
    unfold mxF
    rw [mxF_cong (P := P) (Q := Q) (f := f) (g := g) (d := d) (n := n) (fun i hi => h i (by omega)), ← h1]
    by_cases hp : P n = true
    · rw [if_pos hp, if_pos hp, h2 hp]
    · rw [if_neg hp, if_neg hp]
/-! the longest way from below: L p = max (base p) (L q + 1) -/
def Lf (A : Nat → Nat → Bool) (base : Nat → Int) : Nat → Nat → Int
  | 0 => base
  | k + 1 => fun p => mxF (A p) (fun q => Lf A base k q + 1) (base p) 10
/-- a rank that goes down along A -/
def RkA (A : Nat → Nat → Bool) (rk : Nat → Nat) : Prop := ∀ p q, q < 10 → A p q = true → rk q < rk p
theorem Lf_stab {A : Nat → Nat → Bool} {base : Nat → Int} {rk : Nat → Nat} (h : RkA A rk) : ∀ k p, rk p < k → Lf A base k p = Lf A base (k + 1) p := by
  intro k
  induction k with
  | zero => intro p hp; omega
  | succ k ih =>
    intro p hp
    show mxF (A p) (fun q => Lf A base k q + 1) (base p) 10 = mxF (A p) (fun q => Lf A base (k + 1) q + 1) (base p) 10
    apply mxF_cong
    intro q hq
    refine ⟨rfl, fun ha => ?_⟩
    have := h p q hq ha
    show Lf A base k q + 1 = Lf A base (k + 1) q + 1
    rw [ih q (by omega)]
def LL (A : Nat → Nat → Bool) (base : Nat → Int) (p : Nat) : Int := Lf A base 10 p
theorem LL_eq {A : Nat → Nat → Bool} {base : Nat → Int} {rk : Nat → Nat} (h : RkA A rk) (h9 : ∀ p, p < 10 → rk p < 10) (p : Nat) (hp : p < 10) : LL A base p = mxF (A p) (fun q => LL A base q + 1) (base p) 10 := by
  unfold LL
  rw [Lf_stab h 10 p (h9 p hp)]
  rfl
theorem LL_b {A : Nat → Nat → Bool} {base : Nat → Int} (p : Nat) : base p ≤ LL A base p := mxF_d _ _ _ _
theorem LL_ge {A : Nat → Nat → Bool} {base : Nat → Int} {rk : Nat → Nat} (h : RkA A rk) (h9 : ∀ p, p < 10 → rk p < 10) {p q : Nat} (hp : p < 10) (hq : q < 10) (ha : A p q = true) : LL A base q + 1 ≤ LL A base p := by
  rw [LL_eq h h9 p hp]
  exact mxF_ge (f := fun q => LL A base q + 1) hq ha
theorem Lf_top {A : Nat → Nat → Bool} {base : Nat → Int} {B : Int} (hb : ∀ p, p < 10 → base p ≤ B) : ∀ k p, p < 10 → Lf A base k p ≤ B + k := by
  intro k
  induction k with
  | zero => intro p hp; have := hb p hp; show base p ≤ B + 0; omega
  | succ k ih =>
    intro p hp
    show mxF (A p) (fun q => Lf A base k q + 1) (base p) 10 ≤ _
    have := hb p hp
    refine mxF_le (by omega) (fun i hi ha => ?_)
    have := ih i hi
    show Lf A base k i + 1 ≤ _
    omega
