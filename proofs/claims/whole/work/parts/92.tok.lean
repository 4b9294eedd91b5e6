/-! tokens -/
theorem wb_tb (n : Nat) : (lN n).toBitVec = BitVec.ofNat 64 n := rfl
theorem wb_inj {a b : Int64} (h : a.toBitVec = b.toBitVec) : a = b := Int64.toBitVec_inj.mp h
theorem wb_c : ∀ k, k < 64 → ((nI k).toInt64 &&& 63) = lN k := by decide +kernel
theorem wb_sm : ∀ k, k < 64 → (BitVec.ofNat 64 k).smod 64 = BitVec.ofNat 64 k := by decide +kernel
theorem wb_shl (n : Nat) {k : Nat} (hk : k < 64) : lN n <<< ((nI k).toInt64 &&& 63) = lN (n * 2 ^ k) := by
  rw [wb_c k hk]
  apply wb_inj
  rw [Int64.toBitVec_shiftLeft, wb_tb, wb_tb, wb_tb, wb_sm k hk]
  apply BitVec.eq_of_toNat_eq
  rw [BitVec.shiftLeft_eq', BitVec.toNat_shiftLeft, BitVec.toNat_ofNat, BitVec.toNat_ofNat, BitVec.toNat_ofNat, Nat.mod_eq_of_lt (show k < 2 ^ 64 by omega), Nat.shiftLeft_eq, Nat.mul_mod, Nat.mod_mod, ← Nat.mul_mod]
theorem wb_or {a b : Nat} (ha : a < 2 ^ 64) (hb : b < 2 ^ 64) : lN a ||| lN b = lN (a ||| b) := by
  apply wb_inj
  rw [Int64.toBitVec_or, wb_tb, wb_tb, wb_tb]
  apply BitVec.eq_of_toNat_eq
  rw [BitVec.toNat_or, BitVec.toNat_ofNat, BitVec.toNat_ofNat, BitVec.toNat_ofNat, Nat.mod_eq_of_lt ha, Nat.mod_eq_of_lt hb, Nat.mod_eq_of_lt (Nat.or_lt_two_pow ha hb)]
def isBl (c : Nat) : Bool := decide (c = 32 ∨ c = 10)
def isLe (c : Nat) : Bool := decide (97 ≤ c ∧ c ≤ 122)
def isFg (c : Nat) : Bool := decide (48 ≤ c ∧ c ≤ 57)
def scn (P : Nat → Bool) (t : Nat → Nat) : Nat → Nat → Nat
  | 0, i => i
  | k + 1, i => if P (t i) = true then scn P t k (i + 1) else i
def scan (n : Nat) (P : Nat → Bool) (t : Nat → Nat) (i : Nat) : Nat := scn P t (n - i) i
theorem scan_y {n : Nat} {P : Nat → Bool} {t : Nat → Nat} {i : Nat} (hi : i < n) (h : P (t i) = true) : scan n P t i = scan n P t (i + 1) := by
  unfold scan
  rw [show n - i = (n - (i + 1)) + 1 by omega]
  show (if P (t i) = true then _ else _) = _
  rw [if_pos h]
theorem scan_f {n : Nat} {P : Nat → Bool} {t : Nat → Nat} {i : Nat} (h : ¬ P (t i) = true) : scan n P t i = i := by
  unfold scan
  cases n - i with
  | zero => rfl
  | succ k =>
    show (if P (t i) = true then _ else _) = _
    rw [if_neg h]
theorem scan_e {n : Nat} {P : Nat → Bool} {t : Nat → Nat} {i : Nat} (h : n ≤ i) : scan n P t i = i := by
  unfold scan
  rw [show n - i = 0 by omega]
  rfl
theorem scan_in {n : Nat} {P : Nat → Bool} {t : Nat → Nat} : ∀ (k i : Nat), k = n - i → i ≤ n → i ≤ scan n P t i ∧ scan n P t i ≤ n ∧ (∀ j, i ≤ j → j < scan n P t i → P (t j) = true) ∧ (scan n P t i < n → ¬ P (t (scan n P t i)) = true) := by
  intro k
  induction k with
  | zero =>
    intro i hk hi
    rw [scan_e (by omega)]
    exact ⟨Nat.le_refl _, hi, fun j h1 h2 => by omega, fun h => by omega⟩
  | succ k ih =>
    intro i hk hi
    by_cases q : P (t i) = true
    · obtain ⟨a1, a2, a3, a4⟩ := ih (i + 1) (by omega) (by omega)
      rw [scan_y (by omega) q]
      refine ⟨by omega, a2, fun j h1 h2 => ?_, a4⟩
      by_cases e : j = i
      · rw [e]; exact q
      · exact a3 j (by omega) h2
    · rw [scan_f q]
      exact ⟨Nat.le_refl _, hi, fun j h1 h2 => by omega, fun _ => q⟩
def tk (n : Nat) (t : Nat → Nat) (e : Nat) : Nat × Nat × Nat :=
  if scan n isBl t e < n then
    (if isLe (t (scan n isBl t e)) = true then (scan n isBl t e, scan n isLe t (scan n isBl t e + 1), 1)
     else if isFg (t (scan n isBl t e)) = true then (scan n isBl t e, scan n isFg t (scan n isBl t e + 1), if scan n isFg t (scan n isBl t e + 1) - scan n isBl t e ≤ 4 then 2 else 4)
     else (scan n isBl t e, scan n isBl t e + 1, if t (scan n isBl t e) = 59 then 3 else 4))
  else (scan n isBl t e, scan n isBl t e, 0)
/-- a token, as it is found -/
def TkI (n : Nat) (t : Nat → Nat) (b e s : Nat) : Prop := b ≤ e ∧ e ≤ n ∧ s ≤ 4 ∧ (s = 0 → b = n ∧ e = n) ∧ (s ≠ 0 → b < e) ∧ (s = 1 → ∀ j, b ≤ j → j < e → isLe (t j) = true) ∧ (s = 2 → (∀ j, b ≤ j → j < e → isFg (t j) = true) ∧ e - b ≤ 4)
theorem tk_in {n : Nat} {t : Nat → Nat} {e : Nat} (he : e ≤ n) : e ≤ (tk n t e).1 ∧ TkI n t (tk n t e).1 (tk n t e).2.1 (tk n t e).2.2 := by
  obtain ⟨a1, a2, a3, a4⟩ := scan_in (P := isBl) (t := t) _ e rfl he
  unfold tk
  generalize scan n isBl t e = b at a1 a2 a3 a4
  by_cases hb : b < n
  · rw [if_pos hb]
    by_cases h1 : isLe (t b) = true
    · rw [if_pos h1]
      obtain ⟨b1, b2, b3, b4⟩ := scan_in (P := isLe) (t := t) _ (b + 1) rfl (show b + 1 ≤ n by omega)
      refine ⟨a1, (by show b ≤ scan n isLe t (b + 1); omega), b2, by show 1 ≤ 4; omega, fun q => (by cases q), fun _ => (by show b < scan n isLe t (b + 1); omega), fun _ j h2 h3 => ?_, fun q => (by cases q)⟩
      have h2 : b ≤ j := h2
      by_cases e : j = b
      · rw [e]; exact h1
      · exact b3 j (by omega) h3
    · rw [if_neg h1]
      by_cases h2 : isFg (t b) = true
      · rw [if_pos h2]
        obtain ⟨b1, b2, b3, b4⟩ := scan_in (P := isFg) (t := t) _ (b + 1) rfl (show b + 1 ≤ n by omega)
        generalize scan n isFg t (b + 1) = e2 at b1 b2 b3 b4
        by_cases h4 : e2 - b ≤ 4
        · rw [if_pos h4]
          refine ⟨a1, by show b ≤ e2; omega, b2, by show 2 ≤ 4; omega, fun q => (by cases q), fun _ => by show b < e2; omega, fun q => (by cases q), fun _ => ⟨fun j h5 h6 => ?_, h4⟩⟩
          have h5 : b ≤ j := h5
          by_cases e : j = b
          · rw [e]; exact h2
          · exact b3 j (by omega) h6
        · rw [if_neg h4]
          exact ⟨a1, by show b ≤ e2; omega, b2, by show 4 ≤ 4; omega, fun q => (by cases q), fun _ => by show b < e2; omega, fun q => (by cases q), fun q => (by cases q)⟩
      · rw [if_neg h2]
        by_cases h3 : t b = 59
        · rw [if_pos h3]
          exact ⟨a1, by show b ≤ b + 1; omega, by show b + 1 ≤ n; omega, by show 3 ≤ 4; omega, fun q => (by cases q), fun _ => by show b < b + 1; omega, fun q => (by cases q), fun q => (by cases q)⟩
        · rw [if_neg h3]
          exact ⟨a1, by show b ≤ b + 1; omega, by show b + 1 ≤ n; omega, by show 4 ≤ 4; omega, fun q => (by cases q), fun _ => by show b < b + 1; omega, fun q => (by cases q), fun q => (by cases q)⟩
  · rw [if_neg hb]
    exact ⟨a1, Nat.le_refl _, a2, by show 0 ≤ 4; omega, fun _ => ⟨by show b = n; omega, by show b = n; omega⟩, fun q => absurd rfl q, fun q => (by cases q), fun q => (by cases q)⟩
def vl (t : Nat → Nat) (b : Nat) : Nat → Nat
  | 0 => 0
  | k + 1 => 10 * vl t b k + (t (b + k) - 48)
theorem vl_lt {t : Nat → Nat} {b : Nat} : ∀ {k : Nat}, (∀ j, j < k → isFg (t (b + j)) = true) → vl t b k < 10 ^ k := by
  intro k
  induction k with
  | zero => intro _; show 0 < 1; omega
  | succ k ih =>
    intro h
    have h1 := ih (fun j hj => h j (by omega))
    have h2 := of_decide_eq_true (h k (by omega))
    show 10 * vl t b k + (t (b + k) - 48) < 10 ^ (k + 1)
    rw [Nat.pow_succ]
    omega
/-! the state of reading: begin, end, sort, fault, its place -/
abbrev PS : Type := Nat × Nat × Nat × Nat × Nat
def sb (S : PS) : Nat := S.1
def se (S : PS) : Nat := S.2.1
def ss (S : PS) : Nat := S.2.2.1
def sf (S : PS) : Nat := S.2.2.2.1
def sl (S : PS) : Nat := S.2.2.2.2
def nx (n : Nat) (t : Nat → Nat) (S : PS) : PS := ((tk n t (se S)).1, (tk n t (se S)).2.1, (tk n t (se S)).2.2, sf S, sl S)
def fl (k : Nat) (S : PS) : PS := if sf S = 0 then (sb S, se S, ss S, k, sb S) else S
def nuv (t : Nat → Nat) (S : PS) : Nat := vl t (sb S) (se S - sb S)
def nu (n : Nat) (t : Nat → Nat) (lo hi : Nat) (S : PS) : PS := if sf S = 0 then (if ss S = 2 then (if lo ≤ nuv t S ∧ nuv t S ≤ hi then nx n t S else fl 2 S) else fl 1 S) else S
def sc (n : Nat) (t : Nat → Nat) (S : PS) : PS := if sf S = 0 then (if ss S = 3 then nx n t S else fl 1 S) else S
def WS (n : Nat) (t : Nat → Nat) (S : PS) : Prop := TkI n t (sb S) (se S) (ss S) ∧ sf S ≤ 3
theorem WS_nx {n : Nat} {t : Nat → Nat} {S : PS} (h : WS n t S) : WS n t (nx n t S) ∧ sb S ≤ sb (nx n t S) ∧ se S ≤ sb (nx n t S) := by
  have h1 := tk_in (t := t) h.1.2.1
  have h2 := h.1.1
  refine ⟨⟨h1.2, h.2⟩, ?_, h1.1⟩
  have : se S ≤ sb (nx n t S) := h1.1
  omega
theorem WS_fl {n : Nat} {t : Nat → Nat} {S : PS} {k : Nat} (hk : k ≤ 3) (h : WS n t S) : WS n t (fl k S) ∧ sb (fl k S) = sb S := by
  unfold fl
  by_cases q : sf S = 0
  · rw [if_pos q]
    exact ⟨⟨h.1, hk⟩, rfl⟩
  · rw [if_neg q]
    exact ⟨h, rfl⟩
theorem WS_nu {n : Nat} {t : Nat → Nat} {S : PS} {lo hi : Nat} (h : WS n t S) : WS n t (nu n t lo hi S) ∧ sb S ≤ sb (nu n t lo hi S) := by
  unfold nu
  by_cases q : sf S = 0
  · rw [if_pos q]
    by_cases q2 : ss S = 2
    · rw [if_pos q2]
      by_cases q3 : lo ≤ nuv t S ∧ nuv t S ≤ hi
      · rw [if_pos q3]
        exact ⟨(WS_nx h).1, (WS_nx h).2.1⟩
      · rw [if_neg q3]
        have := WS_fl (k := 2) (by omega) h
        exact ⟨this.1, by rw [this.2]; exact Nat.le_refl _⟩
    · rw [if_neg q2]
      have := WS_fl (k := 1) (by omega) h
      exact ⟨this.1, by rw [this.2]; exact Nat.le_refl _⟩
  · rw [if_neg q]
    exact ⟨h, Nat.le_refl _⟩
theorem WS_sc {n : Nat} {t : Nat → Nat} {S : PS} (h : WS n t S) : WS n t (sc n t S) ∧ sb S ≤ sb (sc n t S) := by
  unfold sc
  by_cases q : sf S = 0
  · rw [if_pos q]
    by_cases q2 : ss S = 3
    · rw [if_pos q2]
      exact ⟨(WS_nx h).1, (WS_nx h).2.1⟩
    · rw [if_neg q2]
      have := WS_fl (k := 1) (by omega) h
      exact ⟨this.1, by rw [this.2]; exact Nat.le_refl _⟩
  · rw [if_neg q]
    exact ⟨h, Nat.le_refl _⟩
theorem nuv_lt {n : Nat} {t : Nat → Nat} {S : PS} (h : WS n t S) (h2 : ss S = 2) : nuv t S < 10000 := by
  obtain ⟨a1, a2⟩ := h.1.2.2.2.2.2.2 h2
  have := vl_lt (t := t) (b := sb S) (k := se S - sb S) (fun j hj => a1 _ (by omega) (by omega))
  have h3 : 10 ^ (se S - sb S) ≤ 10 ^ 4 := Nat.pow_le_pow_right (by omega) a2
  unfold nuv
  omega
/-- what was read, where there is no fault behind it -/
theorem nu_ok {n : Nat} {t : Nat → Nat} {S : PS} {lo hi : Nat} (h : sf (nu n t lo hi S) = 0) : sf S = 0 ∧ ss S = 2 ∧ lo ≤ nuv t S ∧ nuv t S ≤ hi := by
  unfold nu at h
  by_cases q : sf S = 0
  · rw [if_pos q] at h
    refine ⟨q, ?_⟩
    by_cases q2 : ss S = 2
    · rw [if_pos q2] at h
      refine ⟨q2, ?_⟩
      by_cases q3 : lo ≤ nuv t S ∧ nuv t S ≤ hi
      · exact q3
      · rw [if_neg q3] at h
        unfold fl at h
        rw [if_pos q] at h
        cases h
    · rw [if_neg q2] at h
      unfold fl at h
      rw [if_pos q] at h
      cases h
  · rw [if_neg q] at h
    exact absurd h q
theorem sc_ok {n : Nat} {t : Nat → Nat} {S : PS} (h : sf (sc n t S) = 0) : sf S = 0 := by
  unfold sc at h
  by_cases q : sf S = 0
  · exact q
  · rw [if_neg q] at h
    exact h
/-! names -/
def nmL : List Nat := [4, 5, 6, 5, 5, 4, 4, 5]
def nmB (t : Nat → Nat) (S : PS) (i : Nat) : Prop := ss S = 1 ∧ se S - sb S = am_sl.getD i 0 ∧ ∀ k, k < am_sl.getD i 0 → nI (t (sb S + k)) = (am_sb.getD i []).getD k 0
def v8 (t : Nat → Nat) (b : Nat) : Nat → Nat
  | 0 => 0
  | k + 1 => 256 * v8 t b k + t (b + k)
def nmC : Nat → Nat
  | 0 => 2002873452 | 1 => 482671093106 | 2 => 127978992397940 | 3 => 482854660462 | 4 => 495873781104 | 5 => 1852143475 | 6 => 1919251316 | _ => 482670636660
def nmV (t : Nat → Nat) (S : PS) : Nat := if ss S = 1 ∧ se S - sb S < 8 then v8 t (sb S) (se S - sb S) else 0
