/-! ways on, and the law of pairs -/
def Ef (h : Nat → Int32) : Nat → Nat → Nat
  | 0 => fun s => if s = sN h then 1 else 0
  | k + 1 => fun s => if s = sN h then 1 else sm (fun p => if fo h s.testBit p = true then Ef h k (s + 2 ^ p) else 0) 10
def Ey (h : Nat → Int32) (s : Nat) : Nat := Ef h 1024 s
theorem fo_M {h : Nat → Int32} {S : Nat → Bool} {p : Nat} : fo h S p = foM h (Ah h) S p := rfl
theorem fo_sN {h : Nat → Int32} {p : Nat} (hp : p < 10) : fo h (sN h).testBit p = false := by
  rw [← Bool.not_eq_true]
  intro g
  obtain ⟨g1, g2⟩ := fo_no (mu := Ah h) g
  rw [sN_bit hp, g1] at g2
  cases g2
theorem fo_out {h : Nat → Int32} {s p : Nat} (hp : p < 10) (hs : s < 1024) (g : fo h s.testBit p = true) : s + 2 ^ p < 1024 ∧ s < s + 2 ^ p := ⟨(bit_or s hs p hp (fo_no (mu := Ah h) g).2).2, by have := pw_pos p; omega⟩
theorem Ef_stab {h : Nat → Int32} : ∀ k s, 1024 ≤ s + k → s < 1024 → Ef h k s = Ef h (k + 1) s := by
  intro k
  induction k with
  | zero => intro s h1 h2; omega
  | succ k ih =>
    intro s h1 h2
    show (if s = sN h then 1 else sm (fun p => if fo h s.testBit p = true then Ef h k (s + 2 ^ p) else 0) 10) = (if s = sN h then 1 else sm (fun p => if fo h s.testBit p = true then Ef h (k + 1) (s + 2 ^ p) else 0) 10)
    by_cases e : s = sN h
    · rw [if_pos e, if_pos e]
    · rw [if_neg e, if_neg e]
      apply sm_cong
      intro p hp
      by_cases q : fo h s.testBit p = true
      · rw [if_pos q, if_pos q]
        obtain ⟨g1, g2⟩ := fo_out hp h2 q
        exact ih _ (by omega) g1
      · rw [if_neg q, if_neg q]
theorem Ey_N {h : Nat → Int32} : Ey h (sN h) = 1 := by
  unfold Ey
  show (if sN h = sN h then 1 else _) = 1
  rw [if_pos rfl]
theorem Ey_eq {h : Nat → Int32} {s : Nat} (hs : s < 1024) (h0 : s ≠ sN h) : Ey h s = sm (fun p => if fo h s.testBit p = true then Ey h (s + 2 ^ p) else 0) 10 := by
  unfold Ey
  rw [Ef_stab 1024 s (by omega) hs]
  show (if s = sN h then 1 else _) = _
  rw [if_neg h0]
theorem fo_mu2 {h : Nat → Int32} {a b p : Nat} {S : Nat → Bool} (ha : a < 10) : foM h (mu2 h a b) S p = (fo h S p && (!decide (p = b) || S a)) := by
  have key : exB (fun q => mu2 h a b p q && !S q) 10 = (exB (fun q => Ah h p q && !S q) 10 || (decide (p = b) && !S a)) := by
    rw [Bool.eq_iff_iff, Bool.or_eq_true]
    constructor
    · intro g
      obtain ⟨q, hq, g⟩ := exB_iff.mp g
      unfold mu2 at g
      rw [Bool.and_eq_true, Bool.or_eq_true] at g
      rcases g with ⟨g | g, g2⟩
      · exact Or.inl (exB_iff.mpr ⟨q, hq, by rw [g, g2]; rfl⟩)
      · rw [Bool.and_eq_true] at g
        have e1 := of_decide_eq_true g.2
        subst e1
        exact Or.inr (by rw [g.1, g2]; rfl)
    · rintro (g | g)
      · obtain ⟨q, hq, g⟩ := exB_iff.mp g
        rw [Bool.and_eq_true] at g
        exact exB_iff.mpr ⟨q, hq, by unfold mu2; rw [g.1, g.2]; rfl⟩
      · rw [Bool.and_eq_true] at g
        refine exB_iff.mpr ⟨a, ha, ?_⟩
        unfold mu2
        rw [g.1, g.2]
        simp
  unfold foM fo
  rw [key]
  cases Seen h p <;> cases S p <;> cases exB (fun q => Ah h p q && !S q) 10 <;> cases decide (p = b) <;> cases S a <;> rfl
/-- without b the pair's must changes nothing -/
theorem U_W {h : Nat → Int32} {a b : Nat} (ha : a < 10) (hb : b < 10) : ∀ n s, s < n → s < 1024 → s.testBit b = false → Wy h (mu2 h a b) s = Wy h (Ah h) s := by
  intro n
  induction n with
  | zero => intro s h1; omega
  | succ n ih =>
    intro s h1 h2 h3
    by_cases e : s = 0
    · subst e
      rw [Wy_0, Wy_0]
    · rw [Wy_eq h2 e, Wy_eq h2 e]
      apply sm_cong
      intro p hp
      by_cases hs : s.testBit p = true
      · have hpb : p ≠ b := by
          intro q
          rw [q, h3] at hs
          cases hs
        obtain ⟨g1, g2⟩ := bit_sub s h2 p hp hs
        have h2' : s - 2 ^ p < 1024 := Nat.lt_of_le_of_lt (Nat.sub_le _ _) h2
        have e1 : okM h (mu2 h a b) s p = okM h (Ah h) s p := by
          unfold okM
          rw [fo_mu2 ha, decide_eq_false hpb, fo_M]
          simp
        rw [e1]
        by_cases q : okM h (Ah h) s p = true
        · rw [if_pos q, if_pos q]
          refine ih _ (by have := pw_pos p; omega) h2' ?_
          have h4 := bit_add (i := b) h2' hp g2
          rw [Nat.sub_add_cancel g1, h3] at h4
          have h5 := h4.symm
          rw [Bool.or_eq_false_iff] at h5
          exact h5.1
        · rw [if_neg q, if_neg q]
      · have n1 : ∀ mu, okM h mu s p = false := by
          intro mu
          unfold okM
          rw [Bool.eq_false_iff.mpr hs]
          rfl
        rw [n1, n1, if_neg (by decide), if_neg (by decide)]
def tP (h : Nat → Int32) (a b s : Nat) : Nat := if (s.testBit a && fo h s.testBit b) = true then Wy h (Ah h) s * Ey h (s + 2 ^ b) else 0
theorem pair_law {h : Nat → Int32} {a b : Nat} (ha : a < 10) (hb : b < 10) (hsb : Seen h b = true) : Wy h (mu2 h a b) (sN h) = sm (tP h a b) 1024 := by
  have s1 : sm (fun s => if s.testBit b = true then Wy h (mu2 h a b) s * Ey h s else 0) 1024 = sm (fun s => sm (fun p => if s.testBit p = true then (if (s.testBit b && foM h (mu2 h a b) (s - 2 ^ p).testBit p) = true then Wy h (mu2 h a b) (s - 2 ^ p) * Ey h s else 0) else 0) 10) 1024 := by
    apply sm_cong
    intro s hs
    by_cases q : s.testBit b = true
    · have h0 : s ≠ 0 := by
        intro e
        rw [e] at q
        simp at q
      rw [if_pos q, Wy_eq hs h0, ← sm_mulr]
      apply sm_cong
      intro p hp
      unfold okM
      cases s.testBit p
      · simp
      · rw [q]
        cases foM h (mu2 h a b) (s - 2 ^ p).testBit p
        · simp
        · simp
    · rw [if_neg q]
      refine (sm_zero (fun p hp => ?_)).symm
      rw [Bool.eq_false_iff.mpr q]
      simp
  have s2 : ∀ p, p < 10 → sm (fun s => if s.testBit p = true then (if (s.testBit b && foM h (mu2 h a b) (s - 2 ^ p).testBit p) = true then Wy h (mu2 h a b) (s - 2 ^ p) * Ey h s else 0) else 0) 1024 = sm (fun s => (if (s.testBit b && fo h s.testBit p) = true then Wy h (mu2 h a b) s * Ey h (s + 2 ^ p) else 0) + (if p = b then tP h a b s else 0)) 1024 := by
    intro p hp
    have := sm_bit (p := p) 10 (fun s => if (s.testBit b && foM h (mu2 h a b) (s - 2 ^ p).testBit p) = true then Wy h (mu2 h a b) (s - 2 ^ p) * Ey h s else 0) hp
    have e10 : 2 ^ 10 = 1024 := by decide
    rw [e10] at this
    rw [this]
    apply sm_cong
    intro s hs
    by_cases q : s.testBit p = true
    · rw [if_pos q]
      have hf : fo h s.testBit p = false := by
        rw [← Bool.not_eq_true]
        intro g
        rw [(fo_no (mu := Ah h) g).2] at q
        cases q
      rw [hf, Bool.and_false]
      by_cases e : p = b
      · rw [if_pos e]
        unfold tP
        rw [← e, hf]
        simp
      · rw [if_neg e]
        rfl
    · rw [if_neg q, Nat.add_sub_cancel]
      have q' := Bool.eq_false_iff.mpr q
      rw [bit_add hs hp q', fo_mu2 ha]
      by_cases e : p = b
      · subst e
        rw [if_pos rfl, q']
        unfold tP
        rw [U_W ha hb _ s (Nat.lt_succ_self _) hs q']
        cases fo h s.testBit p <;> cases s.testBit a <;> simp
      · have e2 : ¬ b = p := fun z => e z.symm
        rw [if_neg e, decide_eq_false e, decide_eq_false e2]
        cases s.testBit b <;> cases fo h s.testBit p <;> simp
  have s3 : sm (fun s => sm (fun p => if s.testBit p = true then (if (s.testBit b && foM h (mu2 h a b) (s - 2 ^ p).testBit p) = true then Wy h (mu2 h a b) (s - 2 ^ p) * Ey h s else 0) else 0) 10) 1024 = sm (fun s => sm (fun p => if (s.testBit b && fo h s.testBit p) = true then Wy h (mu2 h a b) s * Ey h (s + 2 ^ p) else 0) 10) 1024 + sm (tP h a b) 1024 := by
    rw [sm_swap, sm_cong s2]
    rw [← sm_swap (G := fun s p => (if (s.testBit b && fo h s.testBit p) = true then Wy h (mu2 h a b) s * Ey h (s + 2 ^ p) else 0) + (if p = b then tP h a b s else 0)), ← sm_add]
    apply sm_cong
    intro s hs
    rw [sm_add]
    congr 1
    rw [sm_pt (c := b) hb, if_pos rfl, sm_zero (fun p hp => by
      by_cases e : p = b
      · rw [if_pos e]
      · rw [if_neg e, if_neg e]), Nat.zero_add]
  have s4 : sm (fun s => sm (fun p => if (s.testBit b && fo h s.testBit p) = true then Wy h (mu2 h a b) s * Ey h (s + 2 ^ p) else 0) 10) 1024 = sm (fun s => if s = sN h then 0 else if s.testBit b = true then Wy h (mu2 h a b) s * Ey h s else 0) 1024 := by
    apply sm_cong
    intro s hs
    by_cases e : s = sN h
    · rw [if_pos e]
      apply sm_zero
      intro p hp
      rw [e, fo_sN hp, Bool.and_false]
      rfl
    · rw [if_neg e]
      by_cases q : s.testBit b = true
      · rw [if_pos q, Ey_eq hs e, ← sm_mull]
        apply sm_cong
        intro p hp
        rw [q]
        cases fo h s.testBit p <;> simp
      · rw [if_neg q]
        apply sm_zero
        intro p hp
        rw [Bool.eq_false_iff.mpr q]
        rfl
  have s5 := sm_pt (f := fun s => if s.testBit b = true then Wy h (mu2 h a b) s * Ey h s else 0) (sN_lt h)
  simp only [sN_bit hb, hsb, if_true, Ey_N, Nat.mul_one] at s5
  omega
/-- beyond all there is nothing -/
theorem tP_N {h : Nat → Int32} {a b s : Nat} (hb : b < 10) (hs : s < 1024) (hN : sN h ≤ s) : tP h a b s = 0 := by
  unfold tP
  by_cases e : Wy h (Ah h) s = 0
  · rw [e]
    simp
  · have := W_le hs e
    have : s = sN h := by omega
    rw [this, fo_sN hb]
    simp
theorem tP_all {h : Nat → Int32} {a b : Nat} (hb : b < 10) : sm (tP h a b) 1024 = sm (tP h a b) (sN h) := by
  have := sN_lt h
  obtain ⟨k, hk⟩ : ∃ k, 1024 = sN h + k := ⟨1024 - sN h, by omega⟩
  rw [hk, sm_split, sm_zero (f := fun i => tP h a b (sN h + i)) (fun i hi => tP_N hb (by omega) (by omega)), Nat.add_zero]
/-- there is an order, where there is no ring -/
def gN (g : Nat → Nat) : Nat → Nat
  | 0 => 0
  | n + 1 => gN g n + 2 ^ g n
theorem ord_W {h : Nat → Int32} {m : Nat} {g : Nat → Nat} (hO : OrdG h m g) : ∀ i, i ≤ m → gN g i < 1024 ∧ (∀ q, (gN g i).testBit q = gG g i q) ∧ 1 ≤ Wy h (Ah h) (gN g i) := by
  intro i
  induction i with
  | zero =>
    intro _
    refine ⟨by show 0 < 1024; omega, fun q => ?_, by show 1 ≤ Wy h (Ah h) 0; rw [Wy_0]; exact Nat.le_refl 1⟩
    show Nat.testBit 0 q = false
    simp
  | succ i ih =>
    intro hi
    obtain ⟨h1, h2, h3⟩ := ih (by omega)
    obtain ⟨L1, L2, L3⟩ := hO.2.1 i (by omega)
    have e : (gN g i).testBit = gG g i := funext h2
    have L2' : foM h (Ah h) (gN g i).testBit (g i) = true := by
      rw [e]
      exact L2
    have hno := (fo_no L2').2
    refine ⟨(bit_or _ h1 _ L1 hno).2, fun q => ?_, ?_⟩
    · show (gN g i + 2 ^ g i).testBit q = (gG g i q || (g i == q))
      rw [bit_add h1 L1 hno, h2]
      congr 1
      by_cases e2 : q = g i
      · subst e2
        simp
      · have e3 : ¬ g i = q := fun z => e2 z.symm
        simp [e2, e3]
    · have := W_on h1 L1 L2'
      show 1 ≤ Wy h (Ah h) (gN g i + 2 ^ g i)
      omega
theorem W_one {h : Nat → Int32} (hv : HV h) (hn : NoRing h) {m : Nat} {g : Nat → Nat} (hO : OrdG h m g) : 1 ≤ Wy h (Ah h) (sN h) := by
  obtain ⟨h1, h2, h3⟩ := ord_W hO m (Nat.le_refl _)
  have : gN g m = sN h := by
    apply bit_ext h1 (sN_lt h)
    intro i hi
    rw [h2, sN_bit hi]
    exact bs_inj (ord_seen hv hn hO) i hi
  rw [← this]
  exact h3
theorem U_le {h : Nat → Int32} {a b : Nat} (ha : a < 10) (s : Nat) : Wy h (mu2 h a b) s ≤ Wy h (Ah h) s := by
  apply Wf_le
  intro s p g
  unfold okM at g ⊢
  rw [Bool.and_eq_true] at g ⊢
  refine ⟨g.1, ?_⟩
  have g2 := g.2
  rw [fo_mu2 ha, Bool.and_eq_true] at g2
  exact g2.1
