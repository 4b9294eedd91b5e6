/-! sums and sets as numbers -/
theorem sm_cong {f g : Nat → Nat} : ∀ {n : Nat}, (∀ i, i < n → f i = g i) → sm f n = sm g n
  | 0, _ => rfl
  | n + 1, h => by
    unfold sm
    rw [sm_cong (fun i hi => h i (by omega)), h n (by omega)]
theorem sm_add {f g : Nat → Nat} : ∀ {n : Nat}, sm (fun i => f i + g i) n = sm f n + sm g n
  | 0 => rfl
  | n + 1 => by
    unfold sm
    rw [sm_add]
    omega
theorem sm_zero {f : Nat → Nat} : ∀ {n : Nat}, (∀ i, i < n → f i = 0) → sm f n = 0
  | 0, _ => rfl
  | n + 1, h => by
    unfold sm
    rw [sm_zero (fun i hi => h i (by omega)), h n (by omega)]
theorem sm_le {f g : Nat → Nat} : ∀ {n : Nat}, (∀ i, i < n → f i ≤ g i) → sm f n ≤ sm g n
  | 0, _ => Nat.le_refl _
  | n + 1, h => by
    unfold sm
    have h1 := sm_le (f := f) (g := g) (n := n) (fun i hi => h i (by omega))
    have h2 := h n (by omega)
    omega
theorem sm_ge {f : Nat → Nat} : ∀ {n i : Nat}, i < n → f i ≤ sm f n
  | 0, _, h => by omega
  | n + 1, i, h => by
    unfold sm
    by_cases e : i = n
    · subst e
      omega
    · have := sm_ge (f := f) (n := n) (i := i) (by omega)
      omega
theorem sm_mulr {f : Nat → Nat} {k : Nat} : ∀ {n : Nat}, sm (fun i => f i * k) n = sm f n * k
  | 0 => by simp [sm]
  | n + 1 => by
    unfold sm
    rw [sm_mulr, Nat.add_mul]
theorem sm_mull {f : Nat → Nat} {k : Nat} : ∀ {n : Nat}, sm (fun i => k * f i) n = k * sm f n
  | 0 => by simp [sm]
  | n + 1 => by
    unfold sm
    rw [sm_mull, Nat.mul_add]
theorem sm_swap {G : Nat → Nat → Nat} {m : Nat} : ∀ {n : Nat}, sm (fun s => sm (fun p => G s p) m) n = sm (fun p => sm (fun s => G s p) n) m
  | 0 => by
    show 0 = _
    exact (sm_zero (fun i _ => rfl)).symm
  | n + 1 => by
    show sm (fun s => sm (fun p => G s p) m) n + sm (fun p => G n p) m = sm (fun p => sm (fun s => G s p) n + G n p) m
    rw [sm_swap, sm_add]
theorem sm_split {f : Nat → Nat} {m : Nat} : ∀ {n : Nat}, sm f (m + n) = sm f m + sm (fun i => f (m + i)) n
  | 0 => rfl
  | n + 1 => by
    show sm f (m + n) + f (m + n) = sm f m + (sm (fun i => f (m + i)) n + f (m + n))
    rw [sm_split]
    omega
theorem sm_pt {f : Nat → Nat} {c : Nat} : ∀ {n : Nat}, c < n → sm f n = sm (fun s => if s = c then 0 else f s) n + f c
  | 0, h => by omega
  | n + 1, h => by
    unfold sm
    by_cases e : c = n
    · subst e
      rw [if_pos rfl]
      have : sm f c = sm (fun s => if s = c then 0 else f s) c := sm_cong (fun i hi => by rw [if_neg (by omega)])
      omega
    · rw [if_neg (fun q => e q.symm), sm_pt (n := n) (c := c) (by omega)]
      omega
theorem sm_cB {f : Nat → Bool} {k : Nat} : ∀ {n : Nat}, sm (fun p => if f p = true then k else 0) n = cB f n * k
  | 0 => by simp [sm, cB]
  | n + 1 => by
    unfold sm cB
    rw [sm_cB]
    by_cases h : f n = true
    · rw [if_pos h, if_pos h, Nat.add_mul, Nat.one_mul]
    · rw [if_neg h, if_neg h]
      rfl
theorem sm_ind {P : Nat → Bool} {k : Nat} : ∀ {n : Nat}, (∀ i j, P i = true → P j = true → i = j) → sm (fun p => if P p = true then k else 0) n = if exB P n = true then k else 0
  | 0, _ => rfl
  | n + 1, h => by
    unfold sm
    rw [sm_ind h]
    show _ = if (exB P n || P n) = true then k else 0
    by_cases h1 : P n = true
    · have : exB P n = false := by
        rw [← Bool.not_eq_true]
        intro q
        obtain ⟨i, hi, h2⟩ := exB_iff.mp q
        have := h i n h2 h1
        omega
      rw [this, h1]
      simp
    · rw [Bool.eq_false_iff.mpr h1]
      simp
/-- one bit more -/
theorem sm_bit {p : Nat} : ∀ (k : Nat) (F : Nat → Nat), p < k → sm (fun s => if s.testBit p = true then F s else 0) (2 ^ k) = sm (fun s => if s.testBit p = true then 0 else F (s + 2 ^ p)) (2 ^ k)
  | 0, _, h => by omega
  | k + 1, F, h => by
    have e : 2 ^ (k + 1) = 2 ^ k + 2 ^ k := by rw [Nat.pow_succ]; omega
    rw [e, sm_split, sm_split]
    by_cases hp : p = k
    · subst hp
      have a1 : sm (fun s => if s.testBit p = true then F s else 0) (2 ^ p) = 0 := sm_zero (fun i hi => by rw [Nat.testBit_lt_two_pow hi]; rfl)
      have a2 : sm (fun i => if (2 ^ p + i).testBit p = true then 0 else F (2 ^ p + i + 2 ^ p)) (2 ^ p) = 0 := sm_zero (fun i hi => by rw [Nat.testBit_two_pow_add_eq, Nat.testBit_lt_two_pow hi]; rfl)
      rw [a1, a2, Nat.zero_add, Nat.add_zero]
      apply sm_cong
      intro i hi
      rw [Nat.testBit_two_pow_add_eq, Nat.testBit_lt_two_pow hi]
      show F (2 ^ p + i) = F (i + 2 ^ p)
      rw [Nat.add_comm]
    · have hp : p < k := by omega
      rw [sm_bit k F hp]
      congr 1
      have := sm_bit k (fun s => F (2 ^ k + s)) hp
      have b1 : sm (fun i => if (2 ^ k + i).testBit p = true then F (2 ^ k + i) else 0) (2 ^ k) = sm (fun s => if s.testBit p = true then F (2 ^ k + s) else 0) (2 ^ k) := sm_cong (fun i hi => by rw [Nat.testBit_two_pow_add_gt hp])
      rw [b1, this]
      apply sm_cong
      intro i hi
      rw [Nat.testBit_two_pow_add_gt hp]
      by_cases q : i.testBit p = true
      · rw [if_pos q, if_pos q]
      · rw [if_neg q, if_neg q, Nat.add_assoc]
theorem bit_or : ∀ t, t < 1024 → ∀ p, p < 10 → t.testBit p = false → t + 2 ^ p = t ||| 2 ^ p ∧ t + 2 ^ p < 1024 := by decide +kernel
theorem bit_sub : ∀ s, s < 1024 → ∀ p, p < 10 → s.testBit p = true → 2 ^ p ≤ s ∧ (s - 2 ^ p).testBit p = false := by decide +kernel
theorem pw_pos (p : Nat) : 0 < 2 ^ p := Nat.two_pow_pos p
theorem bit_add {t p i : Nat} (ht : t < 1024) (hp : p < 10) (h : t.testBit p = false) : (t + 2 ^ p).testBit i = (t.testBit i || decide (i = p)) := by
  rw [(bit_or t ht p hp h).1, Nat.testBit_or, Nat.testBit_two_pow]
  congr 1
  apply decide_eq_decide.mpr
  omega
theorem bit_self {t p : Nat} (ht : t < 1024) (hp : p < 10) (h : t.testBit p = false) : (t + 2 ^ p).testBit p = true := by
  rw [bit_add ht hp h]
  simp
theorem bit_hi {t i : Nat} (ht : t < 1024) (hi : 10 ≤ i) : t.testBit i = false := Nat.testBit_lt_two_pow (Nat.lt_of_lt_of_le ht (Nat.pow_le_pow_right (n := 2) (by omega) hi))
theorem bit_ext {s t : Nat} (hs : s < 1024) (ht : t < 1024) (h : ∀ i, i < 10 → s.testBit i = t.testBit i) : s = t := by
  apply Nat.eq_of_testBit_eq
  intro i
  by_cases hi : i < 10
  · exact h i hi
  · rw [bit_hi hs (by omega), bit_hi ht (by omega)]
theorem nI_bs {s : Nat} (hs : s < 1024) : nI s = bs s.testBit := by
  apply bs_of
  intro i
  by_cases hi : i < 10
  · simp [hi]
  · rw [bit_hi hs (by omega)]
    simp [hi]
theorem bit_le {s t : Nat} (hs : s < 1024) (ht : t < 1024) (h : ∀ i, i < 10 → s.testBit i = true → t.testBit i = true) : s ≤ t := by
  have e : s &&& t = s := by
    apply Nat.eq_of_testBit_eq
    intro i
    rw [Nat.testBit_and]
    by_cases hi : i < 10
    · by_cases q : s.testBit i = true
      · rw [q, h i hi q]
        rfl
      · rw [Bool.eq_false_iff.mpr q]
        rfl
    · rw [bit_hi hs (by omega)]
      rfl
  rw [← e]
  exact Nat.and_le_right
theorem sN_lt (h : Nat → Int32) : sN h < 1024 := bsn_1024 _
theorem sN_bit {h : Nat → Int32} {i : Nat} (hi : i < 10) : (sN h).testBit i = Seen h i := by
  unfold sN
  rw [bsn_bit]
  simp [hi]
/-! the ways -/
theorem Wf_stab {h : Nat → Int32} {mu : Nat → Nat → Bool} : ∀ k s, s ≤ k → s < 1024 → Wf (okM h mu) k s = Wf (okM h mu) (k + 1) s := by
  intro k
  induction k with
  | zero =>
    intro s hs _
    obtain rfl : s = 0 := by omega
    rfl
  | succ k ih =>
    intro s hs h1
    show (if s = 0 then 1 else sm (fun p => if okM h mu s p = true then Wf (okM h mu) k (s - 2 ^ p) else 0) 10) = (if s = 0 then 1 else sm (fun p => if okM h mu s p = true then Wf (okM h mu) (k + 1) (s - 2 ^ p) else 0) 10)
    by_cases e : s = 0
    · rw [if_pos e, if_pos e]
    · rw [if_neg e, if_neg e]
      apply sm_cong
      intro p hp
      by_cases q : okM h mu s p = true
      · rw [if_pos q, if_pos q]
        have := pw_pos p
        exact ih _ (by omega) (by omega)
      · rw [if_neg q, if_neg q]
theorem Wy_0 {h : Nat → Int32} {mu : Nat → Nat → Bool} : Wy h mu 0 = 1 := rfl
theorem Wy_eq {h : Nat → Int32} {mu : Nat → Nat → Bool} {s : Nat} (hs : s < 1024) (h0 : s ≠ 0) : Wy h mu s = sm (fun p => if okM h mu s p = true then Wy h mu (s - 2 ^ p) else 0) 10 := by
  unfold Wy
  rw [Wf_stab 1024 s (by omega) hs]
  show (if s = 0 then 1 else _) = _
  rw [if_neg h0]
theorem ok_iff {h : Nat → Int32} {mu : Nat → Nat → Bool} {s p : Nat} (hs : s < 1024) (hp : p < 10) : okM h mu s p = true ↔ ∃ t, t < 1024 ∧ s = t + 2 ^ p ∧ foM h mu t.testBit p = true := by
  unfold okM
  rw [Bool.and_eq_true]
  constructor
  · rintro ⟨h1, h2⟩
    obtain ⟨h3, h4⟩ := bit_sub s hs p hp h1
    exact ⟨s - 2 ^ p, Nat.lt_of_le_of_lt (Nat.sub_le _ _) hs, by omega, h2⟩
  · rintro ⟨t, h1, rfl, h2⟩
    have h3 : t.testBit p = false := by
      unfold foM at h2
      rw [Bool.and_eq_true, Bool.and_eq_true] at h2
      simpa using h2.1.2
    rw [Nat.add_sub_cancel]
    exact ⟨bit_self h1 hp h3, h2⟩
theorem fo_no {h : Nat → Int32} {mu : Nat → Nat → Bool} {S : Nat → Bool} {p : Nat} (g : foM h mu S p = true) : Seen h p = true ∧ S p = false := by
  unfold foM at g
  rw [Bool.and_eq_true, Bool.and_eq_true] at g
  exact ⟨g.1.1, by simpa using g.1.2⟩
/-- what is come to is seen -/
theorem W_sub {h : Nat → Int32} {mu : Nat → Nat → Bool} : ∀ n s, s < n → s < 1024 → Wy h mu s ≠ 0 → ∀ i, i < 10 → s.testBit i = true → Seen h i = true := by
  intro n
  induction n with
  | zero => intro s h1; omega
  | succ n ih =>
    intro s h1 h2 h3 i hi hb
    by_cases e : s = 0
    · subst e
      simp at hb
    · rw [Wy_eq h2 e] at h3
      have : ∃ p, p < 10 ∧ okM h mu s p = true ∧ Wy h mu (s - 2 ^ p) ≠ 0 := by
        apply Classical.byContradiction
        intro hn
        apply h3
        apply sm_zero
        intro p hp
        by_cases q : okM h mu s p = true
        · rw [if_pos q]
          apply Classical.byContradiction
          intro q2
          exact hn ⟨p, hp, q, q2⟩
        · rw [if_neg q]
      obtain ⟨p, hp, h4, h5⟩ := this
      obtain ⟨t, ht, rfl, h6⟩ := (ok_iff h2 hp).mp h4
      rw [Nat.add_sub_cancel] at h5
      obtain ⟨g1, g2⟩ := fo_no h6
      rw [bit_add ht hp g2, Bool.or_eq_true] at hb
      rcases hb with hb | hb
      · have := pw_pos p
        exact ih t (by omega) ht h5 i hi hb
      · rw [of_decide_eq_true hb]
        exact g1
theorem W_le {h : Nat → Int32} {mu : Nat → Nat → Bool} {s : Nat} (hs : s < 1024) (h0 : Wy h mu s ≠ 0) : s ≤ sN h := bit_le hs (sN_lt h) (fun i hi hb => by rw [sN_bit hi]; exact W_sub _ s (Nat.lt_succ_self _) hs h0 i hi hb)
theorem W_on {h : Nat → Int32} {mu : Nat → Nat → Bool} {s p : Nat} (hs : s < 1024) (hp : p < 10) (g : foM h mu s.testBit p = true) : Wy h mu s ≤ Wy h mu (s + 2 ^ p) := by
  obtain ⟨g1, g2⟩ := fo_no g
  have h1 := (bit_or s hs p hp g2).2
  have := pw_pos p
  rw [Wy_eq h1 (by omega)]
  have hok : okM h mu (s + 2 ^ p) p = true := (ok_iff h1 hp).mpr ⟨s, hs, rfl, g⟩
  have := sm_ge (f := fun q => if okM h mu (s + 2 ^ p) q = true then Wy h mu (s + 2 ^ p - 2 ^ q) else 0) hp
  simp only [if_pos hok, Nat.add_sub_cancel] at this
  exact this
def fct : Nat → Nat
  | 0 => 1
  | n + 1 => (n + 1) * fct n
theorem W_fct {h : Nat → Int32} {mu : Nat → Nat → Bool} : ∀ n s, s < n → s < 1024 → Wy h mu s ≤ fct (cB s.testBit 10) := by
  intro n
  induction n with
  | zero => intro s h1; omega
  | succ n ih =>
    intro s h1 h2
    by_cases e : s = 0
    · subst e
      rw [Wy_0]
      have : cB (Nat.testBit 0) 10 = 0 := by decide
      rw [this]
      exact Nat.le_refl _
    · rw [Wy_eq h2 e]
      by_cases hc : cB s.testBit 10 = 0
      · have : ∀ p, p < 10 → s.testBit p = false := by
          intro p hp
          rw [← Bool.not_eq_true]
          intro q
          have := cB_lt (f := fun _ => false) (g := s.testBit) (n := 10) (k := p) (fun i _ q => by cases q) hp rfl q
          omega
        rw [sm_zero (fun p hp => by
          rw [if_neg]
          unfold okM
          rw [this p hp]
          simp)]
        exact Nat.zero_le _
      · obtain ⟨m, hm⟩ : ∃ m, cB s.testBit 10 = m + 1 := ⟨cB s.testBit 10 - 1, by omega⟩
        have hle : sm (fun p => if okM h mu s p = true then Wy h mu (s - 2 ^ p) else 0) 10 ≤ sm (fun p => if s.testBit p = true then fct m else 0) 10 := by
          apply sm_le
          intro p hp
          by_cases q : okM h mu s p = true
          · have q1 : s.testBit p = true := by
              unfold okM at q
              rw [Bool.and_eq_true] at q
              exact q.1
            rw [if_pos q, if_pos q1]
            obtain ⟨g1, g2⟩ := bit_sub s h2 p hp q1
            have h2' : s - 2 ^ p < 1024 := Nat.lt_of_le_of_lt (Nat.sub_le _ _) h2
            have h3 := ih (s - 2 ^ p) (by have := pw_pos p; omega) h2'
            have h4 := cB_add (f := (s - 2 ^ p).testBit) (x := p) (n := 10) hp g2
            have h5 : (fun i => (s - 2 ^ p).testBit i || (p == i)) = s.testBit := by
              funext i
              have := bit_add (i := i) h2' hp g2
              rw [Nat.sub_add_cancel g1] at this
              rw [this]
              congr 1
              by_cases e2 : i = p
              · subst e2
                simp
              · have e3 : ¬ p = i := fun z => e2 z.symm
                simp [e2, e3]
            rw [h5] at h4
            have h6 : cB (s - 2 ^ p).testBit 10 = m := by omega
            rw [h6] at h3
            exact h3
          · rw [if_neg q]
            exact Nat.zero_le _
        rw [sm_cB, hm] at hle
        rw [hm]
        exact hle
theorem fct_mono : ∀ {m n : Nat}, m ≤ n → fct m ≤ fct n := by
  intro m n h
  induction n with
  | zero =>
    obtain rfl : m = 0 := by omega
    exact Nat.le_refl _
  | succ n ih =>
    by_cases e : m = n + 1
    · rw [e]
      exact Nat.le_refl _
    · have h1 := ih (by omega)
      show fct m ≤ (n + 1) * fct n
      have : fct n ≤ (n + 1) * fct n := Nat.le_mul_of_pos_left _ (by omega)
      omega
theorem W_bd {h : Nat → Int32} {mu : Nat → Nat → Bool} {s : Nat} (hs : s < 1024) : Wy h mu s ≤ 3628800 := by
  have h1 := W_fct (h := h) (mu := mu) _ s (Nat.lt_succ_self _) hs
  have h2 := fct_mono (cB_n s.testBit 10)
  have h3 : fct 10 = 3628800 := by decide
  omega
theorem Wf_le {ok1 ok2 : Nat → Nat → Bool} (hk : ∀ s p, ok1 s p = true → ok2 s p = true) : ∀ k s, Wf ok1 k s ≤ Wf ok2 k s := by
  intro k
  induction k with
  | zero => intro s; exact Nat.le_refl _
  | succ k ih =>
    intro s
    show (if s = 0 then 1 else sm (fun p => if ok1 s p = true then Wf ok1 k (s - 2 ^ p) else 0) 10) ≤ (if s = 0 then 1 else sm (fun p => if ok2 s p = true then Wf ok2 k (s - 2 ^ p) else 0) 10)
    by_cases e : s = 0
    · rw [if_pos e, if_pos e]
      exact Nat.le_refl _
    · rw [if_neg e, if_neg e]
      apply sm_le
      intro p hp
      by_cases q : ok1 s p = true
      · rw [if_pos q, if_pos (hk s p q)]
        exact ih _
      · rw [if_neg q]
        exact Nat.zero_le _
