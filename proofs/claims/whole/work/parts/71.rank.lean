/-! ranks, where there is no ring -/
theorem Ah_in {h : Nat → Int32} (hv : HV h) {p q : Nat} (ha : Ah h p q = true) : p < nP h ∧ q < nP h ∧ Seen h p = true ∧ Seen h q = true := by
  obtain ⟨s, hs, h1⟩ := exB_iff.mp ha
  obtain ⟨k, hk, h2⟩ := exB_iff.mp h1
  rw [Bool.and_eq_true] at h2
  have e1 : ly h s (k + 1) = p := by simpa using h2.1
  have e2 : ly h s k = q := by simpa using h2.2
  have hl := (hv.2.2.2.2.2.2.2 s hs).2.2.2.2.2
  refine ⟨?_, ?_, ?_, ?_⟩
  · rw [← e1]; exact (hl (k + 1) (by omega)).2
  · rw [← e2]; exact (hl k (by omega)).2
  · exact exB_iff.mpr ⟨s, hs, exB_iff.mpr ⟨k + 1, by omega, by simpa using e1⟩⟩
  · exact exB_iff.mpr ⟨s, hs, exB_iff.mpr ⟨k, by omega, by simpa using e2⟩⟩
theorem Seen_in {h : Nat → Int32} (hv : HV h) {p : Nat} (ha : Seen h p = true) : p < nP h := by
  obtain ⟨s, hs, h1⟩ := exB_iff.mp ha
  obtain ⟨k, hk, h2⟩ := exB_iff.mp h1
  have e1 : ly h s k = p := by simpa using h2
  rw [← e1]
  exact ((hv.2.2.2.2.2.2.2 s hs).2.2.2.2.2 k hk).2
def rkD (h : Nat → Int32) (p : Nat) : Nat := cB (Su h p) 10
def rkU (h : Nat → Int32) (p : Nat) : Nat := cB (fun s => Su h s p) 10
theorem Ah_Su {h : Nat → Int32} {p q : Nat} (ha : Ah h p q = true) : Su h p q = true := wsh_le (m := 0) (by omega) ha
theorem rkD_ok {h : Nat → Int32} (hn : NoRing h) : RkA (Ah h) (rkD h) := by
  intro p q hq ha
  exact cB_lt (fun i hi g => wsh_tr hq (Ah_Su ha) g) hq (hn q hq) (Ah_Su ha)
theorem rkU_ok {h : Nat → Int32} (hn : NoRing h) : RkA (fun a b => Ah h b a) (rkU h) := by
  intro p q hq ha
  have ha : Ah h q p = true := ha
  exact cB_lt (f := fun s => Su h s q) (g := fun s => Su h s p) (fun i hi g => wsh_tr (k := q) hq g (Ah_Su ha)) hq (hn q hq) (Ah_Su ha)
theorem cB_all : cB (fun _ => true) 10 = 10 := by decide
theorem rkD_10 {h : Nat → Int32} (hn : NoRing h) (p : Nat) (hp : p < 10) : rkD h p < 10 := by
  have := cB_lt (f := Su h p) (g := fun _ => true) (fun i hi _ => rfl) hp (hn p hp) rfl
  rw [cB_all] at this
  exact this
theorem rkU_10 {h : Nat → Int32} (hn : NoRing h) (p : Nat) (hp : p < 10) : rkU h p < 10 := by
  have := cB_lt (f := fun s => Su h s p) (g := fun _ => true) (fun i hi _ => rfl) hp (hn p hp) rfl
  rw [cB_all] at this
  exact this
theorem YL_eq {h : Nat → Int32} (hn : NoRing h) (p : Nat) (hp : p < 10) : YL h p = mxF (Ah h p) (fun q => YL h q + 1) (bL h p) 10 := LL_eq (rkD_ok hn) (rkD_10 hn) p hp
theorem YU_eq {h : Nat → Int32} (hn : NoRing h) (p : Nat) (hp : p < 10) : YU h p = - mxF (fun s => Ah h s p) (fun s => - YU h s + 1) (- cap h p) 10 := by
  unfold YU
  rw [LL_eq (rkU_ok hn) (rkU_10 hn) p hp]
  congr 1
  apply mxF_cong
  intro q hq
  refine ⟨rfl, fun _ => ?_⟩
  show LL (fun a b => Ah h b a) (fun a => - cap h a) q + 1 = - - LL (fun a b => Ah h b a) (fun a => - cap h a) q + 1
  omega
theorem Lf_topQ {A : Nat → Nat → Bool} {base : Nat → Int} {B : Int} {Q : Nat → Prop} (hb : ∀ p, Q p → base p ≤ B) (hq : ∀ p q, Q p → A p q = true → Q q) : ∀ k p, Q p → Lf A base k p ≤ B + k := by
  intro k
  induction k with
  | zero => intro p hp; have := hb p hp; show base p ≤ B + 0; omega
  | succ k ih =>
    intro p hp
    show mxF (A p) (fun q => Lf A base k q + 1) (base p) 10 ≤ _
    have := hb p hp
    refine mxF_le (by omega) (fun i hi ha => ?_)
    have := ih i (hq p i hp ha)
    show Lf A base k i + 1 ≤ _
    omega
theorem bL_in {h : Nat → Int32} (hv : HV h) {p : Nat} (hp : p < nP h) : 1700 ≤ bL h p ∧ bL h p ≤ 1999 := by
  obtain ⟨-, -, -, -, vw, vp, -, -⟩ := hv
  obtain ⟨kd, md, la, pr, re, -, -, -, m1, m2, m3, -⟩ := vp p hp
  have e : hN h (29 + 5 * p) = md := by unfold hN; rw [m1, cl_nI (by omega)]
  unfold bL
  rw [e]
  refine ⟨Int.le_trans (by omega) (mxF_d _ _ _ _), mxF_le (by omega) (fun w hw _ => ?_)⟩
  obtain ⟨b, wd, hg, b1, b2, b3, -⟩ := vw w hw
  have e2 : hN h (4 + 3 * w) = b := by unfold hN; rw [b1, cl_nI (by omega)]
  show (hN h (4 + 3 * w) : Int) ≤ 1999
  rw [e2]
  omega
theorem cap_in {h : Nat → Int32} (hv : HV h) {p : Nat} (hp : p < nP h) : 1700 ≤ cap h p ∧ cap h p ≤ 1999 := by
  obtain ⟨-, -, -, -, vw, vp, -, -⟩ := hv
  obtain ⟨kd, md, la, pr, re, -, -, -, m1, m2, m3, l1, l2, l3, -⟩ := vp p hp
  have e : hN h (30 + 5 * p) = la := by unfold hN; rw [l1, cl_nI (by omega)]
  unfold cap
  rw [e]
  split <;> omega
theorem YL_in {h : Nat → Int32} (hv : HV h) {p : Nat} (hp : p < nP h) : 1700 ≤ YL h p ∧ YL h p ≤ 2009 := by
  have h1 := bL_in hv hp
  have h2 := LL_b (A := Ah h) (base := bL h) p
  have h3 := Lf_topQ (A := Ah h) (base := bL h) (B := 1999) (Q := fun p => p < nP h) (fun p hp => (bL_in hv hp).2) (fun p q _ ha => (Ah_in hv ha).2.1) 10 p hp
  unfold YL
  unfold LL at h2 ⊢
  omega
theorem YU_in {h : Nat → Int32} (hv : HV h) {p : Nat} (hp : p < nP h) : 1690 ≤ YU h p ∧ YU h p ≤ 1999 := by
  have h1 := cap_in hv hp
  have h2 := LL_b (A := fun a b => Ah h b a) (base := fun a => - cap h a) p
  have h3 := Lf_topQ (A := fun a b => Ah h b a) (base := fun a => - cap h a) (B := -1700) (Q := fun p => p < nP h) (fun p hp => by have := (cap_in hv hp).1; show - cap h p ≤ -1700; omega) (fun p q _ ha => (Ah_in hv ha).1) 10 p hp
  unfold YU
  unfold LL at h2 ⊢
  have h2 : - cap h p ≤ Lf (fun a b => Ah h b a) (fun a => - cap h a) 10 p := h2
  omega
theorem fo_mk {h : Nat → Int32} {S : Nat → Bool} {p : Nat} (h1 : Seen h p = true) (h2 : S p = false) (h3 : ∀ q, q < 10 → Ah h p q = true → S q = true) : fo h S p = true := by
  unfold fo
  have e : exB (fun q => Ah h p q && !S q) 10 = false := by
    rw [← Bool.not_eq_true]
    intro hx
    obtain ⟨q, hq, hx⟩ := exB_iff.mp hx
    rw [Bool.and_eq_true] at hx
    rw [h3 q hq hx.1] at hx
    exact absurd hx.2 (by decide)
  rw [h1, h2, e]
  rfl
theorem ord_all {h : Nat → Int32} (hv : HV h) (hn : NoRing h) {m : Nat} {g : Nat → Nat} (hO : OrdG h m g) : ∀ p, p < 10 → Seen h p = true → gG g m p = true := by
  have H : ∀ n p, p < 10 → rkD h p < n → Seen h p = true → gG g m p = true := by
    intro n
    induction n with
    | zero => intro p _ h1; omega
    | succ n ih =>
      intro p hp h1 h2
      by_cases e : gG g m p = true
      · exact e
      · have := fo_mk h2 (Bool.eq_false_iff.mpr e) (fun q hq ha => ih q hq (by have := rkD_ok hn p q hq ha; omega) (Ah_in hv ha).2.2.2)
        rw [hO.2.2 p hp] at this
        cases this
  exact fun p hp h1 => H _ p hp (Nat.lt_succ_self _) h1
