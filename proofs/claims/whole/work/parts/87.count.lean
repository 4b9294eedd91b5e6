/-! the class's counts -/
theorem one_sh : ∀ p, p < 10 → (1 : Int32) <<< (nI p &&& 31) = nI (2 ^ p) := by decide +kernel
theorem or_sh {s p : Nat} (hs : s < 1024) (hp : p < 10) (h : s.testBit p = false) : nI s ||| (1 : Int32) <<< (nI p &&& 31) = nI (s + 2 ^ p) := by
  rw [one_sh p hp, nI_or, (bit_or s hs p hp h).1]
theorem pw_inj {i j : Nat} (h : 2 ^ i = 2 ^ j) : i = j := by
  by_cases h1 : i < j
  · have := Nat.pow_lt_pow_right (a := 2) (by omega) h1
    omega
  · by_cases h2 : j < i
    · have := Nat.pow_lt_pow_right (a := 2) (by omega) h2
      omega
    · omega
def Wc (h : Nat → Int32) (c x : Nat) : Nat := if x = 0 then 1 else sm (fun p => if (okM h (Ah h) x p && decide (x - 2 ^ p < c)) = true then Wy h (Ah h) (x - 2 ^ p) else 0) 10
theorem Wc_full {h : Nat → Int32} {c x : Nat} (hx : x < 1024) (hc : x ≤ c) : Wc h c x = Wy h (Ah h) x := by
  unfold Wc
  by_cases e : x = 0
  · rw [if_pos e, e, Wy_0]
  · rw [if_neg e, Wy_eq hx e]
    apply sm_cong
    intro p hp
    have := pw_pos p
    rw [decide_eq_true (show x - 2 ^ p < c by omega), Bool.and_true]
theorem Wc_0 {h : Nat → Int32} {x : Nat} : Wc h 0 x = if x = 0 then 1 else 0 := by
  unfold Wc
  by_cases e : x = 0
  · rw [if_pos e, if_pos e]
  · rw [if_neg e, if_neg e]
    apply sm_zero
    intro p hp
    rw [decide_eq_false (by omega), Bool.and_false, if_neg (by decide)]
theorem Wc_step {h : Nat → Int32} {c x : Nat} (hx : x < 1024) (hc : c < 1024) : Wc h (c + 1) x = Wc h c x + (if exB (fun p => fo h c.testBit p && (x == c + 2 ^ p)) 10 = true then Wy h (Ah h) c else 0) := by
  unfold Wc
  by_cases e : x = 0
  · rw [if_pos e, if_pos e, if_neg]
    rw [Bool.not_eq_true, ← Bool.not_eq_true]
    intro g
    obtain ⟨p, hp, g⟩ := exB_iff.mp g
    rw [Bool.and_eq_true] at g
    have := pw_pos p
    have g2 : x = c + 2 ^ p := by simpa using g.2
    omega
  · rw [if_neg e, if_neg e]
    have hi : sm (fun p => if (fo h c.testBit p && (x == c + 2 ^ p)) = true then Wy h (Ah h) c else 0) 10 = if exB (fun p => fo h c.testBit p && (x == c + 2 ^ p)) 10 = true then Wy h (Ah h) c else 0 := by
      apply sm_ind
      intro i j g1 g2
      rw [Bool.and_eq_true] at g1 g2
      have e1 : x = c + 2 ^ i := by simpa using g1.2
      have e2 : x = c + 2 ^ j := by simpa using g2.2
      exact pw_inj (by omega)
    rw [← hi, ← sm_add]
    apply sm_cong
    intro p hp
    have hpp := pw_pos p
    have hiff : (fo h c.testBit p && (x == c + 2 ^ p)) = true ↔ (okM h (Ah h) x p = true ∧ x - 2 ^ p = c) := by
      rw [Bool.and_eq_true, ok_iff hx hp]
      constructor
      · rintro ⟨g1, g2⟩
        have e1 : x = c + 2 ^ p := by simpa using g2
        exact ⟨⟨c, hc, e1, g1⟩, by omega⟩
      · rintro ⟨⟨t, h1, h2, h3⟩, g2⟩
        have : t = c := by omega
        subst this
        exact ⟨h3, by simpa using h2⟩
    by_cases q : okM h (Ah h) x p = true
    · by_cases q2 : x - 2 ^ p = c
      · rw [if_pos (hiff.mpr ⟨q, q2⟩), q, decide_eq_true (show x - 2 ^ p < c + 1 by omega), decide_eq_false (show ¬ x - 2 ^ p < c by omega), if_pos (by decide), if_neg (by decide), q2, Nat.zero_add]
      · rw [if_neg (fun z => q2 (hiff.mp z).2)]
        have : decide (x - 2 ^ p < c + 1) = decide (x - 2 ^ p < c) := by
          apply decide_eq_decide.mpr
          omega
        rw [this]
        exact (Nat.add_zero _).symm
    · rw [if_neg (fun z => q (hiff.mp z).1), Bool.eq_false_iff.mpr q, Bool.false_and, Bool.false_and, if_neg (by decide)]
theorem c_countBegun (h : Nat → Int32) (s : Nat) (M : am_M) (h1 : M 7 0 0 2 = bs (Seen h)) (h2 : ∀ p, p < 10 → M 7 0 2 p = bs (Ah h p)) (hs : s < 1024) : ConP 3 mOrders_countBegun [aR 8 0 0, aI (nI s)] M (fun r M2 => r = none ∧ ∃ f, M2 = sA M 8 0 1 f ∧ ∀ x, f x = M 8 0 1 x + (if exB (fun p => fo h s.testBit p && (x == s + 2 ^ p)) 10 = true then M 8 0 1 s else 0)) := by
  have hsc : (nI s).toNatClampNeg = s := cl_nI (by omega)
  refine con_of okOrders_countBegun [some (aR 8 0 0), some (aI (nI s)), none] none ?_
  intro J hgo
  have loop : ∀ m p pv f, m = 10 - p → p ≤ 10 → pv = nI p → (∀ x, f x = M 8 0 1 x + (if exB (fun p => fo h s.testBit p && (x == s + 2 ^ p)) p = true then M 8 0 1 s else 0)) → J 2 [some (aR 8 0 0), some (aI (nI s)), some (aI pv)] [] (sA M 8 0 1 f) := by
    intro m
    induction m with
    | zero =>
      intro p pv f hm hp hv hf
      obtain rfl : p = 10 := by omega
      subst hv
      refine hgo [] _ _ _ _ ?_
      refine brt (by decide) ?_
      refine hgo [] _ _ _ _ ?_
      exact ⟨rfl, f, rfl, hf⟩
    | succ m ih =>
      intro p pv f hm hp hv hf
      subst hv
      have hp10 : p < 10 := by omega
      have es : ∀ x, exB (fun p => fo h s.testBit p && (x == s + 2 ^ p)) (p + 1) = (exB (fun p => fo h s.testBit p && (x == s + 2 ^ p)) p || (fo h s.testBit p && (x == s + 2 ^ p))) := fun x => rfl
      have nx : ∀ f, (∀ x, f x = M 8 0 1 x + (if exB (fun p => fo h s.testBit p && (x == s + 2 ^ p)) (p + 1) = true then M 8 0 1 s else 0)) → J 39 [some (aR 8 0 0), some (aI (nI s)), some (aI (nI p))] [] (sA M 8 0 1 f) := by
        intro f hf
        refine hgo [] _ _ _ _ ?_
        exact ih (p + 1) _ f (by omega) (by omega) (nI_1 p) hf
      refine hgo [39] _ _ _ _ ?_
      refine brf (nI_ge (b := 10) hp10 (by omega)) ?_
      refine cle (c_Facts_canFollow h s.testBit p (sA M 8 0 1 f) (by exact h1) (by exact h2 p hp10) hp10) (by rw [nI_bs hs]) rfl ?_
      refine brb (fun g => ?_) (fun g => ?_)
      · refine nx f (fun x => ?_)
        rw [hf x, es x, Bool.eq_false_iff.mpr g, Bool.false_and, Bool.or_false]
      · have hno := (fo_no (mu := Ah h) g).2
        obtain ⟨o1, o2⟩ := fo_out hp10 hs g
        have eo := or_sh hs hp10 hno
        have oc : (nI (s + 2 ^ p)).toNatClampNeg = s + 2 ^ p := cl_nI (by omega)
        have e0 : ∀ j, j ≤ p → exB (fun p => fo h s.testBit p && (s + 2 ^ p == s + 2 ^ p)) 0 = false := fun _ _ => rfl
        have efs : f s = M 8 0 1 s := by
          rw [hf s, if_neg, Int32.add_zero]
          intro q
          obtain ⟨j, hj, q⟩ := exB_iff.mp q
          rw [Bool.and_eq_true] at q
          have q2 : s = s + 2 ^ j := by simpa using q.2
          have := pw_pos j
          omega
        have efo : f (s + 2 ^ p) = M 8 0 1 (s + 2 ^ p) := by
          rw [hf, if_neg, Int32.add_zero]
          intro q
          obtain ⟨j, hj, q⟩ := exB_iff.mp q
          rw [Bool.and_eq_true] at q
          have q2 : s + 2 ^ p = s + 2 ^ j := by simpa using q.2
          have := pw_inj (i := p) (j := j) (by omega)
          omega
        refine ob_ (by rw [eo]; exact vp_in_nI (by omega) (by omega)) ?_
        refine ob_ (vp_in_nI (by omega) (by omega)) ?_
        refine ob_ (by rw [eo]; exact vp_in_nI (by omega) (by omega)) ?_
        rw [eo, oc, hsc, sA_sA, sA_s]
        refine nx _ (fun x => ?_)
        by_cases e : x = s + 2 ^ p
        · rw [e, upd_s, efs, efo, if_pos]
          rw [es, g]
          simp
        · have e2 : (x == s + 2 ^ p) = false := beq_eq_false_iff_ne.mpr e
          rw [upd_n e, hf x, es x, e2, Bool.and_false, Bool.or_false]
  refine hgo [2] _ _ _ _ ?_
  have := loop _ 0 0 (M 8 0 1) rfl (by omega) rfl (fun x => by
    show _ = M 8 0 1 x + (if false = true then _ else 0)
    rw [if_neg (by decide), Int32.add_zero])
  rw [sA_id] at this
  exact this
theorem c_countPairs (s p : Nat) (v : Int32) (M : am_M) (hs : s < 1024) (hp : p < 10) : ConP 2 mOrders_countPairs [aR 8 0 0, aI (nI s), aI (nI p), aI v] M (fun r M2 => r = none ∧ ∃ f, M2 = sA M 8 0 3 f ∧ (∀ a, a < 10 → f (10 * a + p) = M 8 0 3 (10 * a + p) + (if s.testBit a = true then v else 0)) ∧ ∀ a b, b < 10 → b ≠ p → f (10 * a + b) = M 8 0 3 (10 * a + b)) := by
  refine con_of okOrders_countPairs [some (aR 8 0 0), some (aI (nI s)), some (aI (nI p)), some (aI v), none] none ?_
  intro J hgo
  have loop : ∀ m k kv f, m = 10 - k → k ≤ 10 → kv = nI k → (∀ a, a < k → f (10 * a + p) = M 8 0 3 (10 * a + p) + (if s.testBit a = true then v else 0)) → (∀ a, k ≤ a → f (10 * a + p) = M 8 0 3 (10 * a + p)) → (∀ a b, b < 10 → b ≠ p → f (10 * a + b) = M 8 0 3 (10 * a + b)) → J 3 [some (aR 8 0 0), some (aI (nI s)), some (aI (nI p)), some (aI v), some (aI kv)] [] (sA M 8 0 3 f) := by
    intro m
    induction m with
    | zero =>
      intro k kv f hm hk hv hf1 hf2 hf3
      obtain rfl : k = 10 := by omega
      subst hv
      refine hgo [] _ _ _ _ ?_
      refine brt (by decide) ?_
      refine hgo [] _ _ _ _ ?_
      exact ⟨rfl, f, rfl, hf1, hf3⟩
    | succ m ih =>
      intro k kv f hm hk hv hf1 hf2 hf3
      subst hv
      have hk10 : k < 10 := by omega
      have nx : ∀ f, (∀ a, a < k + 1 → f (10 * a + p) = M 8 0 3 (10 * a + p) + (if s.testBit a = true then v else 0)) → (∀ a, k + 1 ≤ a → f (10 * a + p) = M 8 0 3 (10 * a + p)) → (∀ a b, b < 10 → b ≠ p → f (10 * a + b) = M 8 0 3 (10 * a + b)) → J 35 [some (aR 8 0 0), some (aI (nI s)), some (aI (nI p)), some (aI v), some (aI (nI k))] [] (sA M 8 0 3 f) := by
        intro f hf1 hf2 hf3
        refine hgo [] _ _ _ _ ?_
        exact ih (k + 1) _ f (by omega) (by omega) (nI_1 k) hf1 hf2 hf3
      have ei : (10 : Int32) * nI k + nI p = nI (10 * k + p) := by rw [show (10 : Int32) = nI 10 from rfl, pk_mul, nI_add]
      have ec : (nI (10 * k + p)).toNatClampNeg = 10 * k + p := cl_nI (by omega)
      refine hgo [35] _ _ _ _ ?_
      refine brf (nI_ge (b := 10) hk10 (by omega)) ?_
      refine cle (c_Main_has s.testBit k _ hk10) (by rw [nI_bs hs]) rfl ?_
      refine brb (fun g => ?_) (fun g => ?_)
      · refine nx f (fun a ha => ?_) (fun a ha => hf2 a (by omega)) hf3
        by_cases e : a = k
        · subst e
          rw [hf2 a (Nat.le_refl _), if_neg g, Int32.add_zero]
        · exact hf1 a (by omega)
      · refine ob_ (by rw [ei]; exact vp_in_nI (by omega) (by omega)) ?_
        refine ob_ (by rw [ei]; exact vp_in_nI (by omega) (by omega)) ?_
        rw [ei, ec, sA_sA, sA_s]
        refine nx _ (fun a ha => ?_) (fun a ha => ?_) (fun a b hb hbp => ?_)
        · by_cases e : a = k
          · subst e
            rw [upd_s, hf2 a (Nat.le_refl _), if_pos g]
          · rw [upd_n (by omega)]
            exact hf1 a (by omega)
        · rw [upd_n (by omega)]
          exact hf2 a (by omega)
        · rw [upd_n (by omega)]
          exact hf3 a b hb hbp
  refine hgo [3] _ _ _ _ ?_
  have := loop _ 0 0 (M 8 0 3) rfl (by omega) rfl (fun a ha => by omega) (fun a _ => rfl) (fun a b _ _ => rfl)
  rw [sA_id] at this
  exact this
def KO2 (M2 M : am_M) : Prop := (∀ k, k ≠ 8 → M2 k = M k) ∧ ∀ o, o ≠ 2 → o ≠ 3 → M2 8 0 o = M 8 0 o
theorem KO2.s2 {M2 M : am_M} {f : Nat → Int32} (h : KO2 M2 M) : KO2 (sA M2 8 0 2 f) M := ⟨fun k hk => (sA_k hk).trans (h.1 k hk), fun o h2 h3 => (sA_o h2).trans (h.2 o h2 h3)⟩
theorem KO2.s3 {M2 M : am_M} {f : Nat → Int32} (h : KO2 M2 M) : KO2 (sA M2 8 0 3 f) M := ⟨fun k hk => (sA_k hk).trans (h.1 k hk), fun o h2 h3 => (sA_o h3).trans (h.2 o h2 h3)⟩
theorem c_countEnded (h : Nat → Int32) (s w : Nat) (ev : Nat → Nat) (M : am_M) (h1 : M 7 0 0 2 = bs (Seen h)) (h2 : ∀ p, p < 10 → M 7 0 2 p = bs (Ah h p)) (hs : s < 1024) (hw : M 8 0 1 s = nI w) (h0 : M 8 0 2 s = 0) (he : ∀ p, p < 10 → fo h s.testBit p = true → M 8 0 2 (s + 2 ^ p) = nI (ev p)) : ConP 3 mOrders_countEnded [aR 8 0 0, aI (nI s)] M (fun r M2 => r = none ∧ KO2 M2 M ∧ M2 8 0 2 s = nI (sm (fun p => if fo h s.testBit p = true then ev p else 0) 10) ∧ (∀ x, x ≠ s → M2 8 0 2 x = M 8 0 2 x) ∧ ∀ a b, a < 10 → b < 10 → M2 8 0 3 (10 * a + b) = M 8 0 3 (10 * a + b) + nI (if (s.testBit a && fo h s.testBit b) = true then w * ev b else 0)) := by
  have hsc : (nI s).toNatClampNeg = s := cl_nI (by omega)
  refine con_of okOrders_countEnded [some (aR 8 0 0), some (aI (nI s)), none, none] none ?_
  intro J hgo
  have loop : ∀ m p pv (z : Option am_V) M2, m = 10 - p → p ≤ 10 → pv = nI p → KO2 M2 M → M2 8 0 2 s = nI (sm (fun p => if fo h s.testBit p = true then ev p else 0) p) → (∀ x, x ≠ s → M2 8 0 2 x = M 8 0 2 x) → (∀ a b, a < 10 → b < p → M2 8 0 3 (10 * a + b) = M 8 0 3 (10 * a + b) + nI (if (s.testBit a && fo h s.testBit b) = true then w * ev b else 0)) → (∀ a b, a < 10 → p ≤ b → b < 10 → M2 8 0 3 (10 * a + b) = M 8 0 3 (10 * a + b)) → J 2 [some (aR 8 0 0), some (aI (nI s)), some (aI pv), z] [] M2 := by
    intro m
    induction m with
    | zero =>
      intro p pv z M2 hm hp hv hK a1 a2 a3 a4
      obtain rfl : p = 10 := by omega
      subst hv
      refine hgo [] _ _ _ _ ?_
      refine brt (by decide) ?_
      refine hgo [] _ _ _ _ ?_
      exact ⟨rfl, hK, a1, a2, a3⟩
    | succ m ih =>
      intro p pv z M2 hm hp hv hK a1 a2 a3 a4
      subst hv
      have hp10 : p < 10 := by omega
      have f1 : M2 7 0 0 2 = bs (Seen h) := by rw [hK.1 7 (by decide)]; exact h1
      have f2 : M2 7 0 2 p = bs (Ah h p) := by rw [hK.1 7 (by decide)]; exact h2 p hp10
      have nx : ∀ (z : Option am_V) M2, KO2 M2 M → M2 8 0 2 s = nI (sm (fun p => if fo h s.testBit p = true then ev p else 0) (p + 1)) → (∀ x, x ≠ s → M2 8 0 2 x = M 8 0 2 x) → (∀ a b, a < 10 → b < p + 1 → M2 8 0 3 (10 * a + b) = M 8 0 3 (10 * a + b) + nI (if (s.testBit a && fo h s.testBit b) = true then w * ev b else 0)) → (∀ a b, a < 10 → p + 1 ≤ b → b < 10 → M2 8 0 3 (10 * a + b) = M 8 0 3 (10 * a + b)) → J 58 [some (aR 8 0 0), some (aI (nI s)), some (aI (nI p)), z] [] M2 := by
        intro z M2 hK a1 a2 a3 a4
        refine hgo [] _ _ _ _ ?_
        exact ih (p + 1) _ _ M2 (by omega) (by omega) (nI_1 p) hK a1 a2 a3 a4
      refine hgo [58] _ _ _ _ ?_
      refine brf (nI_ge (b := 10) hp10 (by omega)) ?_
      refine cle (c_Facts_canFollow h s.testBit p M2 f1 f2 hp10) (by rw [nI_bs hs]) rfl ?_
      refine brb (fun g => ?_) (fun g => ?_)
      · refine nx _ M2 hK ?_ a2 (fun a b ha hb => ?_) (fun a b ha hb hb2 => a4 a b ha (by omega) hb2)
        · rw [a1]
          show _ = nI (sm _ p + (if fo h s.testBit p = true then ev p else 0))
          rw [if_neg g, Nat.add_zero]
        · by_cases e : b = p
          · subst e
            rw [a4 a b ha (Nat.le_refl _) hp10, if_neg, show nI 0 = 0 from rfl, Int32.add_zero]
            rw [Bool.eq_false_iff.mpr g, Bool.and_false]
            decide
          · exact a3 a b ha (by omega)
      · have hno := (fo_no (mu := Ah h) g).2
        obtain ⟨o1, o2⟩ := fo_out hp10 hs g
        have eo := or_sh hs hp10 hno
        have oc : (nI (s + 2 ^ p)).toNatClampNeg = s + 2 ^ p := cl_nI (by omega)
        have ee : M2 8 0 2 (s + 2 ^ p) = nI (ev p) := by rw [a2 _ (by omega)]; exact he p hp10 g
        have ew : M2 8 0 1 s = nI w := by rw [hK.2 1 (by decide) (by decide)]; exact hw
        refine hgo [34, 58] _ _ _ _ ?_
        refine ob_ (by rw [eo]; exact vp_in_nI (by omega) (by omega)) ?_
        rw [eo, oc, ee]
        refine hgo [58] _ _ _ _ ?_
        refine ob_ (vp_in_nI (by omega) (by omega)) ?_
        refine ob_ (vp_in_nI (by omega) (by omega)) ?_
        refine ob_ (vp_in_nI (by omega) (by omega)) ?_
        refine clp (c_countPairs s p _ _ hs hp10) ?_
        rintro r M3 ⟨rfl, f, rfl, b1, b2⟩
        refine nx _ _ hK.s2.s3 ?_ (fun x hx => ?_) (fun a b ha hb => ?_) (fun a b ha hb hb2 => ?_)
        · show upd (M2 8 0 2) (nI s).toNatClampNeg (M2 8 0 2 (nI s).toNatClampNeg + nI (ev p)) s = nI (sm _ p + (if fo h s.testBit p = true then ev p else 0))
          rw [hsc, upd_s, a1, nI_add, if_pos g]
        · show upd (M2 8 0 2) (nI s).toNatClampNeg (M2 8 0 2 (nI s).toNatClampNeg + nI (ev p)) x = _
          rw [hsc, upd_n hx]
          exact a2 x hx
        · show f (10 * a + b) = _
          by_cases e : b = p
          · subst e
            rw [b1 a ha]
            show M2 8 0 3 (10 * a + b) + (if s.testBit a = true then M2 8 0 1 (nI s).toNatClampNeg * nI (ev b) else 0) = _
            rw [a4 a b ha (Nat.le_refl _) hp10, hsc, ew, g, Bool.and_true, pk_mul]
            congr 1
            by_cases q : s.testBit a = true
            · rw [if_pos q, if_pos q]
            · rw [if_neg q, if_neg q]
              rfl
          · rw [b2 a b (by omega) e]
            exact a3 a b ha (by omega)
        · show f (10 * a + b) = _
          rw [b2 a b hb2 (by omega)]
          exact a4 a b ha (by omega) hb2
  refine hgo [2] _ _ _ _ ?_
  exact loop _ 0 _ _ M rfl (by omega) rfl ⟨fun _ _ => rfl, fun _ _ _ => rfl⟩ (by rw [h0]; rfl) (fun _ _ => rfl) (fun a b _ hb => by omega) (fun a b _ _ _ => rfl)
