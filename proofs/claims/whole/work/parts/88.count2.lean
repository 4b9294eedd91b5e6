/-! all counts -/
def OCd (O : Nat → Nat → Int32) (h : Nat → Int32) : Prop := O 0 1 = 1 ∧ O 1 (sN h) = nI (Wy h (Ah h) (sN h)) ∧ ∀ a b, a < 10 → b < 10 → a ≠ b → Seen h a = true → Seen h b = true → O 3 (10 * a + b) = nI (Wy h (mu2 h a b) (sN h))
theorem nI_sub_add {c : Nat} : nI c + -1 = nI c - 1 := by rw [Int32.sub_eq_add_neg]
theorem c_countOnce_new (h : Nat → Int32) (M : am_M) (h0 : M 8 0 0 1 = 0) (h1 : M 7 0 0 2 = bs (Seen h)) (h2 : ∀ p, p < 10 → M 7 0 2 p = bs (Ah h p)) : ConP 4 mOrders_countOnce [aR 8 0 0] M (fun r M2 => r = none ∧ (∀ k, k ≠ 8 → M2 k = M k) ∧ OCd (M2 8 0) h) := by
  have N := sN_lt h
  have eN : M 7 0 0 2 = nI (sN h) := h1
  have nc : (nI (sN h)).toNatClampNeg = sN h := cl_nI (by omega)
  refine con_of okOrders_countOnce [some (aR 8 0 0), none] none ?_
  intro J hgo
  have down : ∀ c iv M2, c ≤ sN h → iv = nI c - 1 → (∀ k, k ≠ 8 → M2 k = M k) → (∀ x, x ≤ sN h → M2 8 0 1 x = nI (Wy h (Ah h) x)) → (∀ x, c ≤ x → x ≤ sN h → Wy h (Ah h) x ≠ 0 → M2 8 0 2 x = nI (Ey h x)) → (∀ x, x < c → M2 8 0 2 x = 0) → (∀ a b, a < 10 → b < 10 → nI (sm (tP h a b) c) + M2 8 0 3 (10 * a + b) = nI (sm (tP h a b) (sN h))) → J 95 [some (aR 8 0 0), some (aI iv)] [] M2 := by
    intro c
    induction c with
    | zero =>
      intro iv M2 hc hv hk b1 b2 b3 b4
      subst hv
      refine hgo [] _ _ _ _ ?_
      refine brt (by decide) ?_
      refine hgo [] _ _ _ _ ?_
      refine ob_ (by decide) ⟨rfl, fun k k8 => (sA_k k8).trans (hk k k8), rfl, ?_, fun a b ha hb hab hsa hsb => ?_⟩
      · exact b1 _ (Nat.le_refl _)
      · have := b4 a b ha hb
        rw [show sm (tP h a b) 0 = 0 from rfl, show nI 0 = 0 from rfl, Int32.zero_add, ← tP_all hb, ← pair_law ha hb hsb] at this
        exact this
    | succ c ih =>
      intro iv M2 hc hv hk b1 b2 b3 b4
      have hcc : (nI c).toNatClampNeg = c := cl_nI (by omega)
      have e : iv = nI c := by rw [hv]; exact pk_sub (a := c + 1) (b := 1) (by omega)
      subst e
      have nx : ∀ M2, (∀ k, k ≠ 8 → M2 k = M k) → (∀ x, x ≤ sN h → M2 8 0 1 x = nI (Wy h (Ah h) x)) → (∀ x, c ≤ x → x ≤ sN h → Wy h (Ah h) x ≠ 0 → M2 8 0 2 x = nI (Ey h x)) → (∀ x, x < c → M2 8 0 2 x = 0) → (∀ a b, a < 10 → b < 10 → nI (sm (tP h a b) c) + M2 8 0 3 (10 * a + b) = nI (sm (tP h a b) (sN h))) → J 113 [some (aR 8 0 0), some (aI (nI c))] [] M2 := by
        intro M2 hk b1 b2 b3 b4
        refine hgo [] _ _ _ _ ?_
        exact ih _ M2 (by omega) nI_sub_add hk b1 b2 b3 b4
      have hW := W_bd (h := h) (mu := Ah h) (s := c) (by omega)
      have eb := b1 c (by omega)
      refine hgo [113] _ _ _ _ ?_
      refine brf (nI_pos (by omega)) ?_
      refine ob_ (vp_in_nI (by omega) (by omega)) ?_
      rw [hcc, eb]
      refine br_ (fun g => ?_) (fun g => ?_)
      · have g : Wy h (Ah h) c = 0 := (nI_eq (b := 0) (by omega) (by omega)).mp g
        refine nx M2 hk b1 (fun x hx hx2 hw => ?_) (fun x hx => b3 x (by omega)) (fun a b ha hb => ?_)
        · by_cases e : x = c
          · rw [e] at hw
            exact absurd g hw
          · exact b2 x (by omega) hx2 hw
        · have h9 : tP h a b c = 0 := by
            unfold tP
            rw [g, Nat.zero_mul]
            split <;> rfl
          have := b4 a b ha hb
          rw [show sm (tP h a b) (c + 1) = sm (tP h a b) c + tP h a b c from rfl, h9, Nat.add_zero] at this
          exact this
      · have g : Wy h (Ah h) c ≠ 0 := fun q => g (by rw [q]; rfl)
        have hev : ∀ p, p < 10 → fo h c.testBit p = true → M2 8 0 2 (c + 2 ^ p) = nI (Ey h (c + 2 ^ p)) := by
          intro p hp gf
          obtain ⟨o1, o2⟩ := fo_out hp (by omega) gf
          have w1 := W_on (mu := Ah h) (s := c) (by omega) hp gf
          have w2 : Wy h (Ah h) (c + 2 ^ p) ≠ 0 := by omega
          exact b2 _ (by omega) (W_le o1 w2) w2
        refine clp (c_countEnded h c (Wy h (Ah h) c) (fun p => Ey h (c + 2 ^ p)) M2 (by rw [hk 7 (by decide)]; exact h1) (fun p hp => by rw [hk 7 (by decide)]; exact h2 p hp) (by omega) eb (b3 c (by omega)) hev) ?_
        rintro r M3 ⟨rfl, d1, d2, d3, d4⟩
        refine nx M3 (fun k k8 => (d1.1 k k8).trans (hk k k8)) (fun x hx => by rw [d1.2 1 (by decide) (by decide)]; exact b1 x hx) (fun x hx hx2 hw => ?_) (fun x hx => by rw [d3 x (by omega)]; exact b3 x (by omega)) (fun a b ha hb => ?_)
        · by_cases e : x = c
          · rw [e, d2, Ey_eq (by omega) (by omega)]
          · rw [d3 x e]
            exact b2 x (by omega) hx2 hw
        · have := b4 a b ha hb
          have h9 : (if (c.testBit a && fo h c.testBit b) = true then Wy h (Ah h) c * Ey h (c + 2 ^ b) else 0) = tP h a b c := by
            unfold tP
            congr 1
          rw [d4 a b ha hb, h9, ← this, show sm (tP h a b) (c + 1) = sm (tP h a b) c + tP h a b c from rfl, ← nI_add, Int32.add_assoc, Int32.add_comm (M2 8 0 3 (10 * a + b))]
  have up : ∀ t c cv M2, t = sN h - c → c ≤ sN h → cv = nI c → (∀ k, k ≠ 8 → M2 k = M k) → (∀ x, x < 1024 → M2 8 0 1 x = nI (Wc h c x)) → (∀ x, x < 1024 → M2 8 0 2 x = 0) → (∀ x, x < 100 → M2 8 0 3 x = 0) → J 41 [some (aR 8 0 0), some (aI cv)] [] M2 := by
    intro t
    induction t with
    | zero =>
      intro c cv M2 ht hc hv hk b1 b2 b3
      have hc : c = sN h := by omega
      subst hv
      have e2 : M2 7 0 0 2 = nI (sN h) := by rw [hk 7 (by decide)]; exact eN
      refine hgo [] _ _ _ _ ?_
      refine brt (by show M2 7 0 0 2 ≤ nI c; rw [e2, hc]; exact nI_le (Nat.le_refl _) (by omega)) ?_
      refine hgo [95] _ _ _ _ ?_
      refine ob_ (by rw [e2]; exact vp_in_nI (by omega) (by omega)) ?_
      refine down (sN h) _ _ (Nat.le_refl _) (by show M2 7 0 0 2 - 1 = _; rw [e2]) (fun k k8 => (sA_k k8).trans (hk k k8)) (fun x hx => ?_) (fun x hx hx2 hw => ?_) (fun x hx => ?_) (fun a b ha hb => ?_)
      · show M2 8 0 1 x = _
        rw [b1 x (by omega), Wc_full (by omega) (by omega)]
      · show upd (M2 8 0 2) (M2 7 0 0 2).toNatClampNeg 1 x = _
        have : x = sN h := by omega
        rw [e2, nc, this, upd_s, Ey_N]
        rfl
      · show upd (M2 8 0 2) (M2 7 0 0 2).toNatClampNeg 1 x = _
        rw [e2, nc, upd_n (by omega)]
        exact b2 x (by omega)
      · show _ + M2 8 0 3 (10 * a + b) = _
        rw [b3 _ (by omega), Int32.add_zero]
    | succ t ih =>
      intro c cv M2 ht hc hv hk b1 b2 b3
      subst hv
      have hlt : c < sN h := by omega
      have hcc : (nI c).toNatClampNeg = c := cl_nI (by omega)
      have e2 : M2 7 0 0 2 = nI (sN h) := by rw [hk 7 (by decide)]; exact eN
      have hW := W_bd (h := h) (mu := Ah h) (s := c) (by omega)
      have eb : M2 8 0 1 c = nI (Wy h (Ah h) c) := by rw [b1 c (by omega), Wc_full (by omega) (Nat.le_refl _)]
      have nx : ∀ M2, (∀ k, k ≠ 8 → M2 k = M k) → (∀ x, x < 1024 → M2 8 0 1 x = nI (Wc h (c + 1) x)) → (∀ x, x < 1024 → M2 8 0 2 x = 0) → (∀ x, x < 100 → M2 8 0 3 x = 0) → J 66 [some (aR 8 0 0), some (aI (nI c))] [] M2 := by
        intro M2 hk b1 b2 b3
        refine hgo [] _ _ _ _ ?_
        exact ih (c + 1) _ M2 (by omega) (by omega) (nI_1 c) hk b1 b2 b3
      refine hgo [66] _ _ _ _ ?_
      refine brf (by show ¬ M2 7 0 0 2 ≤ nI c; rw [e2]; exact nI_ge hlt (by omega)) ?_
      refine ob_ (vp_in_nI (by omega) (by omega)) ?_
      rw [hcc, eb]
      refine br_ (fun g => ?_) (fun g => ?_)
      · have g : Wy h (Ah h) c = 0 := (nI_eq (b := 0) (by omega) (by omega)).mp g
        refine nx M2 hk (fun x hx => ?_) b2 b3
        have h9 : (if exB (fun p => fo h c.testBit p && (x == c + 2 ^ p)) 10 = true then Wy h (Ah h) c else 0) = 0 := by
          rw [g]
          split <;> rfl
        rw [b1 x hx, Wc_step hx (by omega), h9, Nat.add_zero]
      · refine clp (c_countBegun h c M2 (by rw [hk 7 (by decide)]; exact h1) (fun p hp => by rw [hk 7 (by decide)]; exact h2 p hp) (by omega)) ?_
        rintro r M3 ⟨rfl, f, rfl, d1⟩
        refine nx _ (fun k k8 => (sA_k k8).trans (hk k k8)) (fun x hx => ?_) b2 b3
        show f x = _
        rw [d1 x, b1 x hx, Wc_step hx (by omega), ← nI_add, eb]
        congr 1
        by_cases q : exB (fun p => fo h c.testBit p && (x == c + 2 ^ p)) 10 = true
        · rw [if_pos q, if_pos q]
        · rw [if_neg q, if_neg q]
          rfl
  refine hgo [] _ _ _ _ ?_
  refine brt h0 ?_
  refine hgo [41] _ _ _ _ ?_
  refine clp (c_fill_8_1 0 M) ?_
  rintro r M1 ⟨rfl, f1, rfl, g1⟩
  refine clp (c_fill_8_2 0 _) ?_
  rintro r M2 ⟨rfl, f2, rfl, g2⟩
  refine clp (c_fill_8_3 0 _) ?_
  rintro r M3 ⟨rfl, f3, rfl, g3⟩
  refine ob_ (vp_in_nI (n := 0) (N := 1024) (by omega) (by omega)) ?_
  refine up _ 0 _ _ rfl (by omega) rfl (fun k k8 => by rw [sA_k k8, sA_k k8, sA_k k8, sA_k k8]) (fun x hx => ?_) (fun x hx => ?_) (fun x hx => ?_)
  · show upd f1 (Int32.toNatClampNeg 0) 1 x = _
    rw [show Int32.toNatClampNeg 0 = 0 from rfl, Wc_0]
    by_cases e : x = 0
    · rw [e, upd_s, if_pos rfl]
      rfl
    · rw [upd_n e, if_neg e, g1 x hx]
      rfl
  · show f2 x = 0
    exact g2 x hx
  · show f3 x = 0
    exact g3 x hx
theorem c_countOnce (h : Nat → Int32) (M : am_M) (c : CF h M) (ho : OC (M 8 0) h) : ConP 4 mOrders_countOnce [aR 8 0 0] M (fun r M2 => r = none ∧ (∀ k, k ≠ 8 → M2 k = M k) ∧ OCd (M2 8 0) h) := by
  rcases ho with h0 | h0
  · exact c_countOnce_new h M h0 c.2.2.1.1 c.2.2.1.2.2.2.1
  · refine con_of okOrders_countOnce [some (aR 8 0 0), none] none ?_
    intro J hgo
    refine hgo [] _ _ _ _ ?_
    refine brf (show ¬ M 8 0 0 1 = 0 by rw [h0.1]; decide) ?_
    exact ⟨rfl, fun _ _ => rfl, h0⟩
theorem c_Orders_all (h : Nat → Int32) (M : am_M) (c : CF h M) (ho : OC (M 8 0) h) : ConP 5 mOrders_all [aR 8 0 0] M (fun r M2 => r = some (aI (nI (Wy h (Ah h) (sN h)))) ∧ (∀ k, k ≠ 8 → M2 k = M k) ∧ OCd (M2 8 0) h) := by
  have N := sN_lt h
  have eN : M 7 0 0 2 = nI (sN h) := c.2.2.1.1
  refine con_of okOrders_all [some (aR 8 0 0)] (some .int) ?_
  intro J hgo
  refine hgo [] _ _ _ _ ?_
  refine clp (c_countOnce h M c ho) ?_
  rintro r M2 ⟨rfl, a1, a2⟩
  have e2 : M2 7 0 0 2 = nI (sN h) := by rw [a1 7 (by decide)]; exact eN
  refine ob_ (by rw [e2]; exact vp_in_nI (by omega) (by omega)) ⟨?_, a1, a2⟩
  rw [e2, cl_nI (by omega), a2.2.1]
theorem c_withAhead (h : Nat → Int32) (a b : Nat) (M : am_M) (c : CF h M) (ho : OC (M 8 0) h) (ha : a < 10) (hb : b < 10) : ConP 5 mOrders_withAhead [aR 8 0 0, aI (nI a), aI (nI b)] M (fun r M2 => r = some (aI (M2 8 0 3 (10 * a + b))) ∧ (∀ k, k ≠ 8 → M2 k = M k) ∧ OCd (M2 8 0) h) := by
  have ei : (10 : Int32) * nI a + nI b = nI (10 * a + b) := by rw [show (10 : Int32) = nI 10 from rfl, pk_mul, nI_add]
  refine con_of okOrders_withAhead [some (aR 8 0 0), some (aI (nI a)), some (aI (nI b))] (some .int) ?_
  intro J hgo
  refine hgo [] _ _ _ _ ?_
  refine clp (c_countOnce h M c ho) ?_
  rintro r M2 ⟨rfl, a1, a2⟩
  refine ob_ (by rw [ei]; exact vp_in_nI (by omega) (by omega)) ⟨?_, a1, a2⟩
  rw [ei, cl_nI (by omega)]
