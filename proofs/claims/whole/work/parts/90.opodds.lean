/-! odds -/
theorem gcd_step (x y : Nat) : Nat.gcd x y = Nat.gcd y (x % y) := by
  rw [Nat.gcd_comm x y, Nat.gcd_rec y x, Nat.gcd_comm]
theorem c_divisor (x y : Nat) (M : am_M) (hx : x < 2 ^ 31) (hy : y < 2 ^ 31) : Con 1 mRef_divisor [aI (nI x), aI (nI y)] M (some (aI (nI (Nat.gcd x y)))) M := by
  refine con_of okRef_divisor [some (aI (nI x)), some (aI (nI y)), none, none, none] (some .int) ?_
  intro J hgo
  have loop : ∀ n u v (z : Option am_V), v < n → u < 2 ^ 31 → v < 2 ^ 31 → Nat.gcd u v = Nat.gcd x y → J 4 [some (aI (nI x)), some (aI (nI y)), some (aI (nI u)), some (aI (nI v)), z] [] M := by
    intro n
    induction n with
    | zero => intro u v z h1; exact absurd h1 (Nat.not_lt_zero _)
    | succ n ih =>
      intro u v z h1 h2 h3 h4
      by_cases e : v = 0
      · subst e
        refine hgo [] _ _ _ _ ?_
        refine brt rfl ?_
        refine hgo [] _ _ _ _ ?_
        refine ⟨?_, rfl⟩
        rw [← h4, Nat.gcd_zero_right]
      · have hm : u % v < v := Nat.mod_lt _ (by omega)
        refine hgo [] _ _ _ _ ?_
        refine brf (nI_ne0 (by omega) h3) ?_
        refine ob_ (nI_ne0 (by omega) h3) ?_
        rw [pk_rem h2 (by omega) h3]
        refine ih v (u % v) _ (by omega) h3 (by omega) ?_
        rw [← gcd_step]
        exact h4
  refine hgo [4] _ _ _ _ ?_
  exact loop (y + 1) x y _ (by omega) hx hy rfl
theorem c_greatestShared (x y : Nat) (M : am_M) (hx : x < 2 ^ 22) (hy : y < 2 ^ 22) : Con 1 mMain_greatestShared [aI (nI x), aI (nI y)] M (some (aI (nI (Nat.gcd x y)))) M := by
  refine con_of okMain_greatestShared [some (aI (nI x)), some (aI (nI y)), none, none] (some .int) ?_
  intro J hgo
  have ex : ∀ u st (z : Option am_V), st < 64 → u = Nat.gcd x y → J 2 [some (aI (nI u)), some (aI (nI 0)), some (aI (nI st)), z] [] M := by
    intro u st z h1 h2
    refine hgo [] _ _ _ _ ?_
    refine brf (nI_ge (b := 64) h1 (by omega)) ?_
    refine brt rfl ?_
    refine hgo [] _ _ _ _ ?_
    exact ⟨by rw [h2], rfl⟩
  have one : ∀ u v st (z : Option am_V), st < 64 → u < 2 ^ 31 → v < 2 ^ 31 → v ≠ 0 → J 2 [some (aI (nI v)), some (aI (nI (u % v))), some (aI (nI (st + 1))), some (aI (nI (u % v)))] [] M → J 2 [some (aI (nI u)), some (aI (nI v)), some (aI (nI st)), z] [] M := by
    intro u v st z h1 h2 h3 h4 h5
    refine hgo [] _ _ _ _ ?_
    refine brf (nI_ge (b := 64) h1 (by omega)) ?_
    refine brf (nI_ne0 (by omega) h3) ?_
    refine ob_ (nI_ne0 (by omega) h3) ?_
    rw [pk_rem h2 (by omega) h3]
    rw [← nI_1] at h5
    exact h5
  have loop : ∀ k u v st (z : Option am_V), v < 2 ^ k → st + 2 * k + 1 ≤ 64 → u < 2 ^ 31 → v < 2 ^ 31 → Nat.gcd u v = Nat.gcd x y → J 2 [some (aI (nI u)), some (aI (nI v)), some (aI (nI st)), z] [] M := by
    intro k
    induction k with
    | zero =>
      intro u v st z h1 h2 h3 h4 h5
      obtain rfl : v = 0 := by
        have : 2 ^ 0 = 1 := rfl
        omega
      rw [Nat.gcd_zero_right] at h5
      exact ex u st z (by omega) h5
    | succ k ih =>
      intro u v st z h1 h2 h3 h4 h5
      by_cases e : v = 0
      · subst e
        rw [Nat.gcd_zero_right] at h5
        exact ex u st z (by omega) h5
      · have hm : u % v < v := Nat.mod_lt _ (by omega)
        have g1 : Nat.gcd v (u % v) = Nat.gcd x y := by
          rw [← gcd_step]
          exact h5
        refine one u v st z (by omega) h3 h4 e ?_
        by_cases e2 : u % v = 0
        · rw [e2] at g1 ⊢
          rw [Nat.gcd_zero_right] at g1
          exact ex v (st + 1) _ (by omega) g1
        · have hm2 : v % (u % v) < u % v := Nat.mod_lt _ (by omega)
          have hd := Nat.div_add_mod v (u % v)
          have hq : 1 ≤ v / (u % v) := (Nat.one_le_div_iff (by omega)).mpr (by omega)
          have hl : u % v ≤ (u % v) * (v / (u % v)) := Nat.le_mul_of_pos_right _ (by omega)
          have hp : 2 ^ (k + 1) = 2 * 2 ^ k := by rw [Nat.pow_succ]; omega
          refine one v (u % v) (st + 1) _ (by omega) h4 (by omega) e2 ?_
          refine ih (u % v) (v % (u % v)) (st + 1 + 1) _ (by omega) (by omega) (by omega) (by omega) ?_
          rw [← gcd_step]
          exact g1
  refine hgo [2] _ _ _ _ ?_
  exact loop 22 x y 0 _ hy (by omega) (by omega) (by omega) rfl
theorem max1 {g : Nat} (h1 : 1 ≤ g) (h2 : g < 2 ^ 31) : (if (1 : Int32) < nI g then nI g else 1) = nI g := by
  by_cases e : (1 : Int32) < nI g
  · rw [if_pos e]
  · rw [if_neg e]
    have : ¬ nI 1 < nI g := e
    rw [nI_ltI (by omega) h2] at this
    obtain rfl : g = 1 := by omega
    rfl
def odB (h : Nat → Int32) (a b k : Int32) : Prop := sn h a ∧ sn h b ∧ ¬ a = b ∧ (k = 0 ∨ k = 1)
theorem c_Main_odds_bad (h : Nat → Int32) (a b k : Int32) (M : am_M) (c : CF h M) (hb : ¬ odB h a b k) : Con 7 mMain_odds [aR 0 0 0, aI a, aI b, aI k] M (some (aI (-1000001))) M := by
  refine con_of okMain_odds [some (aR 0 0 0), some (aI a), some (aI b), some (aI k), none, none, none] (some .int) ?_
  intro J hgo
  have no : J 28 [some (aR 0 0 0), some (aI a), some (aI b), some (aI k), none, none, none] [] M := by
    refine hgo [] _ _ _ _ ?_
    exact ⟨rfl, rfl⟩
  refine hgo [28] _ _ _ _ ?_
  by_cases g1 : sn h a
  · refine cl_ (c_Main_isSeen h a M c 1 (Or.inl ⟨g1, rfl⟩)) ?_
    refine brf (by decide) ?_
    by_cases g2 : sn h b
    · refine cl_ (c_Main_isSeen h b M c 1 (Or.inl ⟨g2, rfl⟩)) ?_
      refine brf (by decide) ?_
      refine br_ (fun _ => no) (fun g3 => ?_)
      refine cl_ (c_Main_isSwitch k M) ?_
      exact brbf (fun q => hb ⟨g1, g2, g3, q⟩) no
    · refine cl_ (c_Main_isSeen h b M c 0 (Or.inr ⟨g2, rfl⟩)) ?_
      exact brt rfl no
  · refine cl_ (c_Main_isSeen h a M c 0 (Or.inr ⟨g1, rfl⟩)) ?_
    exact brt rfl no
theorem c_Ref_odds_bad (h : Nat → Int32) (a b k : Int32) (M : am_M) (c : CR h M) (hb : ¬ odB h a b k) : Con 7 mRef_odds [aR 11 0 0, aI a, aI b, aI k] M (some (aI (-1000001))) (rT M) := by
  refine con_of okRef_odds [some (aR 11 0 0), some (aI a), some (aI b), some (aI k), none, none] (some .int) ?_
  intro J hgo
  have no : J 36 [some (aR 11 0 0), some (aI a), some (aI b), some (aI k), none, none] [] (rT M) := by
    refine hgo [] _ _ _ _ ?_
    exact ⟨rfl, rfl⟩
  refine hgo [36] _ _ _ _ ?_
  by_cases g1 : sn h a
  · refine cl_ (c_Ref_isSeen h a _ (CR_T c) 1 (Or.inl ⟨g1, rfl⟩)) ?_
    refine brf (by decide) ?_
    by_cases g2 : sn h b
    · refine cl_ (c_Ref_isSeen h b _ (CR_T c) 1 (Or.inl ⟨g2, rfl⟩)) ?_
      refine brf (by decide) ?_
      refine br_ (fun _ => no) (fun g3 => ?_)
      refine cl_ (c_Ref_in k 0 1 _ _ _ rfl (by decide) (by decide) _) ?_
      exact brbf (fun q => hb ⟨g1, g2, g3, swIn.mp q⟩) no
    · refine cl_ (c_Ref_isSeen h b _ (CR_T c) 0 (Or.inr ⟨g2, rfl⟩)) ?_
      exact brt rfl no
  · refine cl_ (c_Ref_isSeen h a _ (CR_T c) 0 (Or.inr ⟨g1, rfl⟩)) ?_
    exact brt rfl no
theorem c_Main_odds_ring (h : Nat → Int32) (a b k : Int32) (M : am_M) (c : CF h M) (hb : odB h a b k) (hn : ¬ NoRing h) : Con 7 mMain_odds [aR 0 0 0, aI a, aI b, aI k] M (some (aI (-1000002))) M := by
  refine con_of okMain_odds [some (aR 0 0 0), some (aI a), some (aI b), some (aI k), none, none, none] (some .int) ?_
  intro J hgo
  refine hgo [] _ _ _ _ ?_
  refine cl_ (c_Main_isSeen h a M c 1 (Or.inl ⟨hb.1, rfl⟩)) ?_
  refine brf (by decide) ?_
  refine cl_ (c_Main_isSeen h b M c 1 (Or.inl ⟨hb.2.1, rfl⟩)) ?_
  refine brf (by decide) ?_
  refine brf hb.2.2.1 ?_
  refine cl_ (c_Main_isSwitch k M) ?_
  refine brbt hb.2.2.2 ?_
  refine hgo [] _ _ _ _ ?_
  refine cl_ (c_hasRing h M c 1 (Or.inr ⟨hn, rfl⟩)) ?_
  refine brf (by decide) ?_
  exact ⟨rfl, rfl⟩
theorem c_Ref_odds_ring (h : Nat → Int32) (a b k : Int32) (M : am_M) (c : CR h M) (hb : odB h a b k) (hn : ¬ NoRing h) : Con 7 mRef_odds [aR 11 0 0, aI a, aI b, aI k] M (some (aI (-1000002))) (rT M) := by
  refine con_of okRef_odds [some (aR 11 0 0), some (aI a), some (aI b), some (aI k), none, none] (some .int) ?_
  intro J hgo
  refine hgo [] _ _ _ _ ?_
  refine cl_ (c_Ref_isSeen h a _ (CR_T c) 1 (Or.inl ⟨hb.1, rfl⟩)) ?_
  refine brf (by decide) ?_
  refine cl_ (c_Ref_isSeen h b _ (CR_T c) 1 (Or.inl ⟨hb.2.1, rfl⟩)) ?_
  refine brf (by decide) ?_
  refine brf hb.2.2.1 ?_
  refine cl_ (c_Ref_in k 0 1 _ _ _ rfl (by decide) (by decide) _) ?_
  refine brbt (swIn.mpr hb.2.2.2) ?_
  refine hgo [] _ _ _ _ ?_
  refine cl_ (c_inRings h _ (CR_T c)) ?_
  refine brf (fun q => hn (ring_iff.mp q)) ?_
  exact ⟨rfl, rfl⟩
def odV (u w : Nat) (k : Int32) : Int32 := if k = 0 then nI u / nI (Nat.gcd u w) else nI w / nI (Nat.gcd u w)
theorem gcd_b {u w : Nat} (hw : 1 ≤ w) (hw2 : w < 2 ^ 22) : 1 ≤ Nat.gcd u w ∧ Nat.gcd u w < 2 ^ 22 := by
  have h1 := Nat.gcd_pos_of_pos_right (m := u) (n := w) (by omega)
  have h2 := Nat.gcd_le_right u (show 0 < w by omega)
  omega
theorem c_Main_odds_ok (h : Nat → Int32) (a b : Nat) (k : Int32) (u w : Nat) (M : am_M) (c : CF h M) (ho : OC (M 8 0) h) (ha : a < 10) (hb : b < 10) (hod : odB h (nI a) (nI b) k) (hn : NoRing h) (hu : Wy h (mu2 h a b) (sN h) = u) (hw : Wy h (Ah h) (sN h) = w) (hsa : Seen h a = true) (hsb : Seen h b = true) (hab : a ≠ b) (hu2 : u < 2 ^ 22) (hw1 : 1 ≤ w) (hw2 : w < 2 ^ 22) : ConP 7 mMain_odds [aR 0 0 0, aI (nI a), aI (nI b), aI k] M (fun r M2 => r = some (aI (odV u w k)) ∧ (∀ k, k ≠ 8 → M2 k = M k) ∧ OCd (M2 8 0) h) := by
  obtain ⟨gg1, gg2⟩ := gcd_b (u := u) hw1 hw2
  refine con_of okMain_odds [some (aR 0 0 0), some (aI (nI a)), some (aI (nI b)), some (aI k), none, none, none] (some .int) ?_
  intro J hgo
  refine hgo [] _ _ _ _ ?_
  refine cl_ (c_Main_isSeen h (nI a) M c 1 (Or.inl ⟨hod.1, rfl⟩)) ?_
  refine brf (by decide) ?_
  refine cl_ (c_Main_isSeen h (nI b) M c 1 (Or.inl ⟨hod.2.1, rfl⟩)) ?_
  refine brf (by decide) ?_
  refine brf hod.2.2.1 ?_
  refine cl_ (c_Main_isSwitch k M) ?_
  refine brbt hod.2.2.2 ?_
  refine hgo [] _ _ _ _ ?_
  refine cl_ (c_hasRing h M c 0 (Or.inl ⟨hn, rfl⟩)) ?_
  refine brt rfl ?_
  refine hgo [] _ _ _ _ ?_
  refine clp (c_withAhead h a b M c ho ha hb) ?_
  rintro r M1 ⟨rfl, a1, a2⟩
  rw [a2.2.2 a b ha hb hab hsa hsb, hu]
  refine clp (c_Orders_all h M1 (CF_8 c a1) (Or.inr a2)) ?_
  rintro r M2 ⟨rfl, b1, b2⟩
  rw [hw]
  refine cl_ (c_greatestShared u w M2 hu2 hw2) ?_
  refine cl_ (c_Math_max 1 (nI (Nat.gcd u w)) M2) ?_
  rw [max1 gg1 (by omega)]
  have hk : ∀ k, k ≠ 8 → M2 k = M k := fun k k8 => (b1 k k8).trans (a1 k k8)
  refine br_ (fun g => ?_) (fun g => ?_)
  · refine ob_ (nI_ne0 gg1 (by omega)) ?_
    refine hgo [] _ _ _ _ ?_
    refine ⟨?_, hk, b2⟩
    unfold odV
    rw [if_pos g]
  · refine hgo [] _ _ _ _ ?_
    refine ob_ (nI_ne0 gg1 (by omega)) ?_
    refine ⟨?_, hk, b2⟩
    unfold odV
    rw [if_neg g]
theorem c_Ref_odds_ok (h : Nat → Int32) (a b : Nat) (k : Int32) (u w : Nat) (M : am_M) (c : CR h M) (ha : a < 10) (hb : b < 10) (hod : odB h (nI a) (nI b) k) (hn : NoRing h) (hu : Wy h (mu2 h a b) (sN h) = u) (hw : Wy h (Ah h) (sN h) = w) (hu2 : u < 2 ^ 22) (hw1 : 1 ≤ w) (hw2 : w < 2 ^ 22) : ConP 7 mRef_odds [aR 11 0 0, aI (nI a), aI (nI b), aI k] M (fun r M2 => r = some (aI (odV u w k)) ∧ KW M2 (rT M)) := by
  obtain ⟨gg1, gg2⟩ := gcd_b (u := u) hw1 hw2
  refine con_of okRef_odds [some (aR 11 0 0), some (aI (nI a)), some (aI (nI b)), some (aI k), none, none] (some .int) ?_
  intro J hgo
  refine hgo [] _ _ _ _ ?_
  refine cl_ (c_Ref_isSeen h (nI a) _ (CR_T c) 1 (Or.inl ⟨hod.1, rfl⟩)) ?_
  refine brf (by decide) ?_
  refine cl_ (c_Ref_isSeen h (nI b) _ (CR_T c) 1 (Or.inl ⟨hod.2.1, rfl⟩)) ?_
  refine brf (by decide) ?_
  refine brf hod.2.2.1 ?_
  refine cl_ (c_Ref_in k 0 1 _ _ _ rfl (by decide) (by decide) _) ?_
  refine brbt (swIn.mpr hod.2.2.2) ?_
  refine hgo [] _ _ _ _ ?_
  refine cl_ (c_inRings h _ (CR_T c)) ?_
  refine brt (ring_iff.mpr hn) ?_
  refine hgo [] _ _ _ _ ?_
  refine clp (c_ordersWith h (Ah h) (-1) (-1) (rT M) (CR_T c) (Or.inl ⟨rfl, rfl, rfl⟩)) ?_
  rintro r M1 ⟨rfl, k1⟩
  rw [hw]
  refine clp (c_ordersWith h (mu2 h a b) (nI a) (nI b) M1 (CR_KW (CR_T c) k1) (Or.inr ⟨a, b, ha, hb, rfl, rfl, rfl⟩)) ?_
  rintro r M2 ⟨rfl, k2⟩
  rw [hu]
  refine br_ (fun g => ?_) (fun g => ?_)
  · refine hgo [] _ _ _ _ ?_
    refine cl_ (c_divisor u w M2 (by omega) (by omega)) ?_
    refine ob_ (nI_ne0 gg1 (by omega)) ?_
    refine ⟨?_, k1.tr k2⟩
    unfold odV
    rw [if_pos g]
  · refine hgo [] _ _ _ _ ?_
    refine cl_ (c_divisor u w M2 (by omega) (by omega)) ?_
    refine ob_ (nI_ne0 gg1 (by omega)) ?_
    refine ⟨?_, k1.tr k2⟩
    unfold odV
    rw [if_neg g]
theorem NR_W {h : Nat → Int32} {M : am_M} (c : CF h M) (hn : NoRing h) : 1 ≤ Wy h (Ah h) (sN h) := by
  obtain ⟨⟨m, g, hO, -, -⟩, -⟩ := c.2.2.2.1 hn
  exact W_one c.1 hn hO
theorem op_odds (a b k : Int32) (M : am_M) (hR : Rel M) : OpAt mMain_odds mRef_odds [aI a, aI b, aI k] M := by
  obtain ⟨c1, c2⟩ := Rel_CF hR
  have ho := hR.2.2.2.2.1.2.2
  by_cases hb : odB (M 11 0 4) a b k
  · by_cases hr : NoRing (M 11 0 4)
    · obtain ⟨p, hp, hs, rfl⟩ := sn_nat hb.1
      obtain ⟨q, hq, hs2, rfl⟩ := sn_nat hb.2.1
      have p10 := c1.1.2.1.2
      have hw1 := NR_W c1 hr
      have hw2 := W_bd (h := M 11 0 4) (mu := Ah (M 11 0 4)) (sN_lt (M 11 0 4))
      have hu2 := W_bd (h := M 11 0 4) (mu := mu2 (M 11 0 4) p q) (sN_lt (M 11 0 4))
      generalize hw : Wy (M 11 0 4) (Ah (M 11 0 4)) (sN (M 11 0 4)) = w at hw1 hw2
      generalize hu : Wy (M 11 0 4) (mu2 (M 11 0 4) p q) (sN (M 11 0 4)) = u at hu2
      exact op_ord hR (c_Main_odds_ok _ p q k u w M c1 ho (by omega) (by omega) hb hr hu hw hs hs2 (fun e => hb.2.2.1 (by rw [e])) (by omega) hw1 (by omega)) (fun M1 cr _ => c_Ref_odds_ok _ p q k u w M1 cr (by omega) (by omega) hb hr hu hw (by omega) hw1 (by omega))
    · exact op_mk (c_Main_odds_ring _ a b k M c1 hb hr) (c_Ref_odds_ring _ a b k M c2 hb hr) (Rel_bad hR)
  · exact op_mk (c_Main_odds_bad _ a b k M c1 hb) (c_Ref_odds_bad _ a b k M c2 hb) (Rel_bad hR)
