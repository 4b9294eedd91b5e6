/-! learn -/
theorem c_Facts_hasRing (M : am_M) : Con 1 mFacts_hasRing [aR 7 0 0] M (some (aI (b2i (¬ M 7 0 0 3 = 0)))) M := by
  refine con_of okFacts_hasRing [some (aR 7 0 0)] (some .boolean) ?_
  intro J hgo
  refine hgo [] _ _ _ _ ?_
  refine br_ (fun h1 => ?_) (fun h1 => ?_)
  · refine hgo [] _ _ _ _ ?_
    refine ob_ (by decide) ⟨?_, rfl⟩
    rw [b2i_f (fun q => q h1)]
  · refine hgo [] _ _ _ _ ?_
    refine ob_ (by decide) ⟨?_, rfl⟩
    rw [b2i_t h1]
theorem ord_inj {h : Nat → Int32} {m : Nat} {g : Nat → Nat} (hO : OrdG h m g) {i j : Nat} (hi : i < m) (hj : j < m) (e : g i = g j) : i = j := by
  have key : ∀ a b, a < b → b < m → g a = g b → False := by
    intro a b hab hb e
    have h1 := (fo_S (hO.2.1 b hb).2.1).2.1
    have h2 : gG g b (g b) = true := exB_iff.mpr ⟨a, hab, by simpa using e⟩
    rw [h1] at h2
    cases h2
  rcases Nat.lt_trichotomy i j with h1 | h1 | h1
  · exact (key i j h1 hj e).elim
  · exact h1
  · exact (key j i h1 hi e.symm).elim
theorem ord_lt {h : Nat → Int32} {m : Nat} {g : Nat → Nat} (hO : OrdG h m g) {c j : Nat} (hc : c < m) (hj : j < m) (ha : Ah h (g j) (g c) = true) : c < j := by
  have h1 := (fo_S (hO.2.1 j hj).2.1).2.2 (g c) (hO.2.1 c hc).1 ha
  obtain ⟨i, hi, h2⟩ := exB_iff.mp h1
  have e : g i = g c := by simpa using h2
  have := ord_inj hO (by omega) hc e
  omega
theorem c_Facts_learn (h : Nat → Int32) (M : am_M) (hv : HV h) (hr : RH (M 4 0) (M 5 0) h) : ConP 5 mFacts_learn [aR 7 0 0] M (fun r M2 => r = none ∧ (∀ k, k ≠ 7 → M2 k = M k) ∧ FO (M2 7 0) h ∧ FX (M2 7 0) h) := by
  have p10 := hv.2.1.2
  refine con_of okFacts_learn [some (aR 7 0 0), none] none ?_
  intro J hgo
  have fin : ∀ (Ma : am_M) (m : Nat) (g : Nat → Nat) (f5 f6 : Nat → Int32) (iv : Int32), (∀ k, k ≠ 7 → Ma k = M k) → FO (Ma 7 0) h → NoRing h → OrdG h m g → Ma 7 0 0 8 = nI m → (∀ i, i < m → Ma 7 0 4 i = nI (g i)) → (∀ j, j < m → (f5 (g j)).toInt = YL h (g j)) → (∀ j, j < m → (f6 (g j)).toInt = YU h (g j)) → iv < 0 → J 58 [some (aR 7 0 0), some (aI iv)] [] (sA (sA Ma 7 0 5 f5) 7 0 6 f6) := by
    intro Ma m g f5 f6 iv hk hF hn hO h8 h4 h5 h6 hv2
    refine hgo [] _ _ _ _ ?_
    refine brt hv2 ?_
    refine hgo [] _ _ _ _ ?_
    refine ⟨rfl, fun k h7 => by rw [sA_k h7, sA_k h7]; exact hk k h7, hF, fun _ => ⟨⟨m, g, hO, h8, h4⟩, fun p hp hs => ?_⟩, fun q => absurd hn q⟩
    obtain ⟨j, hj, e⟩ := exB_iff.mp (ord_all hv hn hO p hp hs)
    have e : g j = p := by simpa using e
    rw [← e]
    exact ⟨h5 j hj, h6 j hj⟩
  have down : ∀ (Ma : am_M) (m : Nat) (g : Nat → Nat) (f5 : Nat → Int32), (∀ k, k ≠ 7 → Ma k = M k) → FO (Ma 7 0) h → NoRing h → OrdG h m g → Ma 7 0 0 8 = nI m → (∀ i, i < m → Ma 7 0 4 i = nI (g i)) → (∀ j, j < m → (f5 (g j)).toInt = YL h (g j)) → ∀ c iv f6, c ≤ m → iv = nI c - 1 → (∀ j, c ≤ j → j < m → (f6 (g j)).toInt = YU h (g j)) → J 58 [some (aR 7 0 0), some (aI iv)] [] (sA (sA Ma 7 0 5 f5) 7 0 6 f6) := by
    intro Ma m g f5 hk hF hn hO h8 h4 h5 c
    have m10 := hO.1
    induction c with
    | zero =>
      intro iv f6 hc hv2 h6
      refine fin Ma m g f5 f6 iv hk hF hn hO h8 h4 h5 (fun j hj => h6 j (Nat.zero_le _) hj) ?_
      rw [hv2]
      decide
    | succ c ih =>
      intro iv f6 hc hv2 h6
      have hcm : c < m := by omega
      have hcc : (nI c).toNatClampNeg = c := cl_nI (by omega)
      have e : iv = nI c := by rw [hv2]; exact pk_sub (a := c + 1) (b := 1) (by omega)
      subst e
      have hgc := (hO.2.1 c hcm).1
      have hgs := (fo_S (hO.2.1 c hcm).2.1).1
      refine hgo [] _ _ _ _ ?_
      refine brf (nI_nlt (a := c) (b := 0) (by omega) (by omega)) ?_
      refine ob_ (vp_in_nI (by omega) (by omega)) ?_
      refine clpe (c_dateMost h (g c) (sA (sA Ma 7 0 5 f5) 7 0 6 f6) hv (by show RHp (Ma 4 0) h; rw [hk 4 (by decide)]; exact hr.2.1) (Seen_in hv hgs) (fun q hq => hF.2.2.2.1 q hq) (fun q hq ha => ?_)) (by show [aR 7 0 0, aI (Ma 7 0 4 (nI c).toNatClampNeg)] = _; rw [hcc, h4 c hcm]) rfl ?_
      · obtain ⟨a1, a2, a3, a4⟩ := Ah_in hv ha
        obtain ⟨j, hj, e⟩ := exB_iff.mp (ord_all hv hn hO q hq a3)
        have e : g j = q := by simpa using e
        rw [← e] at ha ⊢
        have := ord_lt hO hcm hj ha
        have hb := YU_in hv (show g j < nP h by rw [e]; exact a1)
        exact ⟨h6 j (by omega) hj, by omega, by omega⟩
      · rintro r M3 ⟨rfl, v, rfl, hv3⟩
        rw [← YU_eq hn (g c) hgc] at hv3
        have := ih (nI c + -1) (upd f6 (g c) v) (by omega) (by rw [Int32.sub_eq_add_neg]) (fun j hj1 hj2 => ?_)
        · rw [sA_sA, sA_s]
          exact this
        · by_cases e : g j = g c
          · rw [e, upd_s]
            exact hv3
          · rw [upd_n e]
            refine h6 j ?_ hj2
            have : j ≠ c := fun q => e (by rw [q])
            omega
  have up : ∀ (Ma : am_M) (m : Nat) (g : Nat → Nat), (∀ k, k ≠ 7 → Ma k = M k) → FO (Ma 7 0) h → NoRing h → OrdG h m g → Ma 7 0 0 8 = nI m → (∀ i, i < m → Ma 7 0 4 i = nI (g i)) → ∀ t i iv f5, t = m - i → i ≤ m → iv = nI i → (∀ j, j < i → (f5 (g j)).toInt = YL h (g j)) → J 27 [some (aR 7 0 0), some (aI iv)] [] (sA Ma 7 0 5 f5) := by
    intro Ma m g hk hF hn hO h8 h4 t
    have m10 := hO.1
    induction t with
    | zero =>
      intro i iv f5 ht hi hv2 h5
      obtain rfl : i = m := by omega
      subst hv2
      refine hgo [] _ _ _ _ ?_
      refine brt (by show Ma 7 0 0 8 ≤ nI i; rw [h8]; exact nI_le (Nat.le_refl _) (by omega)) ?_
      refine hgo [58] _ _ _ _ ?_
      have := down Ma i g f5 hk hF hn hO h8 h4 h5 i (nI i - 1) (Ma 7 0 6) (Nat.le_refl _) rfl (fun j h1 h2 => by omega)
      rw [show Ma 7 0 6 = sA Ma 7 0 5 f5 7 0 6 from rfl, sA_id] at this
      rw [← h8] at this
      exact this
    | succ t ih =>
      intro i iv f5 ht hi hv2 h5
      subst hv2
      have him : i < m := by omega
      have hic : (nI i).toNatClampNeg = i := cl_nI (by omega)
      have hgc := (hO.2.1 i him).1
      obtain ⟨hgs, -, hga⟩ := fo_S (hO.2.1 i him).2.1
      refine hgo [] _ _ _ _ ?_
      refine brf (by show ¬ Ma 7 0 0 8 ≤ nI i; rw [h8]; exact nI_ge him (by omega)) ?_
      refine ob_ (vp_in_nI (by omega) (by omega)) ?_
      refine clpe (c_dateLeast h (g i) (sA Ma 7 0 5 f5) hv (by show RHw (Ma 4 0) h; rw [hk 4 (by decide)]; exact hr.1) (by show RHp (Ma 4 0) h; rw [hk 4 (by decide)]; exact hr.2.1) (Seen_in hv hgs) (fun w hw => hF.2.2.1 w hw) (hF.2.2.2.1 _ hgc) (fun q hq ha => ?_)) (by show [aR 7 0 0, aI (Ma 7 0 4 (nI i).toNatClampNeg)] = _; rw [hic, h4 i him]) rfl ?_
      · obtain ⟨j, hj, e⟩ := exB_iff.mp (hga q hq ha)
        have e : g j = q := by simpa using e
        have hb := YL_in hv (Ah_in hv ha).2.1
        rw [← e] at hb ⊢
        exact ⟨h5 j hj, by omega, by omega⟩
      · rintro r M3 ⟨rfl, v, rfl, hv3⟩
        rw [← YL_eq hn (g i) hgc] at hv3
        have := ih (i + 1) (nI i + 1) (upd f5 (g i) v) (by omega) (by omega) (nI_1 i) (fun j hj => ?_)
        · rw [sA_sA, sA_s]
          exact this
        · by_cases e : g j = g i
          · rw [e, upd_s]
            exact hv3
          · rw [upd_n e]
            refine h5 j ?_
            have : j ≠ i := fun q => e (by rw [q])
            omega
  refine hgo [] _ _ _ _ ?_
  refine clp (c_Facts_gather h M hv hr) ?_
  rintro r M1 ⟨rfl, a1, a2, a3, a4⟩
  refine clp (c_Facts_close (Ah h) M1 a4) ?_
  rintro r M2 ⟨rfl, b1, b2, b3⟩
  have hFO : ∀ Mx : am_M, Mx 7 0 0 2 = M2 7 0 0 2 → Mx 7 0 0 3 = M2 7 0 0 3 → Mx 7 0 1 = M2 7 0 1 → Mx 7 0 2 = M2 7 0 2 → Mx 7 0 3 = M2 7 0 3 → FO (Mx 7 0) h := by
    intro Mx e1 e2 e3 e4 e5
    refine ⟨by rw [e1, b1.2.2 2 (by decide)]; exact a2, by rw [e2]; exact b3, fun w hw => by rw [e3, b1.2.1 1 (by decide) (by decide)]; exact a3 w hw, fun p hp => by rw [e4, b1.2.1 2 (by decide) (by decide)]; exact a4 p hp, fun p hp => by rw [e5]; exact b2 p hp⟩
  have hk2 : ∀ k, k ≠ 7 → M2 k = M k := fun k hk => (b1.1 k hk).trans (a1.1 k hk)
  refine cl_ (c_Facts_hasRing _) ?_
  refine brb (fun g1 => ?_) (fun g1 => ?_)
  · have g1 : M2 7 0 0 3 = 0 := Decidable.not_not.mp g1
    rw [b3] at g1
    have hn : NoRing h := fun p hp => bs_zero.mp g1 p hp
    refine hgo [27] _ _ _ _ ?_
    refine clp (c_Facts_arrange h _ (hFO _ rfl rfl rfl rfl rfl).1 (hFO _ rfl rfl rfl rfl rfl).2.2.2.1 rfl) ?_
    rintro r M4 ⟨rfl, c1, m, g, hO, h8, h4⟩
    have := up M4 m g (fun k hk => (c1.1 k hk).trans ((sA_k hk).trans (hk2 k hk))) (hFO M4 (c1.2.2 2 (by decide)) (c1.2.2 3 (by decide)) (c1.2.1 1 (by decide) (by decide)) (c1.2.1 2 (by decide) (by decide)) (c1.2.1 3 (by decide) (by decide))) hn hO h8 h4 m 0 0 (M4 7 0 5) (by omega) (by omega) rfl (fun j hj => by omega)
    rw [sA_id] at this
    exact this
  · have g1 : ¬ M2 7 0 0 3 = 0 := g1
    have hn : ¬ NoRing h := by
      intro q
      apply g1
      rw [b3]
      exact bs_zero.mpr q
    exact ⟨rfl, fun k hk => (sA_k hk).trans (hk2 k hk), hFO _ rfl rfl rfl rfl rfl, fun q => absurd q hn, fun _ => rfl⟩
