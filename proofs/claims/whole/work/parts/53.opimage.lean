/-! image -/
theorem op_mkP {nc nr d1 d2 : Nat} {as : List am_V} {M : am_M} {v : Int32} {Po : Option am_V → am_M → Prop} (h1 : ConP d1 nc (aR 0 0 0 :: as) M Po) (h2 : ∀ r M1, Po r M1 → r = some (aI v) ∧ ∃ Po2 : Option am_V → am_M → Prop, ConP d2 nr (aR 11 0 0 :: as) M1 Po2 ∧ ∀ r2 M2, Po2 r2 M2 → r2 = some (aI v) ∧ Rel M2) (hd1 : d1 < 100 := by decide) (hd2 : d2 < 100 := by decide) : OpAt nc nr as M :=
  ⟨v, d1, _, hd1, h1, fun r M1' hp => by
    obtain ⟨e1, Po2, e2, e3⟩ := h2 r M1' hp
    exact ⟨e1, d2, Po2, hd2, e2, e3⟩⟩
theorem HV_cong {h g : Nat → Int32} (e : ∀ i, i < 198 → g i = h i) (hv : HV h) : HV g := by
  obtain ⟨⟨v0, w8⟩, ⟨v1, p10⟩, ⟨v2, t10⟩, ⟨v3, s9⟩, hw, hp, ht, hs⟩ := hv
  have n0 : nW g = nW h := by unfold nW hN; rw [e 0 (by omega)]
  have n1 : nP g = nP h := by unfold nP hN; rw [e 1 (by omega)]
  have n2 : nT g = nT h := by unfold nT hN; rw [e 2 (by omega)]
  have n3 : nS g = nS h := by unfold nS hN; rw [e 3 (by omega)]
  unfold HV
  rw [n0, n1, n2, n3, e 0 (by omega), e 1 (by omega), e 2 (by omega), e 3 (by omega)]
  refine ⟨⟨v0, w8⟩, ⟨v1, p10⟩, ⟨v2, t10⟩, ⟨v3, s9⟩, ?_, ?_, ?_, ?_⟩
  · intro w hw2
    rw [e _ (by omega), e _ (by omega), e _ (by omega)]
    exact hw w hw2
  · intro p hp2
    rw [e _ (by omega), e _ (by omega), e _ (by omega), e _ (by omega), e _ (by omega)]
    exact hp p hp2
  · intro t ht2
    rw [e _ (by omega), e _ (by omega), e _ (by omega)]
    exact ht t ht2
  · intro s hs2
    have q1 : wl g s = wl h s := by unfold wl hN; rw [e _ (by omega)]
    have q2 : dp g s = dp h s := by unfold dp hN; rw [e _ (by omega)]
    rw [q1, q2, e _ (by omega), e _ (by omega)]
    obtain ⟨a1, a2, a3, a4, a5, a6⟩ := hs s hs2
    refine ⟨a1, a2, a3, a4, a5, fun k hk => ?_⟩
    have q3 : ly g s k = ly h s k := by unfold ly hN; rw [e _ (by omega)]
    rw [q3, e _ (by omega)]
    exact a6 k hk
theorem RHw_cong {C : Nat → Nat → Int32} {h g : Nat → Int32} (e : ∀ i, i < 198 → g i = h i) (hv : HV h) (r : RHw C h) : RHw C g := by
  have w8 := hv.1.2
  have n0 : nW g = nW h := by unfold nW hN; rw [e 0 (by omega)]
  refine ⟨by rw [e 0 (by omega)]; exact r.1, fun w hw => ?_⟩
  rw [n0] at hw
  rw [e _ (by omega), e _ (by omega), e _ (by omega)]
  exact r.2 w hw
theorem RHp_cong {C : Nat → Nat → Int32} {h g : Nat → Int32} (e : ∀ i, i < 198 → g i = h i) (hv : HV h) (r : RHp C h) : RHp C g := by
  have w8 := hv.2.1.2
  have n0 : nP g = nP h := by unfold nP hN; rw [e 1 (by omega)]
  refine ⟨by rw [e 1 (by omega)]; exact r.1, fun w hw => ?_⟩
  rw [n0] at hw
  rw [e _ (by omega), e _ (by omega), e _ (by omega), e _ (by omega), e _ (by omega)]
  exact r.2 w hw
theorem RHt_cong {C : Nat → Nat → Int32} {h g : Nat → Int32} (e : ∀ i, i < 198 → g i = h i) (hv : HV h) (r : RHt C h) : RHt C g := by
  have w8 := hv.2.2.1.2
  have n0 : nT g = nT h := by unfold nT hN; rw [e 2 (by omega)]
  refine ⟨by rw [e 2 (by omega)]; exact r.1, fun w hw => ?_⟩
  rw [n0] at hw
  rw [e _ (by omega), e _ (by omega), e _ (by omega)]
  exact r.2 w hw
theorem RHs_cong {C : Nat → Nat → Int32} {h g : Nat → Int32} (e : ∀ i, i < 198 → g i = h i) (hv : HV h) (r : RHs C h) : RHs C g := by
  have w8 := hv.2.2.2.1.2
  have n0 : nS g = nS h := by unfold nS hN; rw [e 3 (by omega)]
  refine ⟨by rw [e 3 (by omega)]; exact r.1, fun w hw => ?_⟩
  rw [n0] at hw
  have q2 : dp g w = dp h w := by unfold dp hN; rw [e _ (by omega)]
  have d8 := (hv.2.2.2.2.2.2.2 w hw).2.2.2.2.1
  obtain ⟨a1, a2, a3⟩ := r.2 w hw
  rw [e _ (by omega), e _ (by omega), q2]
  refine ⟨a1, a2, fun k hk => ?_⟩
  rw [e _ (by omega)]
  exact a3 k hk
theorem nW_cong {h g : Nat → Int32} (e : ∀ i, i < 198 → g i = h i) : nW g = nW h := by unfold nW hN; rw [e 0 (by omega)]
theorem Rel_img {M M2 : am_M} (h : Rel M) (h1 : M2 1 0 = M 1 0) (h2 : M2 2 0 = M 2 0) (h4 : M2 4 0 = M 4 0) (h5 : M2 5 0 = M 5 0) (h7 : M2 7 0 = M 7 0) (h8 : M2 8 0 = M 8 0) (h10 : M2 10 0 = M 10 0) (hr : ∀ o, o ≠ 0 → o ≠ 13 → o ≠ 14 → M2 11 0 o = M 11 0 o) (hs : ∀ i, i ≠ 0 → M2 11 0 0 i = M 11 0 0 i) (ha : M2 0 0 0 = M 0 0 0) (hI : RelI M2) : Rel M2 := by
  obtain ⟨g1, g2, g3, g4, g5, g6, g7⟩ := h
  unfold Rel RelH RelA
  rw [h1, h2, h4, h5, h7, h8, h10, ha, hr 1 (by decide) (by decide) (by decide), hr 2 (by decide) (by decide) (by decide), hr 3 (by decide) (by decide) (by decide), hr 4 (by decide) (by decide) (by decide), hr 6 (by decide) (by decide) (by decide), hr 7 (by decide) (by decide) (by decide), hr 8 (by decide) (by decide) (by decide), hr 9 (by decide) (by decide) (by decide), hr 15 (by decide) (by decide) (by decide), hs 1 (by decide), hs 7 (by decide), hs 9 (by decide), hs 10 (by decide), hs 18 (by decide), hs 28 (by decide)]
  exact ⟨g1, g2, g3, g4, g5, hI, g7⟩
theorem c_Main_isSwitch (x : Int32) (M : am_M) : Con 1 mMain_isSwitch [aI x] M (some (aI (b2i (x = 0 ∨ x = 1)))) M := by
  refine con_of okMain_isSwitch [some (aI x)] (some .boolean) ?_
  intro J hgo
  have p9 : x = 0 ∨ x = 1 → J 9 [some (aI x)] [] M := by
    intro h
    refine hgo [] _ _ _ _ ?_
    refine hgo [] _ _ _ _ ?_
    refine ob_ (by decide) ⟨?_, rfl⟩
    rw [b2i_t h]
  refine hgo [9] _ _ _ _ ?_
  refine br_ (fun h1 => p9 (Or.inl h1)) (fun h1 => ?_)
  refine br_ (fun h2 => p9 (Or.inr h2)) (fun h2 => ?_)
  refine hgo [] _ _ _ _ ?_
  refine ob_ (by decide) ⟨?_, rfl⟩
  rw [b2i_f (by rintro (h | h); exact h1 h; exact h2 h)]
theorem swIn {x : Int32} : (0 ≤ x ∧ x ≤ 1) ↔ (x = 0 ∨ x = 1) := by
  simp only [i3_le, i3_eq, Int32.reduceToInt]
  omega
theorem c_Main_image_bad (x : Int32) (M : am_M) (h : ¬ (x = 0 ∨ x = 1)) : Con 5 mMain_image [aR 0 0 0, aI x] M (some (aI (-1000001))) M := by
  refine con_of okMain_image [some (aR 0 0 0), some (aI x), none] (some .int) ?_
  intro J hgo
  refine hgo [] _ _ _ _ ?_
  refine cl_ (c_Main_isSwitch x _) ?_
  refine brbf h ?_
  exact ⟨rfl, rfl⟩
theorem c_Main_image_state (x : Int32) (M : am_M) (h : x = 0 ∨ x = 1) (hn : M 4 0 0 0 = nI 0) : Con 5 mMain_image [aR 0 0 0, aI x] M (some (aI (-1000002))) M := by
  refine con_of okMain_image [some (aR 0 0 0), some (aI x), none] (some .int) ?_
  intro J hgo
  refine hgo [] _ _ _ _ ?_
  refine cl_ (c_Main_isSwitch x _) ?_
  refine brbt h ?_
  refine hgo [] _ _ _ _ ?_
  refine cl_ (c_House_stands 0 0 _ hn (by omega)) ?_
  refine brbf (by omega) ?_
  exact ⟨rfl, rfl⟩
def ImgP (M M2 : am_M) (j i : Nat) (h : Nat → Int32) : Prop := ∃ Ma, HSame M Ma j ∧ RHw (Ma 4 j) h ∧ RHp (Ma 4 j) h ∧ RHt (Ma 4 j) h ∧ SSame Ma M2 i ∧ RHs (M2 5 i) h
theorem c_Main_image_0 (w : Nat) (h : Nat → Int32) (M : am_M) (hn : M 4 0 0 0 = nI w) (hw : 0 < w) (hw8 : w ≤ 8) (hv : HV h) (hr : RH (M 4 0) (M 5 0) h) : ConP 5 mMain_image [aR 0 0 0, aI (nI 0)] M (fun r M2 => r = some (aI 1) ∧ ImgP M M2 2 1 h) := by
  refine con_of okMain_image [some (aR 0 0 0), some (aI (nI 0)), none] (some .int) ?_
  intro J hgo
  refine hgo [] _ _ _ _ ?_
  refine cl_ (c_Main_isSwitch (nI 0) _) ?_
  refine brbt (Or.inl rfl) ?_
  refine hgo [] _ _ _ _ ?_
  refine cl_ (c_House_stands w 0 _ hn (by omega)) ?_
  refine brbt hw ?_
  refine hgo [] _ _ _ _ ?_
  refine brt rfl ?_
  refine hgo [] _ _ _ _ ?_
  refine clp (c_House_take 2 0 h M (by decide) hv hr.1 hr.2.1 hr.2.2.1) ?_
  rintro r Ma ⟨rfl, a1, a2, a3, a4⟩
  refine clp (c_Spots_take 1 0 h Ma (by decide) hv (by rw [a1.1 5 (by decide)]; exact hr.2.2.2)) ?_
  rintro r M2 ⟨rfl, b1, b2⟩
  exact ⟨rfl, Ma, a1, a2, a3, a4, b1, b2⟩
theorem c_Main_image_1 (w : Nat) (h : Nat → Int32) (M : am_M) (hn : M 4 0 0 0 = nI w) (hw : 0 < w) (hw8 : w ≤ 8) (hv : HV h) (hr : RH (M 4 0) (M 5 0) h) : ConP 5 mMain_image [aR 0 0 0, aI (nI 1)] M (fun r M2 => r = some (aI 1) ∧ ImgP M M2 3 2 h) := by
  refine con_of okMain_image [some (aR 0 0 0), some (aI (nI 1)), none] (some .int) ?_
  intro J hgo
  refine hgo [] _ _ _ _ ?_
  refine cl_ (c_Main_isSwitch (nI 1) _) ?_
  refine brbt (Or.inr rfl) ?_
  refine hgo [] _ _ _ _ ?_
  refine cl_ (c_House_stands w 0 _ hn (by omega)) ?_
  refine brbt hw ?_
  refine hgo [] _ _ _ _ ?_
  refine brf (by decide) ?_
  refine hgo [] _ _ _ _ ?_
  refine clp (c_House_take 3 0 h M (by decide) hv hr.1 hr.2.1 hr.2.2.1) ?_
  rintro r Ma ⟨rfl, a1, a2, a3, a4⟩
  refine clp (c_Spots_take 2 0 h Ma (by decide) hv (by rw [a1.1 5 (by decide)]; exact hr.2.2.2)) ?_
  rintro r M2 ⟨rfl, b1, b2⟩
  exact ⟨rfl, Ma, a1, a2, a3, a4, b1, b2⟩
theorem c_Ref_image_bad (x : Int32) (M : am_M) (h : ¬ (x = 0 ∨ x = 1)) : Con 5 mRef_image [aR 11 0 0, aI x] M (some (aI (-1000001))) (rT M) := by
  refine con_of okRef_image [some (aR 11 0 0), some (aI x), none] (some .int) ?_
  intro J hgo
  refine hgo [] _ _ _ _ ?_
  refine cl_ (c_Ref_in x 0 1 _ _ _ rfl (by decide) (by decide) _) ?_
  refine brbf (fun q => h (swIn.mp q)) ?_
  exact ⟨rfl, rfl⟩
theorem c_Ref_image_state (x : Int32) (M : am_M) (h : x = 0 ∨ x = 1) (hn : M 11 0 0 7 = 0) : Con 5 mRef_image [aR 11 0 0, aI x] M (some (aI (-1000002))) (rT M) := by
  refine con_of okRef_image [some (aR 11 0 0), some (aI x), none] (some .int) ?_
  intro J hgo
  refine hgo [] _ _ _ _ ?_
  refine cl_ (c_Ref_in x 0 1 _ _ _ rfl (by decide) (by decide) _) ?_
  refine brbt (swIn.mpr h) ?_
  refine hgo [] _ _ _ _ ?_
  refine brt hn ?_
  exact ⟨rfl, rfl⟩
def imF (f h : Nat → Int32) (k n : Nat) : Nat → Int32 := fun x => if 198 * k ≤ x ∧ x < 198 * k + n then h (x - 198 * k) else f x
theorem ix198 {k i : Nat} (hk : k < 2) (hi : i ≤ 198) : (198 : Int32) * nI k + nI i = nI (198 * k + i) := by
  rw [show (198 : Int32) = nI 198 from rfl, pk_mul, nI_add]
theorem c_Ref_image_ok (k : Nat) (hk : k < 2) (M : am_M) (hth : M 11 0 0 7 = 1) : Con 5 mRef_image [aR 11 0 0, aI (nI k)] M (some (aI 1)) (sA (sA (rT M) 11 0 14 (imF (M 11 0 14) (M 11 0 4) k 198)) 11 0 13 (upd (M 11 0 13) k 1)) := by
  refine con_of okRef_image [some (aR 11 0 0), some (aI (nI k)), none] (some .int) ?_
  intro J hgo
  have loop : ∀ m i iv M2, m = 198 - i → i ≤ 198 → iv = nI i → M2 = sA (rT M) 11 0 14 (imF (M 11 0 14) (M 11 0 4) k i) → J 30 [some (aR 11 0 0), some (aI (nI k)), some (aI iv)] [] M2 := by
    intro m
    induction m with
    | zero =>
      intro i iv M2 hm hi hv hM
      obtain rfl : i = 198 := by omega
      subst hv hM
      refine hgo [] _ _ _ _ ?_
      refine brt (by decide) ?_
      refine hgo [] _ _ _ _ ?_
      refine ob_ (vp_in_nI (by omega) (by omega)) ⟨rfl, ?_⟩
      rw [cl_nI (by omega)]
      rfl
    | succ m ih =>
      intro i iv M2 hm hi hv hM
      subst hv hM
      have hi : i < 198 := by omega
      have e0 := ix198 hk (show i ≤ 198 by omega)
      refine hgo [] _ _ _ _ ?_
      refine brf (nI_ge (b := 198) hi (by omega)) ?_
      refine ob_ (vp_in_nI (by omega) (by omega)) ?_
      refine ob_ (by rw [e0]; exact vp_in_nI (by omega) (by omega)) ?_
      refine ih (i + 1) _ _ (by omega) (by omega) (nI_1 i) ?_
      rw [e0, cl_nI (by omega), cl_nI (by omega), sA_sA]
      congr 1
      funext x
      simp only [upd, imF]
      by_cases hx : x = 198 * k + i
      · rw [if_pos hx, if_pos (by omega)]
        show M 11 0 4 i = _
        congr 1
        omega
      · rw [if_neg hx]
        show (if 198 * k ≤ x ∧ x < 198 * k + i then _ else _) = _
        by_cases h2 : 198 * k ≤ x ∧ x < 198 * k + i
        · rw [if_pos h2, if_pos (by omega)]
        · rw [if_neg h2, if_neg (by omega)]
  refine hgo [] _ _ _ _ ?_
  refine cl_ (c_Ref_in (nI k) 0 1 _ _ _ rfl (by decide) (by decide) _) ?_
  refine brbt ⟨nI_pos' (by omega), nI_le (b := 1) (by omega) (by omega)⟩ ?_
  refine hgo [] _ _ _ _ ?_
  refine brf (show ¬ M 11 0 0 7 = 0 by rw [hth]; decide) ?_
  refine hgo [30] _ _ _ _ ?_
  refine loop _ 0 _ _ rfl (by omega) rfl ?_
  have e : imF (M 11 0 14) (M 11 0 4) k 0 = M 11 0 14 := by
    funext x
    unfold imF
    rw [if_neg (by omega)]
  rw [e]
  exact (sA_id (M := rT M) (k := 11) (j := 0) (o := 14)).symm
