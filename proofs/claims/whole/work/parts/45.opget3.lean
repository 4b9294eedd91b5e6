/-! count -/
def cnt (P : Nat → Bool) : Nat → Nat
  | 0 => 0
  | n + 1 => cnt P n + (if P n then 1 else 0)
theorem cnt_le (P : Nat → Bool) : ∀ n, cnt P n ≤ n
  | 0 => Nat.le_refl _
  | n + 1 => by
    have := cnt_le P n
    unfold cnt
    split <;> omega
theorem cnt_cong {P Q : Nat → Bool} : ∀ {n : Nat}, (∀ i, i < n → P i = Q i) → cnt P n = cnt Q n
  | 0, _ => rfl
  | n + 1, h => by
    unfold cnt
    rw [cnt_cong (fun i hi => h i (by omega)), h n (by omega)]
theorem c_Rows_howMany (M : am_M) : Con 1 mRows_howMany [aR 1 0 0] M (some (aI (nI (cnt (fun r => !(M 1 0 1 r == 0)) 8)))) M := by
  refine con_of okRows_howMany [some (aR 1 0 0), none, none] (some .int) ?_
  intro J hgo
  have loop : ∀ m r a b, m = 8 - r → r ≤ 8 → a = nI (cnt (fun r => !(M 1 0 1 r == 0)) r) → b = nI r → J 4 [some (aR 1 0 0), some (aI a), some (aI b)] [] M := by
    intro m
    induction m with
    | zero =>
      intro r a b hm hr ha hb
      obtain rfl : r = 8 := by omega
      subst hb
      refine hgo [] _ _ _ _ ?_
      refine brt (by decide) ?_
      refine hgo [] _ _ _ _ ?_
      refine ⟨?_, rfl⟩
      rw [ha]
    | succ m ih =>
      intro r a b hm hr ha hb
      subst hb
      refine hgo [] _ _ _ _ ?_
      refine brf (nI_ge (b := 8) (by omega) (by omega)) ?_
      refine ob_ (vp_in_nI (by omega) (by omega)) ?_
      refine br_ (fun h1 => ?_) (fun h1 => ?_)
      · have h1 : M 1 0 1 (nI r).toNatClampNeg = 0 := h1
        rw [cl_nI (by omega)] at h1
        refine hgo [] _ _ _ _ ?_
        refine ih (r + 1) _ _ (by omega) (by omega) ?_ (nI_1 r)
        simp [cnt, h1, ha]
      · have h1 : ¬ M 1 0 1 (nI r).toNatClampNeg = 0 := h1
        rw [cl_nI (by omega)] at h1
        refine ih (r + 1) _ _ (by omega) (by omega) ?_ (nI_1 r)
        rw [ha]
        simp only [cnt, h1, beq_iff_eq, Bool.not_eq_true', beq_eq_false_iff_ne, ne_eq, not_false_eq_true, if_true]
        exact nI_1 _
  refine hgo [4] _ _ _ _ ?_
  exact loop _ 0 _ _ rfl (by omega) rfl rfl
theorem c_Main_count (k : Nat) (M : am_M) (hk : k < 6) : Con 2 mMain_count [aR 0 0 0, aI (nI k)] M (some (aI (match k with | 0 => nI (cnt (fun r => !(M 1 0 1 r == 0)) 8) | 1 => M 4 0 0 0 | 2 => M 4 0 0 4 | 3 => M 4 0 0 10 | 4 => M 5 0 0 0 | _ => M 2 0 0 1))) M := by
  refine con_of okMain_count [some (aR 0 0 0), some (aI (nI k))] (some .int) ?_
  intro J hgo
  refine hgo [] _ _ _ _ ?_
  rcases lt6 hk with rfl | rfl | rfl | rfl | rfl | rfl
  · refine brt rfl ?_
    refine hgo [] _ _ _ _ ?_
    refine cl_ (c_Rows_howMany _) ?_
    exact ⟨rfl, rfl⟩
  · refine brf (by decide) (brt rfl ?_)
    refine hgo [] _ _ _ _ ?_
    exact ⟨rfl, rfl⟩
  · refine brf (by decide) (brf (by decide) (brt rfl ?_))
    refine hgo [] _ _ _ _ ?_
    exact ⟨rfl, rfl⟩
  · refine brf (by decide) (brf (by decide) (brf (by decide) (brt rfl ?_)))
    refine hgo [] _ _ _ _ ?_
    exact ⟨rfl, rfl⟩
  · refine brf (by decide) (brf (by decide) (brf (by decide) (brf (by decide) (brt rfl ?_))))
    refine hgo [] _ _ _ _ ?_
    exact ⟨rfl, rfl⟩
  · refine brf (by decide) (brf (by decide) (brf (by decide) (brf (by decide) (brf (by decide) (brt rfl ?_)))))
    refine hgo [] _ _ _ _ ?_
    exact ⟨rfl, rfl⟩
theorem c_Main_count_bad (x : Int32) (M : am_M) (h : ¬ (0 ≤ x.toInt ∧ x.toInt < (6 : Nat))) : Con 2 mMain_count [aR 0 0 0, aI x] M (some (aI (-1000001))) M := by
  refine con_of okMain_count [some (aR 0 0 0), some (aI x)] (some .int) ?_
  intro J hgo
  refine hgo [] _ _ _ _ ?_
  refine brf (neN h (by omega) (by omega)) (brf (neN h (by omega) (by omega)) (brf (neN h (by omega) (by omega)) (brf (neN h (by omega) (by omega)) (brf (neN h (by omega) (by omega)) (brf (neN h (by omega) (by omega)) ?_)))))
  refine hgo [] _ _ _ _ ?_
  exact ⟨rfl, rfl⟩
theorem c_Ref_count0 (M : am_M) : Con 2 mRef_count [aR 11 0 0, aI 0] M (some (aI (nI (cnt (fun r => !decide (M 11 0 1 r < 0)) 8)))) (rT M) := by
  refine con_of okRef_count [some (aR 11 0 0), some (aI 0), none, none] (some .int) ?_
  intro J hgo
  have loop : ∀ m r a b, m = 8 - r → r ≤ 8 → a = nI (cnt (fun r => !decide (M 11 0 1 r < 0)) r) → b = nI r → J 50 [some (aR 11 0 0), some (aI 0), some (aI a), some (aI b)] [] (rT M) := by
    intro m
    induction m with
    | zero =>
      intro r a b hm hr ha hb
      obtain rfl : r = 8 := by omega
      subst hb
      refine hgo [] _ _ _ _ ?_
      refine brt (by decide) ?_
      refine hgo [] _ _ _ _ ?_
      refine ⟨?_, rfl⟩
      rw [ha]
    | succ m ih =>
      intro r a b hm hr ha hb
      subst hb
      refine hgo [] _ _ _ _ ?_
      refine brf (nI_ge (b := 8) (by omega) (by omega)) ?_
      refine ob_ (vp_in_nI (by omega) (by omega)) ?_
      refine br_ (fun h1 => ?_) (fun h1 => ?_)
      · have h1 : M 11 0 1 (nI r).toNatClampNeg < 0 := h1
        rw [cl_nI (by omega)] at h1
        refine hgo [] _ _ _ _ ?_
        refine ih (r + 1) _ _ (by omega) (by omega) ?_ (nI_1 r)
        rw [ha]
        simp only [cnt, h1, decide_true, Bool.not_true, Bool.false_eq_true, if_false]
        exact nI_add _ 0
      · have h1 : ¬ M 11 0 1 (nI r).toNatClampNeg < 0 := h1
        rw [cl_nI (by omega)] at h1
        refine hgo [] _ _ _ _ ?_
        refine ih (r + 1) _ _ (by omega) (by omega) ?_ (nI_1 r)
        rw [ha]
        simp only [cnt, h1, decide_false, Bool.not_false, if_true]
        exact nI_1 _
  refine hgo [] _ _ _ _ ?_
  refine brt (by decide) ?_
  refine hgo [50] _ _ _ _ ?_
  exact loop _ 0 _ _ rfl (by omega) rfl rfl
theorem c_Ref_count (k : Nat) (M : am_M) (hk : k < 4) : Con 2 mRef_count [aR 11 0 0, aI (nI (k + 1))] M (some (aI (M 11 0 4 k))) (rT M) := by
  have e0 : nI (k + 1) - 1 = nI k := nI_pred k
  have fin : ∀ J : Nat → am_L → List am_V → am_M → Prop, am_cl 2 none (some .int) kRef_count J (fun a b => a = some (aI (M 11 0 4 k)) ∧ b = rT M) → J 81 [some (aR 11 0 0), some (aI (nI (k + 1))), some (aI 0), none] [] (rT M) := by
    intro J hgo
    refine hgo [] _ _ _ _ ?_
    refine ob_ (by rw [e0]; exact vp_in_nI (by omega) (by omega)) ⟨?_, rfl⟩
    rw [e0, cl_nI (by omega)]
    rfl
  refine con_of okRef_count [some (aR 11 0 0), some (aI (nI (k + 1))), none, none] (some .int) ?_
  intro J hgo
  have f1 := fin J hgo
  refine hgo [] _ _ _ _ ?_
  rcases lt4 hk with rfl | rfl | rfl | rfl
  · exact brf (by decide) (brt rfl f1)
  · exact brf (by decide) (brf (by decide) (brt rfl f1))
  · exact brf (by decide) (brf (by decide) (brf (by decide) (brt rfl f1)))
  · exact brf (by decide) (brf (by decide) (brf (by decide) (brf (by decide) (brt rfl f1))))
theorem c_Ref_count5 (M : am_M) : Con 2 mRef_count [aR 11 0 0, aI 5] M (some (aI (M 11 0 0 9))) (rT M) := by
  refine con_of okRef_count [some (aR 11 0 0), some (aI 5), none, none] (some .int) ?_
  intro J hgo
  refine hgo [] _ _ _ _ ?_
  refine brf (by decide) (brf (by decide) (brf (by decide) (brf (by decide) (brf (by decide) (brt rfl ?_)))))
  refine hgo [] _ _ _ _ ?_
  exact ⟨rfl, rfl⟩
theorem c_Ref_count_bad (x : Int32) (M : am_M) (h : ¬ (0 ≤ x.toInt ∧ x.toInt < (6 : Nat))) : Con 2 mRef_count [aR 11 0 0, aI x] M (some (aI (-1000001))) (rT M) := by
  refine con_of okRef_count [some (aR 11 0 0), some (aI x), none, none] (some .int) ?_
  intro J hgo
  refine hgo [] _ _ _ _ ?_
  refine brf (neN h (by omega) (by omega)) (brf (neN h (by omega) (by omega)) (brf (neN h (by omega) (by omega)) (brf (neN h (by omega) (by omega)) (brf (neN h (by omega) (by omega)) (brf (neN h (by omega) (by omega)) ?_)))))
  refine hgo [] _ _ _ _ ?_
  exact ⟨rfl, rfl⟩
theorem op_count (x : Int32) (M : am_M) (hR : Rel M) : OpAt mMain_count mRef_count [aI x] M := by
  by_cases h : 0 ≤ x.toInt ∧ x.toInt < (6 : Nat)
  · obtain ⟨k, hk, rfl⟩ := intN h
    have hc := c_Main_count k M hk
    rcases lt6 hk with rfl | rfl | rfl | rfl | rfl | rfl
    · rw [cnt_cong (Q := fun r => !decide (M 11 0 1 r < 0)) (fun r hr => by
        rcases hR.1 r hr with ⟨g1, g2, g3⟩ | ⟨g1, g2, g3, -⟩
        · simp only [g1, g2]; decide
        · have : ¬ M 11 0 1 r < 0 := by rw [g3]; exact ge_nlt g2.1
          simp only [g1, this]; decide)] at hc
      exact op_mk hc (c_Ref_count0 M) (Rel_bad hR)
    · rw [hR.2.2.2.1.2.1.1.1] at hc
      exact op_mk hc (c_Ref_count 0 M (by omega)) (Rel_bad hR)
    · rw [hR.2.2.2.1.2.1.2.1.1] at hc
      exact op_mk hc (c_Ref_count 1 M (by omega)) (Rel_bad hR)
    · rw [hR.2.2.2.1.2.1.2.2.1.1] at hc
      exact op_mk hc (c_Ref_count 2 M (by omega)) (Rel_bad hR)
    · rw [hR.2.2.2.1.2.1.2.2.2.1] at hc
      exact op_mk hc (c_Ref_count 3 M (by omega)) (Rel_bad hR)
    · obtain ⟨n, g1, g2, g3, -⟩ := hR.2.1
      rw [g2.trans g3.symm] at hc
      exact op_mk hc (c_Ref_count5 M) (Rel_bad hR)
  · exact op_mk (c_Main_count_bad x M h) (c_Ref_count_bad x M h) (Rel_bad hR)
/-! as -/
def isk (kd of : Nat) : Bool := of == 0 || kd == of || (of == 1 && kd == 4) || (of == 2 && kd == 3)
theorem c_House_isKind (x : Int32) (M : am_M) : Con 1 mHouse_isKind [aI x] M (some (aI (b2i (0 ≤ x ∧ x ≤ 5)))) M := by
  refine con_of okHouse_isKind [some (aI x)] (some .boolean) ?_
  intro J hgo
  refine hgo [] _ _ _ _ ?_
  refine br_ (fun h1 => ?_) (fun h1 => ?_)
  · skip
    refine hgo [] _ _ _ _ ?_
    refine ob_ (by first | decide | exact nar_b) ?_
    (first | exact ⟨rfl, rfl⟩ | (refine ⟨?_, rfl⟩; (first | rfl | (simp [b2i, h1]; done) | (rw [b2i_t]; simp only [vp_in_iff, i3_lt, i3_le, i3_eq, Int32.reduceToInt, i3_m1] at h1 ⊢ <;> omega) | (rw [b2i_f]; simp only [vp_in_iff, i3_lt, i3_le, i3_eq, Int32.reduceToInt, i3_m1] at h1 ⊢ <;> omega) | (exfalso; simp only [vp_in_iff, i3_lt, i3_le, i3_eq, Int32.reduceToInt, i3_m1] at h1; omega))))   -- leaf1
  · skip
    refine br_ (fun h2 => ?_) (fun h2 => ?_)
    · skip
      refine hgo [] _ _ _ _ ?_
      refine ob_ (by first | decide | exact nar_b) ?_
      (first | exact ⟨rfl, rfl⟩ | (refine ⟨?_, rfl⟩; (first | rfl | (simp [b2i, h1, h2]; done) | (rw [b2i_t]; simp only [vp_in_iff, i3_lt, i3_le, i3_eq, Int32.reduceToInt, i3_m1] at h1 h2 ⊢ <;> omega) | (rw [b2i_f]; simp only [vp_in_iff, i3_lt, i3_le, i3_eq, Int32.reduceToInt, i3_m1] at h1 h2 ⊢ <;> omega) | (exfalso; simp only [vp_in_iff, i3_lt, i3_le, i3_eq, Int32.reduceToInt, i3_m1] at h1 h2; omega))))   -- leaf2
    · skip
      refine hgo [] _ _ _ _ ?_
      refine ob_ (by first | decide | exact nar_b) ?_
      (first | exact ⟨rfl, rfl⟩ | (refine ⟨?_, rfl⟩; (first | rfl | (simp [b2i, h1, h2]; done) | (rw [b2i_t]; simp only [vp_in_iff, i3_lt, i3_le, i3_eq, Int32.reduceToInt, i3_m1] at h1 h2 ⊢ <;> omega) | (rw [b2i_f]; simp only [vp_in_iff, i3_lt, i3_le, i3_eq, Int32.reduceToInt, i3_m1] at h1 h2 ⊢ <;> omega) | (exfalso; simp only [vp_in_iff, i3_lt, i3_le, i3_eq, Int32.reduceToInt, i3_m1] at h1 h2; omega))))   -- leaf3
theorem c_Ref_isOf (kd of : Nat) (M : am_M) (h1 : kd < 6) (h2 : of < 6) : Con 1 mRef_isOf [aI (nI kd), aI (nI of)] M (some (aI (b2i (isk kd of = true)))) M := by
  refine con_of okRef_isOf [some (aI (nI kd)), some (aI (nI of))] (some .boolean) ?_
  intro J hgo
  refine hgo [] _ _ _ _ ?_
  rcases lt6 h1 with rfl | rfl | rfl | rfl | rfl | rfl <;> rcases lt6 h2 with rfl | rfl | rfl | rfl | rfl | rfl <;> (repeat (first | refine brt (by decide) ?_ | refine brf (by decide) ?_ | refine hgo [] _ _ _ _ ?_)) <;> exact ⟨by decide, by decide, rfl⟩
theorem c_House_isOf (j n p kd of : Nat) (M : am_M) (hn : M 4 j 0 4 = nI n) (h10 : n ≤ 10) (hp : p < n) (hk : M 4 j 4 p = nI kd) (hk1 : 1 ≤ kd) (hk5 : kd ≤ 5) (h2 : of < 6) : Con 2 mHouse_isOf [aR 4 j 0, aI (nI p), aI (nI of)] M (some (aI (b2i (isk kd of = true)))) M := by
  refine con_of okHouse_isOf [some (aR 4 j 0), some (aI (nI p)), some (aI (nI of)), none, none] (some .boolean) ?_
  intro J hgo
  have end0 : isk kd of = false → ∀ s, s ≤ 5 → J 22 [some (aR 4 j 0), some (aI (nI p)), some (aI (nI of)), some (aI (-1)), some (aI (nI s))] [] M := by
    intro hq s hs
    refine hgo [] _ _ _ _ ?_
    refine brf (nI_ge (b := 6) (by omega) (by omega)) ?_
    refine cl_ (c_House_isKind _ _) ?_
    refine brbf (by decide) ?_
    refine hgo [] _ _ _ _ ?_
    refine ob_ (by decide) ⟨?_, rfl⟩
    rw [b2i_f (by rw [hq]; decide)]
  have stp : ∀ (s v : Nat) (w : Int32), s ≤ 4 → v < 6 → (am_sc 0).getD v 0 = w → (v = of → isk kd of = true) → (v ≠ of → J 22 [some (aR 4 j 0), some (aI (nI p)), some (aI (nI of)), some (aI w), some (aI (nI (s + 1)))] [] M) → J 22 [some (aR 4 j 0), some (aI (nI p)), some (aI (nI of)), some (aI (nI v)), some (aI (nI s))] [] M := by
    intro s v w hs hv hw hy hno
    refine hgo [] _ _ _ _ ?_
    refine brf (nI_ge (b := 6) (by omega) (by omega)) ?_
    refine cl_ (c_House_isKind _ _) ?_
    refine brbt ⟨nI_pos' (by omega), nI_le (b := 5) (by omega) (by omega)⟩ ?_
    refine br_ (fun h1 => ?_) (fun h1 => ?_)
    · refine ob_ (by decide) ⟨?_, rfl⟩
      rw [b2i_t (hy ((nI_eq (by omega) (by omega)).mp h1))]
    · refine hgo [] _ _ _ _ ?_
      refine ob_ (vp_in_nI (by omega) (by omega)) ?_
      rw [cl_nI (by omega), hw]
      have := hno (fun e => h1 (by rw [e]))
      rw [nI_succ] at this
      exact this
  have at0 : ∀ s, s ≤ 4 → (of ≠ 0 → isk kd of = false) → J 22 [some (aR 4 j 0), some (aI (nI p)), some (aI (nI of)), some (aI (nI 0)), some (aI (nI s))] [] M := by
    intro s hs hq
    refine stp s 0 (-1) hs (by omega) rfl (fun e => by subst e; rfl) (fun h => end0 (hq (Ne.symm h)) (s + 1) (by omega))
  refine hgo [] _ _ _ _ ?_
  refine cl_ (c_House_isPaper n j _ _ hn (by omega)) ?_
  refine brbt (by rw [i3_n (by omega)]; omega) ?_
  refine ob_ (vp_in_nI (by omega) (by omega)) ?_
  refine hgo [22] _ _ _ _ ?_
  rw [cl_nI (by omega), hk]
  have hof := lt6 h2
  have hkd : kd = 1 ∨ kd = 2 ∨ kd = 3 ∨ kd = 4 ∨ kd = 5 := by omega
  rcases hkd with rfl | rfl | rfl | rfl | rfl
  · refine stp 0 1 (nI 0) (by omega) (by omega) rfl (fun e => by subst e; rfl) (fun h => at0 1 (by omega) (fun h0 => ?_))
    rcases hof with rfl | rfl | rfl | rfl | rfl | rfl <;> first | rfl | omega
  · refine stp 0 2 (nI 0) (by omega) (by omega) rfl (fun e => by subst e; rfl) (fun h => at0 1 (by omega) (fun h0 => ?_))
    rcases hof with rfl | rfl | rfl | rfl | rfl | rfl <;> first | rfl | omega
  · refine stp 0 3 (nI 2) (by omega) (by omega) rfl (fun e => by subst e; rfl) (fun h => stp 1 2 (nI 0) (by omega) (by omega) rfl (fun e => by subst e; rfl) (fun h3 => at0 2 (by omega) (fun h0 => ?_)))
    rcases hof with rfl | rfl | rfl | rfl | rfl | rfl <;> first | rfl | omega
  · refine stp 0 4 (nI 1) (by omega) (by omega) rfl (fun e => by subst e; rfl) (fun h => stp 1 1 (nI 0) (by omega) (by omega) rfl (fun e => by subst e; rfl) (fun h3 => at0 2 (by omega) (fun h0 => ?_)))
    rcases hof with rfl | rfl | rfl | rfl | rfl | rfl <;> first | rfl | omega
  · refine stp 0 5 (nI 0) (by omega) (by omega) rfl (fun e => by subst e; rfl) (fun h => at0 1 (by omega) (fun h0 => ?_))
    rcases hof with rfl | rfl | rfl | rfl | rfl | rfl <;> first | rfl | omega
theorem c_Main_as_bad (n : Nat) (x w : Int32) (M : am_M) (hn : M 4 0 0 4 = nI n) (h10 : n ≤ 10) (h : ¬ ((0 ≤ x.toInt ∧ x.toInt < n) ∧ (0 ≤ w.toInt ∧ w.toInt < (6 : Nat)))) : Con 3 mMain_as [aR 0 0 0, aI x, aI w] M (some (aI (-1000001))) M := by
  refine con_of okMain_as [some (aR 0 0 0), some (aI x), some (aI w)] (some .int) ?_
  intro J hgo
  refine hgo [] _ _ _ _ ?_
  refine cl_ (c_House_isPaper n 0 _ _ hn (by omega)) ?_
  refine brb (fun h1 => ?_) (fun h1 => ?_)
  · refine hgo [] _ _ _ _ ?_
    exact ⟨rfl, rfl⟩
  · refine cl_ (c_House_isKind _ _) ?_
    refine brbf (fun q => h ⟨h1, ?_⟩) ?_
    · (simp only [vp_in_iff, i3_lt, i3_le, i3_eq, Int32.reduceToInt, i3_m1] at q ⊢ <;> omega)
    · exact ⟨rfl, rfl⟩
theorem c_Main_as (n p kd of : Nat) (M : am_M) (hn : M 4 0 0 4 = nI n) (h10 : n ≤ 10) (hp : p < n) (hk : M 4 0 4 p = nI kd) (hk1 : 1 ≤ kd) (hk5 : kd ≤ 5) (h2 : of < 6) : Con 3 mMain_as [aR 0 0 0, aI (nI p), aI (nI of)] M (some (aI (if isk kd of = true then nI p else -1000013))) (mS M (if isk kd of = true then 0 else 3)) := by
  refine con_of okMain_as [some (aR 0 0 0), some (aI (nI p)), some (aI (nI of))] (some .int) ?_
  intro J hgo
  refine hgo [] _ _ _ _ ?_
  refine cl_ (c_House_isPaper n 0 _ _ hn (by omega)) ?_
  refine brbt (by rw [i3_n (by omega)]; omega) ?_
  refine cl_ (c_House_isKind _ _) ?_
  refine brbt ⟨nI_pos' (by omega), nI_le (b := 5) (by omega) (by omega)⟩ ?_
  refine hgo [] _ _ _ _ ?_
  refine cl_ (c_House_isOf 0 n p kd of _ hn h10 hp hk hk1 hk5 h2) ?_
  refine brb (fun h1 => ?_) (fun h1 => ?_)
  · refine hgo [] _ _ _ _ ?_
    refine cl_ (c_Main_found _ _) ?_
    refine ⟨?_, ?_⟩
    · rw [if_neg h1]; rfl
    · rw [if_neg h1]
  · refine cl_ (c_Main_clean _ _) ?_
    refine hgo [] _ _ _ _ ?_
    refine ⟨?_, ?_⟩
    · rw [if_pos h1]
    · rw [if_pos h1]
theorem c_Ref_as_bad (n : Nat) (x w : Int32) (M : am_M) (hn : M 11 0 4 1 = nI n) (h10 : n ≤ 10) (h : ¬ ((0 ≤ x.toInt ∧ x.toInt < n) ∧ (0 ≤ w.toInt ∧ w.toInt < (6 : Nat)))) : Con 3 mRef_as [aR 11 0 0, aI x, aI w] M (some (aI (-1000001))) (rT M) := by
  refine con_of okRef_as [some (aR 11 0 0), some (aI x), some (aI w)] (some .int) ?_
  intro J hgo
  refine hgo [] _ _ _ _ ?_
  refine cl_ (c_Ref_isPaper n _ _ hn (by omega)) ?_
  refine brb (fun h1 => ?_) (fun h1 => ?_)
  · refine hgo [] _ _ _ _ ?_
    exact ⟨rfl, rfl⟩
  · refine cl_ (c_Ref_in w 0 5 _ _ _ rfl (by decide) (by decide) _) ?_
    refine brbf (fun q => h ⟨h1, ?_⟩) ?_
    · (simp only [vp_in_iff, i3_lt, i3_le, i3_eq, Int32.reduceToInt, i3_m1] at q ⊢ <;> omega)
    · exact ⟨rfl, rfl⟩
theorem c_Ref_as (n p kd of : Nat) (M : am_M) (hn : M 11 0 4 1 = nI n) (h10 : n ≤ 10) (hp : p < n) (hk : M 11 0 4 (28 + 5 * p) = nI kd) (hk1 : 1 ≤ kd) (hk5 : kd ≤ 5) (h2 : of < 6) : Con 3 mRef_as [aR 11 0 0, aI (nI p), aI (nI of)] M (some (aI (if isk kd of = true then nI p else -1000013))) (if isk kd of = true then rS (rT M) 0 else rS (rS (rT M) 0) 3) := by
  refine con_of okRef_as [some (aR 11 0 0), some (aI (nI p)), some (aI (nI of))] (some .int) ?_
  intro J hgo
  refine hgo [] _ _ _ _ ?_
  refine cl_ (c_Ref_isPaper n _ _ hn (by omega)) ?_
  refine brbt (by rw [i3_n (by omega)]; omega) ?_
  refine cl_ (c_Ref_in (nI of) 0 5 _ _ _ rfl (by decide) (by decide) _) ?_
  refine brbt ⟨nI_pos' (by omega), nI_le (b := 5) (by omega) (by omega)⟩ ?_
  refine hgo [] _ _ _ _ ?_
  refine cl_ (c_Ref_of p 0 _ (by omega) (by omega)) ?_
  refine cle (c_Ref_isOf kd of (rS (rT M) 0) (by omega) h2) ?_ rfl ?_
  · show [aI (M 11 0 4 (28 + 5 * p)), aI (nI of)] = _
    rw [hk]
  · refine brb (fun h1 => ?_) (fun h1 => ?_)
    · refine hgo [] _ _ _ _ ?_
      refine cl_ (c_Ref_finding _ _) ?_
      refine ⟨?_, ?_⟩
      · rw [if_neg h1]; rfl
      · rw [if_neg h1]; rfl
    · refine hgo [] _ _ _ _ ?_
      refine ⟨?_, ?_⟩
      · rw [if_pos h1]
      · rw [if_pos h1]
theorem Rel_clean {M : am_M} (hR : Rel M) : Rel (rS (rT (mS M 0)) 0) := by
  refine Rel_keep hR rfl rfl rfl rfl rfl rfl rfl ?_ ?_ rfl rfl
  · intro o ho
    simp only [rS, rT, mS, sA_o ho, sA_k (show (11 : Nat) ≠ 0 by decide)]
  · intro i hi; rcases hi with rfl | rfl | rfl | rfl | rfl <;> rfl
/-- a paper's numbers -/
theorem Rel_pap {M : am_M} (hR : Rel M) {p : Nat} (hp : p < nP (M 11 0 4)) : ∃ kd md la pr re : Nat, (M 4 0 4 p = nI kd ∧ M 11 0 4 (28 + 5 * p) = nI kd ∧ 1 ≤ kd ∧ kd ≤ 5) ∧ (M 4 0 5 p = nI md ∧ M 11 0 4 (29 + 5 * p) = nI md ∧ 1700 ≤ md ∧ md ≤ 1999) ∧ (M 4 0 6 p = nI la ∧ M 11 0 4 (30 + 5 * p) = nI la ∧ md ≤ la ∧ la ≤ 1999) ∧ (M 4 0 7 p = nI pr ∧ M 11 0 4 (31 + 5 * p) = nI pr ∧ pr ≤ 99) ∧ (M 4 0 8 p = nI re ∧ M 11 0 4 (32 + 5 * p) = nI re ∧ 1 ≤ re ∧ re ≤ 99) := by
  obtain ⟨hv, ⟨-, hpp, -⟩, -⟩ := hR.2.2.2.1
  obtain ⟨kd, md, la, pr, re, a1, a2, a3, a4, a5, a6, a7, a8, a9, a10, a11, a12, a13, a14⟩ := hv.2.2.2.2.2.1 p hp
  obtain ⟨b1, b2, b3, b4, b5⟩ := hpp.2 p hp
  exact ⟨kd, md, la, pr, re, ⟨b1.trans a1, a1, a2, a3⟩, ⟨b2.trans a4, a4, a5, a6⟩, ⟨b3.trans a7, a7, a8, a9⟩, ⟨b4.trans a10, a10, a11⟩, ⟨b5.trans a12, a12, a13, a14⟩⟩
theorem op_as (x w : Int32) (M : am_M) (hR : Rel M) : OpAt mMain_as mRef_as [aI x, aI w] M := by
  obtain ⟨h1, h2, h3⟩ := Rel_np hR
  by_cases h : (0 ≤ x.toInt ∧ x.toInt < nP (M 11 0 4)) ∧ (0 ≤ w.toInt ∧ w.toInt < (6 : Nat))
  · obtain ⟨p, hp, rfl⟩ := intN h.1
    obtain ⟨k, hk, rfl⟩ := intN h.2
    obtain ⟨kd, md, la, pr, re, ⟨g1, g2, g3, g4⟩, -⟩ := Rel_pap hR hp
    refine op_mk (c_Main_as _ p kd k M h1 h3 hp g1 g3 g4 hk) (c_Ref_as _ p kd k _ h2 h3 hp g2 g3 g4 hk) ?_
    by_cases hq : isk kd k = true
    · rw [if_pos hq, if_pos hq]; exact Rel_clean hR
    · rw [if_neg hq, if_neg hq]; exact Rel_find hR 3
  · exact op_mk (c_Main_as_bad _ x w M h1 h3 h) (c_Ref_as_bad _ x w M h2 h3 h) (Rel_bad hR)
