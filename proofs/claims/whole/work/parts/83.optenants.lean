/-! tenants -/
def tnB (h : Nat → Int32) (p t : Nat) : Bool := decide (max (hN h (78 + 3 * t) : Int) (YL h p) ≤ min (hN h (79 + 3 * t) : Int) (YU h p)) && decide (hN h (31 + 5 * p) ≤ hN h (80 + 3 * t))
theorem HV_t {h : Nat → Int32} (hv : HV h) {t : Nat} (ht : t < nT h) : (h (78 + 3 * t) = nI (hN h (78 + 3 * t)) ∧ hN h (78 + 3 * t) ≤ 1999) ∧ (h (79 + 3 * t) = nI (hN h (79 + 3 * t)) ∧ hN h (79 + 3 * t) ≤ 1999) ∧ (h (80 + 3 * t) = nI (hN h (80 + 3 * t)) ∧ hN h (80 + 3 * t) ≤ 99) := by
  obtain ⟨fr, to, me, b1, b2, b3, b4, b5, b6, b7, b8⟩ := hv.2.2.2.2.2.2.1 t ht
  have e1 : hN h (78 + 3 * t) = fr := by unfold hN; rw [b1, cl_nI (by omega)]
  have e2 : hN h (79 + 3 * t) = to := by unfold hN; rw [b4, cl_nI (by omega)]
  have e3 : hN h (80 + 3 * t) = me := by unfold hN; rw [b7, cl_nI (by omega)]
  rw [e1, e2, e3]
  exact ⟨⟨b1, b3⟩, ⟨b4, b6⟩, ⟨b7, b8⟩⟩
theorem HV_pr {h : Nat → Int32} (hv : HV h) {p : Nat} (hp : p < nP h) : h (31 + 5 * p) = nI (hN h (31 + 5 * p)) ∧ hN h (31 + 5 * p) ≤ 99 := by
  obtain ⟨kd, md, la, pr, re, -, -, -, -, -, -, -, -, -, b1, b2, -⟩ := hv.2.2.2.2.2.1 p hp
  have e1 : hN h (31 + 5 * p) = pr := by unfold hN; rw [b1, cl_nI (by omega)]
  rw [e1]
  exact ⟨b1, b2⟩
theorem c_whoCan (h : Nat → Int32) (p : Nat) (M : am_M) (c : CF h M) (hp : p < nP h) (hs : Seen h p = true) (hn : NoRing h) : Con 2 mFacts_whoCan [aR 7 0 0, aI (nI p)] M (some (aI (bs (upto (tnB h p) (nT h))))) M := by
  obtain ⟨hv, hr, hf, hx⟩ := id c
  have p10 := hv.2.1.2
  have t10 := hv.2.2.1.2
  have hpc : (nI p).toNatClampNeg = p := cl_nI (by omega)
  have en : M 4 0 0 10 = nI (nT h) := by rw [hr.2.2.1.1, hv.2.2.1.1]
  obtain ⟨y1, y2⟩ := CF_y c hn (by omega) hs
  obtain ⟨pr1, pr2⟩ := HV_pr hv hp
  refine con_of okFacts_whoCan [some (aR 7 0 0), some (aI (nI p)), none, none, none, none] (some .int) ?_
  intro J hgo
  have loop : ∀ m t tv y (z4 z5 : Option am_V), m = nT h - t → t ≤ nT h → tv = nI t → y = bs (upto (tnB h p) t) → J 4 [some (aR 7 0 0), some (aI (nI p)), some (aI y), some (aI tv), z4, z5] [] M := by
    intro m
    induction m with
    | zero =>
      intro t tv y z4 z5 hm ht hv2 hy
      have ht : t = nT h := by omega
      subst hv2
      refine hgo [] _ _ _ _ ?_
      refine brt (by show M 4 0 0 10 ≤ nI t; rw [en, ht]; exact nI_le (Nat.le_refl _) (by omega)) ?_
      refine hgo [] _ _ _ _ ?_
      refine ⟨?_, rfl⟩
      rw [hy, ht]
    | succ m ih =>
      intro t tv y z4 z5 hm ht hv2 hy
      subst hv2 hy
      have hlt : t < nT h := by omega
      have htc : (nI t).toNatClampNeg = t := cl_nI (by omega)
      obtain ⟨⟨t1, t2⟩, ⟨t3, t4⟩, ⟨t5, t6⟩⟩ := HV_t hv hlt
      obtain ⟨r1, r2, r3⟩ := hr.2.2.1.2 t hlt
      have nx : ∀ (y : Int32) (z4 z5 : Option am_V), y = bs (upto (tnB h p) (t + 1)) → J 89 [some (aR 7 0 0), some (aI (nI p)), some (aI y), some (aI (nI t)), z4, z5] [] M := by
        intro y z4 z5 hy
        refine hgo [] _ _ _ _ ?_
        exact ih (t + 1) _ _ _ _ (by omega) (by omega) (nI_1 t) hy
      refine hgo [89] _ _ _ _ ?_
      refine brf (by show ¬ M 4 0 0 10 ≤ nI t; rw [en]; exact nI_ge hlt (by omega)) ?_
      refine ob_ (vp_in_nI (by omega) (by omega)) ?_
      refine ob_ (vp_in_nI (by omega) (by omega)) ?_
      refine cl_ (c_Math_max _ _ _) ?_
      refine ob_ (vp_in_nI (by omega) (by omega)) ?_
      refine ob_ (vp_in_nI (by omega) (by omega)) ?_
      refine cl_ (c_Math_min _ _ _) ?_
      have e1 : (if M 4 0 9 (nI t).toNatClampNeg < M 7 0 5 (nI p).toNatClampNeg then M 7 0 5 (nI p).toNatClampNeg else M 4 0 9 (nI t).toNatClampNeg).toInt = max (hN h (78 + 3 * t) : Int) (YL h p) := by
        rw [mx_i, htc, hpc, r1, t1, i3_n (by omega), y1]
      have e2 : (if M 7 0 6 (nI p).toNatClampNeg < M 4 0 10 (nI t).toNatClampNeg then M 7 0 6 (nI p).toNatClampNeg else M 4 0 10 (nI t).toNatClampNeg).toInt = min (hN h (79 + 3 * t) : Int) (YU h p) := by
        rw [mn_i, htc, hpc, r2, t3, i3_n (by omega), y2]
      refine br_ (fun g => ?_) (fun g => ?_)
      · rw [i3_lt, e1, e2] at g
        refine nx _ _ _ ((upto_s).2 (fun q => ?_))
        unfold tnB at q
        rw [Bool.and_eq_true] at q
        have := of_decide_eq_true q.1
        omega
      · rw [i3_lt, e1, e2] at g
        refine ob_ (vp_in_nI (by omega) (by omega)) ?_
        refine ob_ (vp_in_nI (by omega) (by omega)) ?_
        rw [htc, hpc]
        refine br_ (fun g2 => ?_) (fun g2 => ?_)
        · have g2 : M 4 0 11 t < M 4 0 7 p := g2
          rw [r3, t5, (hr.2.1.2 p hp).2.2.2.1, pr1, nI_ltI (by omega) (by omega)] at g2
          refine nx _ _ _ ((upto_s).2 (fun q => ?_))
          unfold tnB at q
          rw [Bool.and_eq_true] at q
          have := of_decide_eq_true q.2
          omega
        · have g2 : ¬ M 4 0 11 t < M 4 0 7 p := g2
          rw [r3, t5, (hr.2.1.2 p hp).2.2.2.1, pr1, nI_ltI (by omega) (by omega)] at g2
          refine nx _ _ _ ?_
          rw [bs_one (by omega)]
          refine (upto_s).1 ?_
          unfold tnB
          rw [decide_eq_true (by omega), decide_eq_true (by omega)]
          rfl
  refine hgo [4] _ _ _ _ ?_
  exact loop _ 0 _ _ _ _ rfl (by omega) rfl upto_0.symm
theorem c_Main_tenants_bad (h : Nat → Int32) (x : Int32) (M : am_M) (c : CF h M) (hb : ¬ sn h x) : Con 4 mMain_tenants [aR 0 0 0, aI x] M (some (aI (-1000001))) M := by
  refine con_of okMain_tenants [some (aR 0 0 0), some (aI x)] (some .int) ?_
  intro J hgo
  refine hgo [] _ _ _ _ ?_
  refine cl_ (c_Main_isSeen h x M c 0 (Or.inr ⟨hb, rfl⟩)) ?_
  refine brt rfl ?_
  exact ⟨rfl, rfl⟩
theorem c_Ref_tenants_bad (h : Nat → Int32) (x : Int32) (M : am_M) (c : CR h M) (hb : ¬ sn h x) : Con 4 mRef_tenants [aR 11 0 0, aI x] M (some (aI (-1000001))) (rT M) := by
  refine con_of okRef_tenants [some (aR 11 0 0), some (aI x), none, none, none, none, none] (some .int) ?_
  intro J hgo
  refine hgo [] _ _ _ _ ?_
  refine cl_ (c_Ref_isSeen h x _ (CR_T c) 0 (Or.inr ⟨hb, rfl⟩)) ?_
  refine brt rfl ?_
  exact ⟨rfl, rfl⟩
theorem c_Main_tenants_ring (h : Nat → Int32) (x : Int32) (M : am_M) (c : CF h M) (hb : sn h x) (hn : ¬ NoRing h) : Con 4 mMain_tenants [aR 0 0 0, aI x] M (some (aI (-1000002))) M := by
  refine con_of okMain_tenants [some (aR 0 0 0), some (aI x)] (some .int) ?_
  intro J hgo
  refine hgo [] _ _ _ _ ?_
  refine cl_ (c_Main_isSeen h x M c 1 (Or.inl ⟨hb, rfl⟩)) ?_
  refine brf (by decide) ?_
  refine hgo [] _ _ _ _ ?_
  refine cl_ (c_hasRing h M c 1 (Or.inr ⟨hn, rfl⟩)) ?_
  refine brf (by decide) ?_
  exact ⟨rfl, rfl⟩
theorem c_Ref_tenants_ring (h : Nat → Int32) (x : Int32) (M : am_M) (c : CR h M) (hb : sn h x) (hn : ¬ NoRing h) : Con 4 mRef_tenants [aR 11 0 0, aI x] M (some (aI (-1000002))) (rT M) := by
  refine con_of okRef_tenants [some (aR 11 0 0), some (aI x), none, none, none, none, none] (some .int) ?_
  intro J hgo
  refine hgo [] _ _ _ _ ?_
  refine cl_ (c_Ref_isSeen h x _ (CR_T c) 1 (Or.inl ⟨hb, rfl⟩)) ?_
  refine brf (by decide) ?_
  refine hgo [] _ _ _ _ ?_
  refine cl_ (c_inRings h _ (CR_T c)) ?_
  refine brf (fun q => hn (ring_iff.mp q)) ?_
  exact ⟨rfl, rfl⟩
theorem c_Main_tenants_ok (h : Nat → Int32) (p : Nat) (M : am_M) (c : CF h M) (hp : p < nP h) (hs : Seen h p = true) (hn : NoRing h) : Con 4 mMain_tenants [aR 0 0 0, aI (nI p)] M (some (aI (bs (upto (tnB h p) (nT h))))) M := by
  have p10 := c.1.2.1.2
  refine con_of okMain_tenants [some (aR 0 0 0), some (aI (nI p))] (some .int) ?_
  intro J hgo
  refine hgo [] _ _ _ _ ?_
  refine cl_ (c_Main_isSeen h (nI p) M c 1 (Or.inl ⟨⟨by rw [i3_n (by omega)]; omega, by rw [cl_nI (by omega)]; exact hs⟩, rfl⟩)) ?_
  refine brf (by decide) ?_
  refine hgo [] _ _ _ _ ?_
  refine cl_ (c_hasRing h M c 0 (Or.inl ⟨hn, rfl⟩)) ?_
  refine brt rfl ?_
  refine hgo [] _ _ _ _ ?_
  refine cl_ (c_whoCan h p M c hp hs hn) ?_
  exact ⟨rfl, rfl⟩
theorem c_Ref_tenants_ok (h : Nat → Int32) (p : Nat) (M : am_M) (c : CR h M) (hp : p < nP h) (hs : Seen h p = true) (hn : NoRing h) : ConP 4 mRef_tenants [aR 11 0 0, aI (nI p)] M (fun r M2 => r = some (aI (bs (upto (tnB h p) (nT h)))) ∧ KY M2 (rT M)) := by
  have hv := c.1
  have p10 := hv.2.1.2
  have t10 := hv.2.2.1.2
  have hpc : (nI p).toNatClampNeg = p := cl_nI (by omega)
  obtain ⟨pr1, pr2⟩ := HV_pr hv hp
  refine con_of okRef_tenants [some (aR 11 0 0), some (aI (nI p)), none, none, none, none, none] (some .int) ?_
  intro J hgo
  have loop : ∀ M2, KY M2 (rT M) → CR h M2 → YR h M2 → ∀ m t tv y (z4 z5 z6 : Option am_V), m = nT h - t → t ≤ nT h → tv = nI t → y = bs (upto (tnB h p) t) → J 34 [some (aR 11 0 0), some (aI (nI p)), some (aI y), some (aI tv), z4, z5, z6] [] M2 := by
    intro M2 hK c2 hY m
    have h4 := c2.2.1
    obtain ⟨y1, y2⟩ := hY p hp
    have cof : Con 1 mRef_of [aR 11 0 0, aI (nI p), aI 3] M2 (some (aI (nI (hN h (31 + 5 * p))))) M2 := by
      rw [← pr1, ← h4, show 31 + 5 * p = 28 + 5 * p + 3 by omega]
      exact c_Ref_of p 3 M2 (by omega) (by omega)
    induction m with
    | zero =>
      intro t tv y z4 z5 z6 hm ht hv2 hy
      have ht : t = nT h := by omega
      subst hv2
      refine hgo [] _ _ _ _ ?_
      refine ob_ (vp_in_nI (n := 2) (N := 198) (by omega) (by omega)) ?_
      refine brt (by show M2 11 0 4 2 ≤ nI t; rw [h4, hv.2.2.1.1, ht]; exact nI_le (Nat.le_refl _) (by omega)) ?_
      refine hgo [] _ _ _ _ ?_
      refine ⟨?_, hK⟩
      rw [hy, ht]
    | succ m ih =>
      intro t tv y z4 z5 z6 hm ht hv2 hy
      subst hv2
      have hlt : t < nT h := by omega
      obtain ⟨⟨t1, t2⟩, ⟨t3, t4⟩, ⟨t5, t6⟩⟩ := HV_t hv hlt
      have ea : (78 : Int32) + 3 * nI t = nI (78 + 3 * t) := by rw [show (78 : Int32) = nI 78 from rfl, show (3 : Int32) = nI 3 from rfl, pk_mul, nI_add]
      have ec : (nI (78 + 3 * t)).toNatClampNeg = 78 + 3 * t := cl_nI (by omega)
      have ea1 : nI (78 + 3 * t) + 1 = nI (79 + 3 * t) := by rw [nI_1]; congr 1; omega
      have ec1 : (nI (79 + 3 * t)).toNatClampNeg = 79 + 3 * t := cl_nI (by omega)
      have ea2 : nI (78 + 3 * t) + 2 = nI (80 + 3 * t) := by rw [show (2 : Int32) = nI 2 from rfl, nI_add]; congr 1; omega
      have ec2 : (nI (80 + 3 * t)).toNatClampNeg = 80 + 3 * t := cl_nI (by omega)
      have g1 : M2 11 0 4 (78 + 3 * t) = nI (hN h (78 + 3 * t)) := by rw [h4]; exact t1
      have g2 : M2 11 0 4 (79 + 3 * t) = nI (hN h (79 + 3 * t)) := by rw [h4]; exact t3
      have g3 : M2 11 0 4 (80 + 3 * t) = nI (hN h (80 + 3 * t)) := by rw [h4]; exact t5
      have s157 : ∀ (x v5 v6 : Int32), y ||| x = bs (upto (tnB h p) (t + 1)) → J 157 [some (aR 11 0 0), some (aI (nI p)), some (aI y), some (aI (nI t)), some (aI (nI (78 + 3 * t))), some (aI v5), some (aI v6)] [aI x, aI y] M2 := by
        intro x v5 v6 hx
        refine hgo [] _ _ _ _ ?_
        exact ih (t + 1) _ _ _ _ _ (by omega) (by omega) (nI_1 t) hx
      have s156 : ∀ (v5 v6 : Int32), ¬ tnB h p t = true → J 156 [some (aR 11 0 0), some (aI (nI p)), some (aI y), some (aI (nI t)), some (aI (nI (78 + 3 * t))), some (aI v5), some (aI v6)] [aI y] M2 := by
        intro v5 v6 g
        refine hgo [157] _ _ _ _ ?_
        refine s157 _ _ _ ?_
        rw [hy, ← (upto_s).2 g, ← bs_0, bs_or]
        exact bs_cong (fun i hi => by simp)
      have s122 : ∀ (v5 v6 : Int32) (z6 : Option am_V), v5.toInt = max (hN h (78 + 3 * t) : Int) (YL h p) → v6.toInt = min (hN h (79 + 3 * t) : Int) (YU h p) → J 122 [some (aR 11 0 0), some (aI (nI p)), some (aI y), some (aI (nI t)), some (aI (nI (78 + 3 * t))), some (aI v5), z6] [aI v6] M2 := by
        intro v5 v6 z6 e5 e6
        refine hgo [156] _ _ _ _ ?_
        refine br_ (fun g => ?_) (fun g => ?_)
        · rw [i3_lt, e5, e6] at g
          refine s156 _ _ (fun q => ?_)
          unfold tnB at q
          rw [Bool.and_eq_true] at q
          have := of_decide_eq_true q.1
          omega
        · rw [i3_lt, e5, e6] at g
          refine ob_ (by rw [ea2]; exact vp_in_nI (by omega) (by omega)) ?_
          refine cl_ cof ?_
          rw [ea2, ec2, g3]
          refine br_ (fun g4 => ?_) (fun g4 => ?_)
          · rw [nI_ltI (by omega) (by omega)] at g4
            refine s156 _ _ (fun q => ?_)
            unfold tnB at q
            rw [Bool.and_eq_true] at q
            have := of_decide_eq_true q.2
            omega
          · rw [nI_ltI (by omega) (by omega)] at g4
            refine s157 _ _ _ ?_
            rw [hy, bs_one (by omega)]
            refine (upto_s).1 ?_
            unfold tnB
            rw [decide_eq_true (by omega), decide_eq_true (by omega)]
            rfl
      have s84 : ∀ (v5 : Int32) (z5 z6 : Option am_V), v5.toInt = max (hN h (78 + 3 * t) : Int) (YL h p) → J 84 [some (aR 11 0 0), some (aI (nI p)), some (aI y), some (aI (nI t)), some (aI (nI (78 + 3 * t))), z5, z6] [aI v5] M2 := by
        intro v5 z5 z6 e5
        refine hgo [122] _ _ _ _ ?_
        refine ob_ (by rw [ea1]; exact vp_in_nI (by omega) (by omega)) ?_
        refine ob_ (vp_in_nI (by omega) (by omega)) ?_
        rw [ea1, ec1, g2, hpc]
        refine br_ (fun g => ?_) (fun g => ?_)
        · rw [i3_le, y2, i3_n (by omega)] at g
          refine hgo [122] _ _ _ _ ?_
          refine ob_ (vp_in_nI (by omega) (by omega)) ?_
          refine s122 _ _ _ e5 ?_
          rw [hpc, y2]
          omega
        · rw [i3_le, y2, i3_n (by omega)] at g
          refine ob_ (by rw [ea1]; exact vp_in_nI (by omega) (by omega)) ?_
          refine s122 _ _ _ e5 ?_
          rw [ea1, ec1, g2, i3_n (by omega)]
          omega
      have s52 : ∀ (z5 z6 : Option am_V), J 52 [some (aR 11 0 0), some (aI (nI p)), some (aI y), some (aI (nI t)), some (aI (nI (78 + 3 * t))), z5, z6] [] M2 := by
        intro z5 z6
        refine hgo [84] _ _ _ _ ?_
        refine ob_ (vp_in_nI (by omega) (by omega)) ?_
        refine ob_ (vp_in_nI (by omega) (by omega)) ?_
        rw [ec, g1, hpc]
        refine br_ (fun g => ?_) (fun g => ?_)
        · rw [i3_le, y1, i3_n (by omega)] at g
          refine hgo [84] _ _ _ _ ?_
          refine ob_ (vp_in_nI (by omega) (by omega)) ?_
          refine s84 _ _ _ ?_
          rw [hpc, y1]
          omega
        · rw [i3_le, y1, i3_n (by omega)] at g
          refine ob_ (vp_in_nI (by omega) (by omega)) ?_
          refine s84 _ _ _ ?_
          rw [ec, g1, i3_n (by omega)]
          omega
      refine hgo [52] _ _ _ _ ?_
      refine ob_ (vp_in_nI (n := 2) (N := 198) (by omega) (by omega)) ?_
      refine brf (by show ¬ M2 11 0 4 2 ≤ nI t; rw [h4, hv.2.2.1.1]; exact nI_ge hlt (by omega)) ?_
      have := s52 z5 z6
      rw [← ea] at this
      exact this
  refine hgo [] _ _ _ _ ?_
  refine cl_ (c_Ref_isSeen h (nI p) _ (CR_T c) 1 (Or.inl ⟨⟨by rw [i3_n (by omega)]; omega, by rw [hpc]; exact hs⟩, rfl⟩)) ?_
  refine brf (by decide) ?_
  refine hgo [] _ _ _ _ ?_
  refine cl_ (c_inRings h _ (CR_T c)) ?_
  refine brt (ring_iff.mpr hn) ?_
  refine hgo [34] _ _ _ _ ?_
  refine clp (c_lay h _ (CR_T c) hn) ?_
  rintro r M2 ⟨rfl, hK, hY⟩
  exact loop M2 hK (CR_KY (CR_T c) hK) hY _ 0 _ _ _ _ _ rfl (by omega) rfl upto_0.symm
theorem op_tenants (x : Int32) (M : am_M) (hR : Rel M) : OpAt mMain_tenants mRef_tenants [aI x] M := by
  obtain ⟨c1, c2⟩ := Rel_CF hR
  by_cases hb : sn (M 11 0 4) x
  · by_cases hr : NoRing (M 11 0 4)
    · obtain ⟨p, hp, hs, rfl⟩ := sn_nat hb
      exact op_KY hR (c_Main_tenants_ok _ p M c1 hp hs hr) (c_Ref_tenants_ok _ p M c2 hp hs hr)
    · exact op_mk (c_Main_tenants_ring _ x M c1 hb hr) (c_Ref_tenants_ring _ x M c2 hb hr) (Rel_bad hR)
  · exact op_mk (c_Main_tenants_bad _ x M c1 hb) (c_Ref_tenants_bad _ x M c2 hb) (Rel_bad hR)
