theorem c_dateMost (h : Nat → Int32) (p : Nat) (M : am_M) (hv : HV h) (hpp : RHp (M 4 0) h) (hp : p < nP h) (hah : ∀ q, q < 10 → M 7 0 2 q = bs (Ah h q)) (hL : ∀ q, q < 10 → Ah h q p = true → (M 7 0 6 q).toInt = YU h q ∧ 0 ≤ YU h q ∧ YU h q < 5000) : ConP 3 mFacts_dateMost [aR 7 0 0, aI (nI p)] M (fun r M2 => r = none ∧ ∃ v, M2 = sA M 7 0 6 (upd (M 7 0 6) p v) ∧ v.toInt = - mxF (fun s => Ah h s p) (fun s => - YU h s + 1) (- cap h p) 10) := by
  obtain ⟨⟨v0, w8⟩, ⟨v1, p10⟩, -, -, vw, vp, -, -⟩ := id hv
  have hpc : (nI p).toNatClampNeg = p := cl_nI (by omega)
  have en : M 4 0 0 4 = nI (nP h) := by rw [hpp.1, v1]
  refine con_of okFacts_dateMost [some (aR 7 0 0), some (aI (nI p)), none, none] none ?_
  intro J hgo
  have l2 : ∀ m c cv x, m = 10 - c → c ≤ 10 → cv = nI c → x.toInt = - mxF (fun s => Ah h s p) (fun s => - YU h s + 1) (- cap h p) c → J 32 [some (aR 7 0 0), some (aI (nI p)), some (aI x), some (aI cv)] [] M := by
    intro m
    induction m with
    | zero =>
      intro c cv x hm hc hv2 hx
      obtain rfl : c = 10 := by omega
      subst hv2
      refine hgo [] _ _ _ _ ?_
      refine brt (by decide) ?_
      refine hgo [] _ _ _ _ ?_
      refine ob_ (vp_in_nI (by omega) (by omega)) ?_
      exact ⟨rfl, x, by rw [hpc], hx⟩
    | succ m ih =>
      intro c cv x hm hc hv2 hx
      subst hv2
      have hc10 : c < 10 := by omega
      have hcc : (nI c).toNatClampNeg = c := cl_nI (by omega)
      have nx : ∀ x, x.toInt = - mxF (fun s => Ah h s p) (fun s => - YU h s + 1) (- cap h p) (c + 1) → J 64 [some (aR 7 0 0), some (aI (nI p)), some (aI x), some (aI (nI c))] [] M := by
        intro x hx
        refine hgo [] _ _ _ _ ?_
        exact ih (c + 1) _ _ (by omega) (by omega) (nI_1 c) hx
      refine hgo [64] _ _ _ _ ?_
      refine brf (nI_ge (b := 10) hc10 (by omega)) ?_
      refine ob_ (vp_in_nI (by omega) (by omega)) ?_
      refine cle (c_Main_has (Ah h c) p M (by omega)) (by rw [hcc, hah c hc10]) rfl ?_
      refine brb (fun g1 => ?_) (fun g1 => ?_)
      · refine nx _ ?_
        unfold mxF
        rw [if_neg g1]
        exact hx
      · obtain ⟨e1, e2, e3⟩ := hL c hc10 g1
        refine ob_ (vp_in_nI (by omega) (by omega)) ?_
        refine cl_ (c_Math_min _ _ _) ?_
        refine nx _ ?_
        unfold mxF
        have o1 : Int32.toInt 1 = 1 := by decide
        rw [if_pos g1, mn_i, hcc, i3_sub (by rw [e1, o1]; omega) (by rw [e1, o1]; omega), e1, o1, hx]
        omega
  obtain ⟨kd, md, la, pr, re, k1, k2, k3, m1, m2, m3, l1, l3, l4, -⟩ := vp p hp
  have hkd : hN h (28 + 5 * p) = kd := by unfold hN; rw [k1, cl_nI (by omega)]
  have hla : hN h (30 + 5 * p) = la := by unfold hN; rw [l1, cl_nI (by omega)]
  have p30 : ∀ x, x.toInt = cap h p → J 30 [some (aR 7 0 0), some (aI (nI p)), some (aI x), none] [] M := by
    intro x hx
    refine hgo [32] _ _ _ _ ?_
    exact l2 _ 0 _ _ rfl (by omega) rfl (by rw [hx]; show _ = - (- cap h p); omega)
  refine hgo [30] _ _ _ _ ?_
  refine cl_ (c_House_isOf 0 (nP h) p kd 2 M en p10 hp (by rw [(hpp.2 p hp).1, k1]) k2 k3 (by omega)) ?_
  refine brb (fun g1 => ?_) (fun g1 => ?_)
  · refine p30 _ ?_
    unfold cap
    rw [hkd, if_neg (by rintro (e | e) <;> subst e <;> exact g1 (by decide))]
    decide
  · refine ob_ (vp_in_nI (by omega) (by omega)) ?_
    refine cl_ (c_Math_min _ _ _) ?_
    refine p30 _ ?_
    have hk : kd = 2 ∨ kd = 3 := by
      simp [isk] at g1
      exact g1
    unfold cap
    have o1 : Int32.toInt 1999 = 1999 := by decide
    rw [hkd, if_pos hk, mn_i, hpc, (hpp.2 p hp).2.2.1, l1, i3_n (by omega), hla, o1]
    omega
