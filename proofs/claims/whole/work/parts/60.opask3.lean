theorem c_Main_ask_bad (np : Nat) (p x : Int32) (M : am_M) (hnp : M 4 0 0 4 = nI np) (h10 : np ≤ 10) (hb : ¬ ((0 ≤ p.toInt ∧ p.toInt < np) ∧ (x = 0 ∨ x = 1))) : Con 10 mMain_ask [aR 0 0 0, aI p, aI x] M (some (aI (-1000001))) M := by
  refine con_of okMain_ask [some (aR 0 0 0), some (aI p), some (aI x)] (some .int) ?_
  intro J hgo
  have p18 : J 18 [some (aR 0 0 0), some (aI p), some (aI x)] [] M := by
    refine hgo [] _ _ _ _ ?_
    exact ⟨rfl, rfl⟩
  refine hgo [18] _ _ _ _ ?_
  refine cl_ (c_House_isPaper np 0 p _ hnp (by omega)) ?_
  refine brb (fun h1 => p18) (fun h1 => ?_)
  refine cl_ (c_Main_isSwitch x _) ?_
  refine brbf (fun h2 => hb ⟨h1, h2⟩) ?_
  exact p18
def akT (x : Int32) (kd : Nat) : List Nat := if x = 0 then szT kd else mkT kd
def akV (x : Int32) (kd : Nat) (p re pr md : Int32) : Int32 := if x = 0 then szV kd p re pr md else mkV kd p re pr md
theorem c_Main_ask_ok (np p kd : Nat) (x : Int32) (M : am_M) (hP : PF M np p kd) (hx : x = 0 ∨ x = 1) : ConP 10 mMain_ask [aR 0 0 0, aI (nI p), aI x] M (fun r M2 => r = some (aI (akV x kd (nI p) (M 4 0 8 p) (M 4 0 7 p) (M 4 0 5 p))) ∧ TRc M2 M (akT x kd)) := by
  obtain ⟨P1, P2, P3, P4, P5, P6⟩ := id hP
  refine con_of okMain_ask [some (aR 0 0 0), some (aI (nI p)), some (aI x)] (some .int) ?_
  intro J hgo
  refine hgo [] _ _ _ _ ?_
  refine cl_ (c_House_isPaper np 0 (nI p) _ P1 (by omega)) ?_
  refine brbt (by rw [i3_n (by omega)]; omega) ?_
  refine cl_ (c_Main_isSwitch x _) ?_
  refine brbt hx ?_
  refine hgo [] _ _ _ _ ?_
  refine br_ (fun h1 => ?_) (fun h1 => ?_)
  · refine clp (c_Bodies_askSize np p kd M hP) ?_
    rintro r M2 ⟨rfl, h2⟩
    refine hgo [] _ _ _ _ ?_
    unfold akV akT
    rw [if_pos h1, if_pos h1]
    exact ⟨rfl, h2⟩
  · refine hgo [] _ _ _ _ ?_
    refine clp (c_Bodies_askMark np p kd M hP) ?_
    rintro r M2 ⟨rfl, h2⟩
    unfold akV akT
    rw [if_neg h1, if_neg h1]
    exact ⟨rfl, h2⟩
theorem c_Ref_ask_bad (np : Nat) (p x : Int32) (M : am_M) (hnp : M 11 0 4 1 = nI np) (h10 : np ≤ 10) (hb : ¬ ((0 ≤ p.toInt ∧ p.toInt < np) ∧ (x = 0 ∨ x = 1))) : Con 10 mRef_ask [aR 11 0 0, aI p, aI x] M (some (aI (-1000001))) (rT M) := by
  refine con_of okRef_ask [some (aR 11 0 0), some (aI p), some (aI x)] (some .int) ?_
  intro J hgo
  have p23 : J 23 [some (aR 11 0 0), some (aI p), some (aI x)] [] (rT M) := by
    refine hgo [] _ _ _ _ ?_
    exact ⟨rfl, rfl⟩
  refine hgo [23] _ _ _ _ ?_
  refine cl_ (c_Ref_isPaper np p _ hnp (by omega)) ?_
  refine brb (fun h1 => p23) (fun h1 => ?_)
  refine cl_ (c_Ref_in x 0 1 _ _ _ rfl (by decide) (by decide) _) ?_
  refine brbf (fun h2 => hb ⟨h1, swIn.mp h2⟩) ?_
  exact p23
theorem c_Ref_ask_ok (np p kd : Nat) (x : Int32) (M : am_M) (hP : PR4 M np p kd) (hx : x = 0 ∨ x = 1) : ConP 10 mRef_ask [aR 11 0 0, aI (nI p), aI x] M (fun r M2 => r = some (aI (akV x kd (nI p) (M 11 0 4 (28 + 5 * p + 4)) (M 11 0 4 (28 + 5 * p + 3)) (M 11 0 4 (28 + 5 * p + 1)))) ∧ TRr M2 (rT M) (akT x kd)) := by
  obtain ⟨P1, P2, P3, P4, P5, P6⟩ := id hP
  refine con_of okRef_ask [some (aR 11 0 0), some (aI (nI p)), some (aI x)] (some .int) ?_
  intro J hgo
  have hT : TRr (sA (rT M) 11 0 0 (upd (rT M 11 0 0) 28 0)) (rT M) [] := ⟨fun k hk => sA_k hk, fun o h1 h2 => sA_o h1, fun i hi => upd_n hi, rfl, fun i hi => absurd hi (Nat.not_lt_zero i)⟩
  refine hgo [] _ _ _ _ ?_
  refine cl_ (c_Ref_isPaper np (nI p) _ P1 (by omega)) ?_
  refine brbt (by rw [i3_n (by omega)]; omega) ?_
  refine cl_ (c_Ref_in x 0 1 _ _ _ rfl (by decide) (by decide) _) ?_
  refine brbt (swIn.mpr hx) ?_
  refine hgo [] _ _ _ _ ?_
  refine br_ (fun h1 => ?_) (fun h1 => ?_)
  · refine clp (c_Ref_sizeOf (np := np) p kd [] _ (rT M) hT (by decide) hP) ?_
    rintro r M2 ⟨rfl, h2⟩
    refine hgo [] _ _ _ _ ?_
    unfold akV akT
    rw [if_pos h1, if_pos h1]
    exact ⟨rfl, h2⟩
  · refine hgo [] _ _ _ _ ?_
    refine clp (c_Ref_markOf (np := np) p kd [] _ (rT M) hT (by decide) hP) ?_
    rintro r M2 ⟨rfl, h2⟩
    unfold akV akT
    rw [if_neg h1, if_neg h1]
    exact ⟨rfl, h2⟩
theorem Rel_bod {M M2 : am_M} (h : Rel M) (hk : ∀ k, k ≠ 10 → k ≠ 11 → M2 k = M k) (hr : ∀ o, o ≠ 0 → o ≠ 15 → M2 11 0 o = M 11 0 o) (hs : ∀ i, i ≠ 0 → i ≠ 28 → M2 11 0 0 i = M 11 0 0 i) (hb : Rbod (M2 10 0 0 1) (M2 10 0 1) (M2 11 0 0 28) (M2 11 0 15)) : Rel M2 := by
  obtain ⟨g1, g2, g3, g4, g5, g6, g7⟩ := h
  unfold Rel RelH RelA RelI
  rw [hk 0 (by decide) (by decide), hk 1 (by decide) (by decide), hk 2 (by decide) (by decide), hk 4 (by decide) (by decide), hk 5 (by decide) (by decide), hk 7 (by decide) (by decide), hk 8 (by decide) (by decide), hr 1 (by decide) (by decide), hr 2 (by decide) (by decide), hr 3 (by decide) (by decide), hr 4 (by decide) (by decide), hr 6 (by decide) (by decide), hr 7 (by decide) (by decide), hr 8 (by decide) (by decide), hr 9 (by decide) (by decide), hr 13 (by decide) (by decide), hr 14 (by decide) (by decide), hs 1 (by decide) (by decide), hs 7 (by decide) (by decide), hs 9 (by decide) (by decide), hs 10 (by decide) (by decide), hs 18 (by decide) (by decide)]
  exact ⟨g1, g2, g3, g4, g5, g6, hb⟩
theorem akL (x : Int32) (kd : Nat) (h1 : 1 ≤ kd) (h5 : kd ≤ 5) : (akT x kd).length ≤ 16 := by
  unfold akT
  split
  · exact (szN kd h1 h5).2
  · have := mkL kd
    omega
theorem op_ask (p x : Int32) (M : am_M) (hR : Rel M) : OpAt mMain_ask mRef_ask [aI p, aI x] M := by
  obtain ⟨p1, p2, p3⟩ := Rel_np hR
  by_cases hb : (0 ≤ p.toInt ∧ p.toInt < nP (M 11 0 4)) ∧ (x = 0 ∨ x = 1)
  · obtain ⟨b1, hx⟩ := hb
    have hpp := i3_of b1.1
    have hcl := i3_cl b1.1
    generalize p.toNatClampNeg = q at hpp hcl
    subst hpp
    have hq : q < nP (M 11 0 4) := by omega
    obtain ⟨kd, md, la, pr, re, ⟨k1, k2, k3, k4⟩, ⟨m1, m2, m3, m4⟩, -, ⟨r1, r2, -⟩, ⟨e1, e2, -⟩⟩ := Rel_pap hR hq
    refine op_mkP (v := akV x kd (nI q) (M 4 0 8 q) (M 4 0 7 q) (M 4 0 5 q)) (d2 := 10) (c_Main_ask_ok (nP (M 11 0 4)) q kd x M ⟨p1, p3, hq, k1, k3, k4⟩ hx) ?_
    rintro r M1 ⟨rfl, t0, t1, t2⟩
    have h11 := t0 11 (by decide)
    refine ⟨rfl, _, c_Ref_ask_ok (nP (M 11 0 4)) q kd x M1 ⟨by rw [h11]; exact p2, p3, hq, by rw [h11]; exact k2, k3, k4⟩ hx, ?_⟩
    rintro r2 M2 ⟨rfl, u0, u1, u2, u3, u4⟩
    refine ⟨?_, ?_⟩
    · rw [h11, show 28 + 5 * q + 4 = 32 + 5 * q by omega, show 28 + 5 * q + 3 = 31 + 5 * q by omega, show 28 + 5 * q + 1 = 29 + 5 * q by omega, e1, e2, r1, r2, m1, m2]
    · refine Rel_bod hR (fun k h1 h2 => ?_) (fun o h1 h2 => ?_) (fun i h1 h2 => ?_) ?_
      · rw [u0 k h2]
        show sA M1 11 0 0 _ k = _
        rw [sA_k h2]
        exact t0 k h1
      · rw [u1 o h1 h2]
        show sA M1 11 0 0 _ 11 0 o = _
        rw [sA_o h1, h11]
      · rw [u2 i h2]
        show upd (M1 11 0 0) 0 0 i = _
        rw [upd_n h1, h11]
      · have h10 : M2 10 = M1 10 := (u0 10 (by decide)).trans (sA_k (by decide))
        rw [h10]
        exact ⟨_, akL x kd k3 k4, t1, u3, fun i hi => by rw [t2 i hi, u4 i hi]⟩
  · exact op_mk (c_Main_ask_bad _ p x M p1 p3 hb) (c_Ref_ask_bad _ p x M p2 p3 hb) (Rel_bad hR)
