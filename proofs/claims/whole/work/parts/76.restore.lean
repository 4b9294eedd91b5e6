/-! restore -/
theorem Rel_new {M M2 : am_M} (hR : Rel M) (h1 : M2 1 0 = M 1 0) (ht : Rtape (M2 2 0 0 1) (M2 2 0 1) (M2 11 0 0 9) (M2 11 0 6)) (ha : RelA (M2 0 0 0) (M2 11 0 0)) (hv : HV (M2 11 0 4)) (hr : RH (M2 4 0) (M2 5 0) (M2 11 0 4)) (h7 : M2 11 0 0 7 = b2i (0 < nW (M2 11 0 4))) (h77 : M 11 0 0 7 = 1 → M2 11 0 0 7 = 1) (hfr : FR (M2 11 0 0 18) (M2 11 0 7) (M2 11 0 8) (M2 11 0 9) (M2 11 0 4)) (hfo : FO (M2 7 0) (M2 11 0 4)) (hfx : FX (M2 7 0) (M2 11 0 4)) (hoc : M2 8 0 0 1 = 0) (hc2 : M2 4 2 = M 4 2) (hc3 : M2 4 3 = M 4 3) (hp1 : M2 5 1 = M 5 1) (hp2 : M2 5 2 = M 5 2) (h10 : M2 10 0 = M 10 0) (hro : ∀ o, o = 1 ∨ o = 2 ∨ o = 3 ∨ o = 13 ∨ o = 14 ∨ o = 15 → M2 11 0 o = M 11 0 o) (h28 : M2 11 0 0 28 = M 11 0 0 28) : Rel M2 := by
  obtain ⟨g1, g2, g3, g4, g5, ⟨g61, g62, g63⟩, g7⟩ := hR
  refine ⟨?_, ht, ha, ⟨hv, hr, h7, hfr⟩, ⟨hfo, hfx, Or.inl hoc⟩, ⟨?_, ?_, ?_⟩, ?_⟩
  · rw [h1, hro 1 (by decide), hro 2 (by decide), hro 3 (by decide)]
    exact g1
  · rw [hc2, hp1, hro 13 (by decide), hro 14 (by decide)]
    exact g61
  · rw [hc3, hp2, hro 13 (by decide), hro 14 (by decide)]
    exact g62
  · rw [hro 13 (by decide)]
    exact fun q => h77 (g63 q)
  · rw [h10, h28, hro 15 (by decide)]
    exact g7
def rsF (f h : Nat → Int32) (k : Nat) : Nat → Int32 := fun x => if x < 198 then f (198 * k + x) else h x
theorem c_Main_restore_bad (x : Int32) (M : am_M) (h : ¬ (x = 0 ∨ x = 1)) : Con 7 mMain_restore [aR 0 0 0, aI x] M (some (aI (-1000001))) M := by
  refine con_of okMain_restore [some (aR 0 0 0), some (aI x), none] (some .int) ?_
  intro J hgo
  refine hgo [] _ _ _ _ ?_
  refine cl_ (c_Main_isSwitch x _) ?_
  refine brbf h ?_
  exact ⟨rfl, rfl⟩
theorem c_Ref_restore_bad (x : Int32) (M : am_M) (h : ¬ (x = 0 ∨ x = 1)) : Con 7 mRef_restore [aR 11 0 0, aI x] M (some (aI (-1000001))) (rT M) := by
  refine con_of okRef_restore [some (aR 11 0 0), some (aI x), none] (some .int) ?_
  intro J hgo
  refine hgo [] _ _ _ _ ?_
  refine cl_ (c_Ref_in x 0 1 _ _ _ rfl (by decide) (by decide) _) ?_
  refine brbf (fun q => h (swIn.mp q)) ?_
  exact ⟨rfl, rfl⟩
theorem c_Ref_restore_state (k : Nat) (hk : k < 2) (M : am_M) (h : M 11 0 13 k = 0) : Con 7 mRef_restore [aR 11 0 0, aI (nI k)] M (some (aI (-1000002))) (rT M) := by
  refine con_of okRef_restore [some (aR 11 0 0), some (aI (nI k)), none] (some .int) ?_
  intro J hgo
  refine hgo [] _ _ _ _ ?_
  refine cl_ (c_Ref_in (nI k) 0 1 _ _ _ rfl (by decide) (by decide) _) ?_
  refine brbt ⟨nI_pos' (by omega), nI_le (b := 1) (by omega) (by omega)⟩ ?_
  refine hgo [] _ _ _ _ ?_
  refine ob_ (vp_in_nI (by omega) (by omega)) ?_
  refine brt (show M 11 0 13 (nI k).toNatClampNeg = 0 by rw [cl_nI (by omega)]; exact h) ?_
  exact ⟨rfl, rfl⟩
theorem c_Ref_restore_ok (k : Nat) (hk : k < 2) (h : Nat → Int32) (M : am_M) (h1 : M 11 0 13 k = 1) (hv : HV h) (he : ∀ i, i < 198 → M 11 0 14 (198 * k + i) = h i) (hg : ∀ i, 198 ≤ i → M 11 0 4 i = h i) : ConP 7 mRef_restore [aR 11 0 0, aI (nI k)] M (fun r M2 => r = some (aI 1) ∧ (∀ k, k ≠ 11 → M2 k = M k) ∧ M2 11 0 4 = h ∧ (∀ o, o ≠ 0 → o ≠ 4 → o ≠ 7 → o ≠ 8 → o ≠ 9 → M2 11 0 o = M 11 0 o) ∧ (∀ i, i ≠ 0 → i ≠ 18 → M2 11 0 0 i = M 11 0 0 i) ∧ FR (M2 11 0 0 18) (M2 11 0 7) (M2 11 0 8) (M2 11 0 9) (M2 11 0 4)) := by
  refine con_of okRef_restore [some (aR 11 0 0), some (aI (nI k)), none] (some .int) ?_
  intro J hgo
  have loop : ∀ m i iv f M2, m = 198 - i → i ≤ 198 → iv = nI i → M2 = sA (rT M) 11 0 4 f → (∀ j, j < i → f j = h j) → (∀ j, 198 ≤ j → f j = h j) → J 32 [some (aR 11 0 0), some (aI (nI k)), some (aI iv)] [] M2 := by
    intro m
    induction m with
    | zero =>
      intro i iv f M2 hm hi hv2 hM hf hf2
      obtain rfl : i = 198 := by omega
      subst hv2 hM
      have ef : f = h := by
        funext j
        by_cases hj : j < 198
        · exact hf j hj
        · exact hf2 j (by omega)
      refine hgo [] _ _ _ _ ?_
      refine brt (by decide) ?_
      refine hgo [] _ _ _ _ ?_
      refine clp (c_Ref_laySpots f (sA (rT M) 11 0 4 f) (by rw [ef]; exact hv) sA_s) ?_
      rintro r M2 ⟨rfl, a1, a2, a3, a4⟩
      have h4 : M2 11 0 4 = f := (a2 4 (by decide) (by decide) (by decide) (by decide)).trans sA_s
      refine ⟨rfl, fun k hk => (a1 k hk).trans ((sA_k hk).trans (sA_k hk)), by rw [h4, ef], fun o g0 g4 g7 g8 g9 => (a2 o g0 g7 g8 g9).trans ((sA_o g4).trans (sA_o g0)), fun i g0 g18 => (a3 i g18).trans (show upd (M 11 0 0) 0 0 i = _ from upd_n g0), ?_⟩
      rw [h4]
      exact a4
    | succ m ih =>
      intro i iv f M2 hm hi hv2 hM hf hf2
      subst hv2 hM
      have hi : i < 198 := by omega
      have e0 := ix198 hk (show i ≤ 198 by omega)
      refine hgo [] _ _ _ _ ?_
      refine brf (nI_ge (b := 198) hi (by omega)) ?_
      refine ob_ (by rw [e0]; exact vp_in_nI (by omega) (by omega)) ?_
      refine ob_ (vp_in_nI (by omega) (by omega)) ?_
      refine ih (i + 1) _ (upd f i (h i)) _ (by omega) (by omega) (nI_1 i) ?_ (fun j hj => ?_) (fun j hj => by rw [upd_n (by omega)]; exact hf2 j hj)
      · rw [e0, cl_nI (by omega), cl_nI (by omega), sA_sA, sA_s]
        congr 2
        exact he i hi
      · by_cases e : j = i
        · rw [e, upd_s]
        · rw [upd_n e]
          exact hf j (by omega)
  refine hgo [] _ _ _ _ ?_
  refine cl_ (c_Ref_in (nI k) 0 1 _ _ _ rfl (by decide) (by decide) _) ?_
  refine brbt ⟨nI_pos' (by omega), nI_le (b := 1) (by omega) (by omega)⟩ ?_
  refine hgo [] _ _ _ _ ?_
  refine ob_ (vp_in_nI (by omega) (by omega)) ?_
  refine brf (show ¬ M 11 0 13 (nI k).toNatClampNeg = 0 by rw [cl_nI (by omega), h1]; decide) ?_
  refine hgo [32] _ _ _ _ ?_
  exact loop _ 0 _ (M 11 0 4) _ rfl (by omega) rfl (sA_id (M := rT M) (k := 11) (j := 0) (o := 4)).symm (fun j hj => by omega) hg
theorem c_Main_restore_state_0 (M : am_M) (hn : M 4 2 0 0 = 0) : Con 7 mMain_restore [aR 0 0 0, aI (nI 0)] M (some (aI (-1000002))) M := by
  refine con_of okMain_restore [some (aR 0 0 0), some (aI (nI 0)), none] (some .int) ?_
  intro J hgo
  refine hgo [] _ _ _ _ ?_
  refine cl_ (c_Main_isSwitch (nI 0) _) ?_
  refine brbt (Or.inl rfl) ?_
  refine hgo [] _ _ _ _ ?_
  refine brt rfl ?_
  refine hgo [] _ _ _ _ ?_
  refine cl_ (c_House_stands 0 2 _ hn (by omega)) ?_
  refine brbf (by omega) ?_
  exact ⟨rfl, rfl⟩
theorem c_Main_restore_ok_0 (h : Nat → Int32) (M : am_M) (hv : HV h) (hr : RH (M 4 2) (M 5 1) h) (hw : 1 ≤ nW h) : ConP 7 mMain_restore [aR 0 0 0, aI (nI 0)] M (fun r M2 => r = some (aI 1) ∧ (∀ k, k ≠ 4 → k ≠ 5 → k ≠ 7 → k ≠ 8 → M2 k = M k) ∧ RH (M2 4 0) (M2 5 0) h ∧ (∀ i, i ≠ 0 → M2 4 i = M 4 i) ∧ (∀ i, i ≠ 0 → M2 5 i = M 5 i) ∧ FO (M2 7 0) h ∧ FX (M2 7 0) h ∧ M2 8 0 0 1 = 0) := by
  have w8 := hv.1.2
  refine con_of okMain_restore [some (aR 0 0 0), some (aI (nI 0)), none] (some .int) ?_
  intro J hgo
  refine hgo [] _ _ _ _ ?_
  refine cl_ (c_Main_isSwitch (nI 0) _) ?_
  refine brbt (Or.inl rfl) ?_
  refine hgo [] _ _ _ _ ?_
  refine brt rfl ?_
  refine hgo [] _ _ _ _ ?_
  refine cl_ (c_House_stands (nW h) 2 _ (by rw [hr.1.1, hv.1.1]) (by omega)) ?_
  refine brbt (by omega) ?_
  refine hgo [] _ _ _ _ ?_
  refine clp (c_House_take 0 2 h M (by decide) hv hr.1 hr.2.1 hr.2.2.1) ?_
  rintro r Ma ⟨rfl, a1, a2, a3, a4⟩
  refine clp (c_Spots_take 0 1 h Ma (by decide) hv (by rw [a1.1 5 (by decide)]; exact hr.2.2.2)) ?_
  rintro r Mb ⟨rfl, b1, b2⟩
  have hrb : RH (Mb 4 0) (Mb 5 0) h := by
    rw [b1.1 4 (by decide)]
    exact ⟨a2, a3, a4, b2⟩
  refine clp (c_Main_learnAnew h Mb hv hrb) ?_
  rintro r M2 ⟨rfl, d1, d2, d3, d4⟩
  refine ⟨rfl, fun k g4 g5 g7 g8 => (d1 k g7 g8).trans ((b1.1 k g5).trans (a1.1 k g4)), by rw [d1 4 (by decide) (by decide), d1 5 (by decide) (by decide)]; exact hrb, fun i hi => ?_, fun i hi => ?_, d2, d3, d4⟩
  · rw [d1 4 (by decide) (by decide), b1.1 4 (by decide), a1.2 i hi]
  · rw [d1 5 (by decide) (by decide), b1.2 i hi, a1.1 5 (by decide)]
theorem op_restore_0 (M : am_M) (hR : Rel M) : OpAt mMain_restore mRef_restore [aI (nI 0)] M := by
  obtain ⟨q1, q2, q3, ⟨hv0, hr0, hth, hfr⟩, q5, q6, q7⟩ := id hR
  rcases q6.1 with ⟨k1, k2⟩ | ⟨k1, hv, hr, hw⟩
  · exact op_mk (c_Main_restore_state_0 M k2) (c_Ref_restore_state 0 (by decide) M k1) (Rel_bad hR)
  · have t7 : M 11 0 0 7 = 1 := q6.2.2 (Or.inl k1)
    have ee : ∀ i, i < 198 → rsF (M 11 0 14) (M 11 0 4) 0 i = M 11 0 14 i := by
      intro i hi
      unfold rsF
      rw [if_pos hi] <;> (congr 1; omega)
    refine op_mkP (v := 1) (d2 := 7) (c_Main_restore_ok_0 (rsF (M 11 0 14) (M 11 0 4) 0) M (HV_cong ee hv) (RH_cong ee hv hr) (by rw [nW_cong ee]; exact hw)) ?_
    rintro r M1 ⟨rfl, a1, a2, a3, a4, a5, a6, a7⟩
    have h11 := a1 11 (by decide) (by decide) (by decide) (by decide)
    refine ⟨rfl, _, c_Ref_restore_ok 0 (by decide) (rsF (M 11 0 14) (M 11 0 4) 0) M1 (by rw [h11]; exact k1) (HV_cong ee hv) (fun i hi => by rw [h11]; unfold rsF; rw [if_pos hi]) (fun i hi => by rw [h11]; unfold rsF; rw [if_neg (by omega)]), ?_⟩
    rintro r2 M2 ⟨rfl, b1, b2, b3, b4, b5⟩
    have e7 : M2 11 0 0 7 = 1 := by rw [b4 7 (by decide) (by decide), h11]; exact t7
    refine ⟨rfl, Rel_new hR ?_ ?_ ?_ (by rw [b2]; exact HV_cong ee hv) ?_ ?_ (fun _ => e7) b5 ?_ ?_ ?_ ?_ ?_ ?_ ?_ ?_ ?_ ?_⟩
    · rw [b1 1 (by decide), a1 1 (by decide) (by decide) (by decide) (by decide)]
    · rw [b1 2 (by decide), a1 2 (by decide) (by decide) (by decide) (by decide), b4 9 (by decide) (by decide), b3 6 (by decide) (by decide) (by decide) (by decide) (by decide), h11]
      exact q2
    · unfold RelA
      rw [b1 0 (by decide), a1 0 (by decide) (by decide) (by decide) (by decide), b4 10 (by decide) (by decide), b4 1 (by decide) (by decide), h11]
      exact q3
    · rw [b1 4 (by decide), b1 5 (by decide)]
      rw [b2]
      exact a2
    · rw [e7, b2i_t (by rw [b2, nW_cong ee]; exact hw)]
    · rw [b1 7 (by decide)]
      rw [b2]
      exact a5
    · rw [b1 7 (by decide)]
      rw [b2]
      exact a6
    · rw [b1 8 (by decide)]
      exact a7
    · rw [b1 4 (by decide), a3 2 (by decide)]
    · rw [b1 4 (by decide), a3 3 (by decide)]
    · rw [b1 5 (by decide), a4 1 (by decide)]
    · rw [b1 5 (by decide), a4 2 (by decide)]
    · rw [b1 10 (by decide), a1 10 (by decide) (by decide) (by decide) (by decide)]
    · intro o ho
      rw [b3 o (by omega) (by omega) (by omega) (by omega) (by omega), h11]
    · rw [b4 28 (by decide) (by decide), h11]
theorem c_Main_restore_state_1 (M : am_M) (hn : M 4 3 0 0 = 0) : Con 7 mMain_restore [aR 0 0 0, aI (nI 1)] M (some (aI (-1000002))) M := by
  refine con_of okMain_restore [some (aR 0 0 0), some (aI (nI 1)), none] (some .int) ?_
  intro J hgo
  refine hgo [] _ _ _ _ ?_
  refine cl_ (c_Main_isSwitch (nI 1) _) ?_
  refine brbt (Or.inr rfl) ?_
  refine hgo [] _ _ _ _ ?_
  refine brf (by decide) ?_
  refine hgo [] _ _ _ _ ?_
  refine cl_ (c_House_stands 0 3 _ hn (by omega)) ?_
  refine brbf (by omega) ?_
  exact ⟨rfl, rfl⟩
theorem c_Main_restore_ok_1 (h : Nat → Int32) (M : am_M) (hv : HV h) (hr : RH (M 4 3) (M 5 2) h) (hw : 1 ≤ nW h) : ConP 7 mMain_restore [aR 0 0 0, aI (nI 1)] M (fun r M2 => r = some (aI 1) ∧ (∀ k, k ≠ 4 → k ≠ 5 → k ≠ 7 → k ≠ 8 → M2 k = M k) ∧ RH (M2 4 0) (M2 5 0) h ∧ (∀ i, i ≠ 0 → M2 4 i = M 4 i) ∧ (∀ i, i ≠ 0 → M2 5 i = M 5 i) ∧ FO (M2 7 0) h ∧ FX (M2 7 0) h ∧ M2 8 0 0 1 = 0) := by
  have w8 := hv.1.2
  refine con_of okMain_restore [some (aR 0 0 0), some (aI (nI 1)), none] (some .int) ?_
  intro J hgo
  refine hgo [] _ _ _ _ ?_
  refine cl_ (c_Main_isSwitch (nI 1) _) ?_
  refine brbt (Or.inr rfl) ?_
  refine hgo [] _ _ _ _ ?_
  refine brf (by decide) ?_
  refine hgo [] _ _ _ _ ?_
  refine cl_ (c_House_stands (nW h) 3 _ (by rw [hr.1.1, hv.1.1]) (by omega)) ?_
  refine brbt (by omega) ?_
  refine hgo [] _ _ _ _ ?_
  refine clp (c_House_take 0 3 h M (by decide) hv hr.1 hr.2.1 hr.2.2.1) ?_
  rintro r Ma ⟨rfl, a1, a2, a3, a4⟩
  refine clp (c_Spots_take 0 2 h Ma (by decide) hv (by rw [a1.1 5 (by decide)]; exact hr.2.2.2)) ?_
  rintro r Mb ⟨rfl, b1, b2⟩
  have hrb : RH (Mb 4 0) (Mb 5 0) h := by
    rw [b1.1 4 (by decide)]
    exact ⟨a2, a3, a4, b2⟩
  refine clp (c_Main_learnAnew h Mb hv hrb) ?_
  rintro r M2 ⟨rfl, d1, d2, d3, d4⟩
  refine ⟨rfl, fun k g4 g5 g7 g8 => (d1 k g7 g8).trans ((b1.1 k g5).trans (a1.1 k g4)), by rw [d1 4 (by decide) (by decide), d1 5 (by decide) (by decide)]; exact hrb, fun i hi => ?_, fun i hi => ?_, d2, d3, d4⟩
  · rw [d1 4 (by decide) (by decide), b1.1 4 (by decide), a1.2 i hi]
  · rw [d1 5 (by decide) (by decide), b1.2 i hi, a1.1 5 (by decide)]
theorem op_restore_1 (M : am_M) (hR : Rel M) : OpAt mMain_restore mRef_restore [aI (nI 1)] M := by
  obtain ⟨q1, q2, q3, ⟨hv0, hr0, hth, hfr⟩, q5, q6, q7⟩ := id hR
  rcases q6.2.1 with ⟨k1, k2⟩ | ⟨k1, hv, hr, hw⟩
  · exact op_mk (c_Main_restore_state_1 M k2) (c_Ref_restore_state 1 (by decide) M k1) (Rel_bad hR)
  · have t7 : M 11 0 0 7 = 1 := q6.2.2 (Or.inr k1)
    have ee : ∀ i, i < 198 → rsF (M 11 0 14) (M 11 0 4) 1 i = M 11 0 14 (198 + i) := by
      intro i hi
      unfold rsF
      rw [if_pos hi] <;> (congr 1; omega)
    refine op_mkP (v := 1) (d2 := 7) (c_Main_restore_ok_1 (rsF (M 11 0 14) (M 11 0 4) 1) M (HV_cong ee hv) (RH_cong ee hv hr) (by rw [nW_cong ee]; exact hw)) ?_
    rintro r M1 ⟨rfl, a1, a2, a3, a4, a5, a6, a7⟩
    have h11 := a1 11 (by decide) (by decide) (by decide) (by decide)
    refine ⟨rfl, _, c_Ref_restore_ok 1 (by decide) (rsF (M 11 0 14) (M 11 0 4) 1) M1 (by rw [h11]; exact k1) (HV_cong ee hv) (fun i hi => by rw [h11]; unfold rsF; rw [if_pos hi]) (fun i hi => by rw [h11]; unfold rsF; rw [if_neg (by omega)]), ?_⟩
    rintro r2 M2 ⟨rfl, b1, b2, b3, b4, b5⟩
    have e7 : M2 11 0 0 7 = 1 := by rw [b4 7 (by decide) (by decide), h11]; exact t7
    refine ⟨rfl, Rel_new hR ?_ ?_ ?_ (by rw [b2]; exact HV_cong ee hv) ?_ ?_ (fun _ => e7) b5 ?_ ?_ ?_ ?_ ?_ ?_ ?_ ?_ ?_ ?_⟩
    · rw [b1 1 (by decide), a1 1 (by decide) (by decide) (by decide) (by decide)]
    · rw [b1 2 (by decide), a1 2 (by decide) (by decide) (by decide) (by decide), b4 9 (by decide) (by decide), b3 6 (by decide) (by decide) (by decide) (by decide) (by decide), h11]
      exact q2
    · unfold RelA
      rw [b1 0 (by decide), a1 0 (by decide) (by decide) (by decide) (by decide), b4 10 (by decide) (by decide), b4 1 (by decide) (by decide), h11]
      exact q3
    · rw [b1 4 (by decide), b1 5 (by decide)]
      rw [b2]
      exact a2
    · rw [e7, b2i_t (by rw [b2, nW_cong ee]; exact hw)]
    · rw [b1 7 (by decide)]
      rw [b2]
      exact a5
    · rw [b1 7 (by decide)]
      rw [b2]
      exact a6
    · rw [b1 8 (by decide)]
      exact a7
    · rw [b1 4 (by decide), a3 2 (by decide)]
    · rw [b1 4 (by decide), a3 3 (by decide)]
    · rw [b1 5 (by decide), a4 1 (by decide)]
    · rw [b1 5 (by decide), a4 2 (by decide)]
    · rw [b1 10 (by decide), a1 10 (by decide) (by decide) (by decide) (by decide)]
    · intro o ho
      rw [b3 o (by omega) (by omega) (by omega) (by omega) (by omega), h11]
    · rw [b4 28 (by decide) (by decide), h11]
theorem op_restore (x : Int32) (M : am_M) (hR : Rel M) : OpAt mMain_restore mRef_restore [aI x] M := by
  by_cases hx : x = 0 ∨ x = 1
  · rcases hx with rfl | rfl
    · exact op_restore_0 M hR
    · exact op_restore_1 M hR
  · exact op_mk (c_Main_restore_bad x M hx) (c_Ref_restore_bad x M hx) (Rel_bad hR)
