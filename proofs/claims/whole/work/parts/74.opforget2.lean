theorem c_Main_forget_state (M : am_M) (h0 : M 5 0 0 0 = 0) : Con 7 mMain_forget [aR 0 0 0] M (some (aI (-1000002))) M := by
  refine con_of okMain_forget [some (aR 0 0 0)] (some .int) ?_
  intro J hgo
  refine hgo [] _ _ _ _ ?_
  refine brt h0 ?_
  exact ⟨rfl, rfl⟩
theorem c_Main_forget_ok (h : Nat → Int32) (n : Nat) (M : am_M) (hv : HV h) (hn : nS h = n + 1) (hr : RH (M 4 0) (M 5 0) h) : ConP 7 mMain_forget [aR 0 0 0] M (fun r M2 => r = some (aI (nI n)) ∧ (∀ k, k ≠ 5 → k ≠ 7 → k ≠ 8 → M2 k = M k) ∧ M2 5 = sA M 5 0 0 (upd (M 5 0 0) 0 (nI n)) 5 ∧ FO (M2 7 0) (upd h 3 (nI n)) ∧ FX (M2 7 0) (upd h 3 (nI n)) ∧ M2 8 0 0 1 = 0) := by
  have s9 := hv.2.2.2.1.2
  have e0 : M 5 0 0 0 = nI (n + 1) := by rw [hr.2.2.2.1, hv.2.2.2.1.1, hn]
  have e1 : M 5 0 0 0 - 1 = nI n := by rw [e0]; exact pk_sub (a := n + 1) (b := 1) (by omega)
  refine con_of okMain_forget [some (aR 0 0 0)] (some .int) ?_
  intro J hgo
  refine hgo [] _ _ _ _ ?_
  refine brf (show ¬ M 5 0 0 0 = 0 by rw [e0]; exact nI_ne0 (by omega) (by omega)) ?_
  refine hgo [] _ _ _ _ ?_
  refine clpe (c_Main_learnAnew (upd h 3 (nI n)) (sA M 5 0 0 (upd (M 5 0 0) 0 (nI n))) (HV_fg hv hn).1 (RH_fg hv hn hr rfl (fun o ho => sA_o ho))) rfl (by rw [e1]) ?_
  rintro r M2 ⟨rfl, a1, a2, a3, a4⟩
  have h5 := a1 5 (by decide) (by decide)
  refine ⟨?_, fun k g5 g7 g8 => (a1 k g7 g8).trans (sA_k g5), h5, a2, a3, a4⟩
  show some (aI (M2 5 0 0 0)) = _
  rw [h5]
  rfl
theorem c_Ref_forget_state (M : am_M) (h0 : M 11 0 4 3 = 0) : Con 7 mRef_forget [aR 11 0 0] M (some (aI (-1000002))) (rT M) := by
  refine con_of okRef_forget [some (aR 11 0 0)] (some .int) ?_
  intro J hgo
  refine hgo [] _ _ _ _ ?_
  refine ob_ (vp_in_nI (n := 3) (N := 198) (by omega) (by omega)) ?_
  refine brt h0 ?_
  exact ⟨rfl, rfl⟩
theorem c_Ref_forget_ok (n : Nat) (M : am_M) (hv : HV (M 11 0 4)) (hn : nS (M 11 0 4) = n + 1) : ConP 7 mRef_forget [aR 11 0 0] M (fun r M2 => r = some (aI (nI n)) ∧ (∀ k, k ≠ 11 → M2 k = M k) ∧ M2 11 0 4 = upd (M 11 0 4) 3 (nI n) ∧ (∀ o, o ≠ 0 → o ≠ 4 → o ≠ 7 → o ≠ 8 → o ≠ 9 → M2 11 0 o = M 11 0 o) ∧ (∀ i, i ≠ 0 → i ≠ 18 → M2 11 0 0 i = M 11 0 0 i) ∧ FR (M2 11 0 0 18) (M2 11 0 7) (M2 11 0 8) (M2 11 0 9) (upd (M 11 0 4) 3 (nI n))) := by
  have s9 := hv.2.2.2.1.2
  have e0 : M 11 0 4 3 = nI (n + 1) := by rw [hv.2.2.2.1.1, hn]
  have e1 : M 11 0 4 3 - 1 = nI n := by rw [e0]; exact pk_sub (a := n + 1) (b := 1) (by omega)
  refine con_of okRef_forget [some (aR 11 0 0)] (some .int) ?_
  intro J hgo
  refine hgo [] _ _ _ _ ?_
  refine ob_ (vp_in_nI (n := 3) (N := 198) (by omega) (by omega)) ?_
  refine brf (show ¬ M 11 0 4 3 = 0 by rw [e0]; exact nI_ne0 (by omega) (by omega)) ?_
  refine hgo [] _ _ _ _ ?_
  refine ob_ (vp_in_nI (n := 3) (N := 198) (by omega) (by omega)) ?_
  refine ob_ (vp_in_nI (n := 3) (N := 198) (by omega) (by omega)) ?_
  refine clpe (c_Ref_laySpots (upd (M 11 0 4) 3 (nI n)) (sA (rT M) 11 0 4 (upd (M 11 0 4) 3 (nI n))) (HV_fg hv hn).1 sA_s) rfl (by rw [← e1]; rfl) ?_
  rintro r M2 ⟨rfl, a1, a2, a3, a4⟩
  have h4 : M2 11 0 4 = upd (M 11 0 4) 3 (nI n) := (a2 4 (by decide) (by decide) (by decide) (by decide)).trans sA_s
  refine ob_ (vp_in_nI (n := 3) (N := 198) (by omega) (by omega)) ?_
  refine ⟨?_, fun k hk => (a1 k hk).trans ((sA_k hk).trans (sA_k hk)), h4, fun o g0 g4 g7 g8 g9 => (a2 o g0 g7 g8 g9).trans ((sA_o g4).trans (sA_o g0)), fun i g0 g18 => (a3 i g18).trans (show upd (M 11 0 0) 0 0 i = _ from upd_n g0), a4⟩
  show some (aI (M2 11 0 4 3)) = _
  rw [h4]
  rfl
