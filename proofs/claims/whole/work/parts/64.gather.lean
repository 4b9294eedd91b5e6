/-! fill; gather -/
theorem c_fill_7_1 (x : Int32) (M : am_M) : ConP 1 mArr_fill2 [aR 7 0 1, aI x] M (fun r M2 => r = none ∧ ∃ f, M2 = sA M 7 0 1 f ∧ ∀ i, i < 8 → f i = x) := by
  refine con_of okArr_fill2 [some (aR 7 0 1), some (aI x), none, none] none ?_
  intro J hgo
  have loop : ∀ m i iv f M2, m = 8 - i → i ≤ 8 → iv = nI i → M2 = sA M 7 0 1 f → (∀ j, j < i → f j = x) → J 5 [some (aR 7 0 1), some (aI x), some (aI iv), some (aI (nI 8))] [] M2 := by
    intro m
    induction m with
    | zero =>
      intro i iv f M2 hm hi hv hM hf
      obtain rfl : i = 8 := by omega
      subst hv
      refine hgo [] _ _ _ _ ?_
      refine brt (nI_le (Nat.le_refl _) (by omega)) ?_
      refine hgo [] _ _ _ _ ?_
      exact ⟨rfl, f, hM, hf⟩
    | succ m ih =>
      intro i iv f M2 hm hi hv hM hf
      subst hv
      refine hgo [] _ _ _ _ ?_
      refine brf (nI_ge (by omega) (by omega)) ?_
      refine ob_ (vp_in_nI (by omega) (by omega)) ?_
      refine ih (i + 1) _ (upd f i x) _ (by omega) (by omega) (nI_1 i) ?_ (fun j hj => ?_)
      · rw [hM, sA_sA, sA_s, cl_nI (by omega)]
      · by_cases e : j = i
        · rw [e, upd_s]
        · rw [upd_n e]
          exact hf j (by omega)
  refine hgo [5] _ _ _ _ ?_
  exact loop _ 0 _ (M 7 0 1) _ rfl (by omega) rfl sA_id.symm (fun j hj => by omega)
theorem c_fill_7_2 (x : Int32) (M : am_M) : ConP 1 mArr_fill2 [aR 7 0 2, aI x] M (fun r M2 => r = none ∧ ∃ f, M2 = sA M 7 0 2 f ∧ ∀ i, i < 10 → f i = x) := by
  refine con_of okArr_fill2 [some (aR 7 0 2), some (aI x), none, none] none ?_
  intro J hgo
  have loop : ∀ m i iv f M2, m = 10 - i → i ≤ 10 → iv = nI i → M2 = sA M 7 0 2 f → (∀ j, j < i → f j = x) → J 5 [some (aR 7 0 2), some (aI x), some (aI iv), some (aI (nI 10))] [] M2 := by
    intro m
    induction m with
    | zero =>
      intro i iv f M2 hm hi hv hM hf
      obtain rfl : i = 10 := by omega
      subst hv
      refine hgo [] _ _ _ _ ?_
      refine brt (nI_le (Nat.le_refl _) (by omega)) ?_
      refine hgo [] _ _ _ _ ?_
      exact ⟨rfl, f, hM, hf⟩
    | succ m ih =>
      intro i iv f M2 hm hi hv hM hf
      subst hv
      refine hgo [] _ _ _ _ ?_
      refine brf (nI_ge (by omega) (by omega)) ?_
      refine ob_ (vp_in_nI (by omega) (by omega)) ?_
      refine ih (i + 1) _ (upd f i x) _ (by omega) (by omega) (nI_1 i) ?_ (fun j hj => ?_)
      · rw [hM, sA_sA, sA_s, cl_nI (by omega)]
      · by_cases e : j = i
        · rw [e, upd_s]
        · rw [upd_n e]
          exact hf j (by omega)
  refine hgo [5] _ _ _ _ ?_
  exact loop _ 0 _ (M 7 0 2) _ rfl (by omega) rfl sA_id.symm (fun j hj => by omega)
theorem c_fill_8_1 (x : Int32) (M : am_M) : ConP 1 mArr_fill2 [aR 8 0 1, aI x] M (fun r M2 => r = none ∧ ∃ f, M2 = sA M 8 0 1 f ∧ ∀ i, i < 1024 → f i = x) := by
  refine con_of okArr_fill2 [some (aR 8 0 1), some (aI x), none, none] none ?_
  intro J hgo
  have loop : ∀ m i iv f M2, m = 1024 - i → i ≤ 1024 → iv = nI i → M2 = sA M 8 0 1 f → (∀ j, j < i → f j = x) → J 5 [some (aR 8 0 1), some (aI x), some (aI iv), some (aI (nI 1024))] [] M2 := by
    intro m
    induction m with
    | zero =>
      intro i iv f M2 hm hi hv hM hf
      obtain rfl : i = 1024 := by omega
      subst hv
      refine hgo [] _ _ _ _ ?_
      refine brt (nI_le (Nat.le_refl _) (by omega)) ?_
      refine hgo [] _ _ _ _ ?_
      exact ⟨rfl, f, hM, hf⟩
    | succ m ih =>
      intro i iv f M2 hm hi hv hM hf
      subst hv
      refine hgo [] _ _ _ _ ?_
      refine brf (nI_ge (by omega) (by omega)) ?_
      refine ob_ (vp_in_nI (by omega) (by omega)) ?_
      refine ih (i + 1) _ (upd f i x) _ (by omega) (by omega) (nI_1 i) ?_ (fun j hj => ?_)
      · rw [hM, sA_sA, sA_s, cl_nI (by omega)]
      · by_cases e : j = i
        · rw [e, upd_s]
        · rw [upd_n e]
          exact hf j (by omega)
  refine hgo [5] _ _ _ _ ?_
  exact loop _ 0 _ (M 8 0 1) _ rfl (by omega) rfl sA_id.symm (fun j hj => by omega)
theorem c_fill_8_2 (x : Int32) (M : am_M) : ConP 1 mArr_fill2 [aR 8 0 2, aI x] M (fun r M2 => r = none ∧ ∃ f, M2 = sA M 8 0 2 f ∧ ∀ i, i < 1024 → f i = x) := by
  refine con_of okArr_fill2 [some (aR 8 0 2), some (aI x), none, none] none ?_
  intro J hgo
  have loop : ∀ m i iv f M2, m = 1024 - i → i ≤ 1024 → iv = nI i → M2 = sA M 8 0 2 f → (∀ j, j < i → f j = x) → J 5 [some (aR 8 0 2), some (aI x), some (aI iv), some (aI (nI 1024))] [] M2 := by
    intro m
    induction m with
    | zero =>
      intro i iv f M2 hm hi hv hM hf
      obtain rfl : i = 1024 := by omega
      subst hv
      refine hgo [] _ _ _ _ ?_
      refine brt (nI_le (Nat.le_refl _) (by omega)) ?_
      refine hgo [] _ _ _ _ ?_
      exact ⟨rfl, f, hM, hf⟩
    | succ m ih =>
      intro i iv f M2 hm hi hv hM hf
      subst hv
      refine hgo [] _ _ _ _ ?_
      refine brf (nI_ge (by omega) (by omega)) ?_
      refine ob_ (vp_in_nI (by omega) (by omega)) ?_
      refine ih (i + 1) _ (upd f i x) _ (by omega) (by omega) (nI_1 i) ?_ (fun j hj => ?_)
      · rw [hM, sA_sA, sA_s, cl_nI (by omega)]
      · by_cases e : j = i
        · rw [e, upd_s]
        · rw [upd_n e]
          exact hf j (by omega)
  refine hgo [5] _ _ _ _ ?_
  exact loop _ 0 _ (M 8 0 2) _ rfl (by omega) rfl sA_id.symm (fun j hj => by omega)
theorem c_fill_8_3 (x : Int32) (M : am_M) : ConP 1 mArr_fill2 [aR 8 0 3, aI x] M (fun r M2 => r = none ∧ ∃ f, M2 = sA M 8 0 3 f ∧ ∀ i, i < 100 → f i = x) := by
  refine con_of okArr_fill2 [some (aR 8 0 3), some (aI x), none, none] none ?_
  intro J hgo
  have loop : ∀ m i iv f M2, m = 100 - i → i ≤ 100 → iv = nI i → M2 = sA M 8 0 3 f → (∀ j, j < i → f j = x) → J 5 [some (aR 8 0 3), some (aI x), some (aI iv), some (aI (nI 100))] [] M2 := by
    intro m
    induction m with
    | zero =>
      intro i iv f M2 hm hi hv hM hf
      obtain rfl : i = 100 := by omega
      subst hv
      refine hgo [] _ _ _ _ ?_
      refine brt (nI_le (Nat.le_refl _) (by omega)) ?_
      refine hgo [] _ _ _ _ ?_
      exact ⟨rfl, f, hM, hf⟩
    | succ m ih =>
      intro i iv f M2 hm hi hv hM hf
      subst hv
      refine hgo [] _ _ _ _ ?_
      refine brf (nI_ge (by omega) (by omega)) ?_
      refine ob_ (vp_in_nI (by omega) (by omega)) ?_
      refine ih (i + 1) _ (upd f i x) _ (by omega) (by omega) (nI_1 i) ?_ (fun j hj => ?_)
      · rw [hM, sA_sA, sA_s, cl_nI (by omega)]
      · by_cases e : j = i
        · rw [e, upd_s]
        · rw [upd_n e]
          exact hf j (by omega)
  refine hgo [5] _ _ _ _ ?_
  exact loop _ 0 _ (M 8 0 3) _ rfl (by omega) rfl sA_id.symm (fun j hj => by omega)
theorem atB_s {h : Nat → Int32} {s k : Nat} (hl : ly h s k < 10) : bs (atB h s k) ||| bs (fun i => decide (i = ly h s k)) = bs (atB h s (k + 1)) := by
  rw [bs_or]
  apply bs_cong
  intro i hi
  show _ = (atB h s k i || (ly h s k == i))
  congr 1
  by_cases e : i = ly h s k
  · subst e
    simp
  · have e2 : ¬ ly h s k = i := fun q => e q.symm
    simp [e, e2]
theorem HV_sp {h : Nat → Int32} (hv : HV h) {s : Nat} (hs : s < nS h) : h (108 + 10 * s) = nI (wl h s) ∧ wl h s < 8 ∧ h (109 + 10 * s) = nI (dp h s) ∧ 1 ≤ dp h s ∧ dp h s ≤ 8 ∧ ∀ k, k < dp h s → h (110 + 10 * s + k) = nI (ly h s k) ∧ ly h s k < 10 := by
  obtain ⟨⟨-, w8⟩, ⟨-, p10⟩, -, -, -, -, -, hs2⟩ := hv
  obtain ⟨a1, a2, a3, a4, a5, a6⟩ := hs2 s hs
  exact ⟨a1, by omega, a3, a4, a5, fun k hk => ⟨(a6 k hk).1, by have := (a6 k hk).2; omega⟩⟩
theorem c_layer (h : Nat → Int32) (M : am_M) (hv : HV h) (hr : RHs (M 5 0) h) (s k : Nat) (hs : s < nS h) (hk : k < dp h s) : Con 2 mSpots_layer [aR 5 0 0, aI (nI s), aI (nI k)] M (some (aI (nI (ly h s k)))) M := by
  obtain ⟨a1, a2, a3, a4, a5, a6⟩ := HV_sp hv hs
  obtain ⟨r1, r2, r3⟩ := hr.2 s hs
  have e : M 5 0 3 (8 * s + k) = nI (ly h s k) := by rw [r3 k hk, (a6 k hk).1]
  rw [← e]
  exact c_Spots_layer 0 (nS h) s k (dp h s) M (by rw [hr.1, hv.2.2.2.1.1]) hv.2.2.2.1.2 hs (by rw [r2, a3]) a5 hk
theorem c_Facts_at (h : Nat → Int32) (M : am_M) (hv : HV h) (hr : RHs (M 5 0) h) (s : Nat) (hs : s < nS h) : Con 3 mFacts_at [aR 7 0 0, aI (nI s)] M (some (aI (bs (atB h s (dp h s))))) M := by
  obtain ⟨a1, a2, a3, a4, a5, a6⟩ := HV_sp hv hs
  obtain ⟨r1, r2, r3⟩ := hr.2 s hs
  have s9 := hv.2.2.2.1.2
  have hsc : (nI s).toNatClampNeg = s := cl_nI (by omega)
  have ed : M 5 0 2 (nI s).toNatClampNeg = nI (dp h s) := by rw [hsc, r2, a3]
  refine con_of okFacts_at [some (aR 7 0 0), some (aI (nI s)), none, none] (some .int) ?_
  intro J hgo
  have loop : ∀ m k kv x, m = dp h s - k → k ≤ dp h s → kv = nI k → x = bs (atB h s k) → J 4 [some (aR 7 0 0), some (aI (nI s)), some (aI x), some (aI kv)] [] M := by
    intro m
    induction m with
    | zero =>
      intro k kv x hm hk hv2 hx
      have hk : k = dp h s := by omega
      subst hv2
      refine hgo [] _ _ _ _ ?_
      refine ob_ (vp_in_nI (by omega) (by omega)) ?_
      refine brt (by rw [ed, hk]; exact nI_le (Nat.le_refl _) (by omega)) ?_
      refine hgo [] _ _ _ _ ?_
      exact ⟨by rw [hx, hk], rfl⟩
    | succ m ih =>
      intro k kv x hm hk hv2 hx
      subst hv2
      refine hgo [] _ _ _ _ ?_
      refine ob_ (vp_in_nI (by omega) (by omega)) ?_
      refine brf (by rw [ed]; exact nI_ge (by omega) (by omega)) ?_
      refine cl_ (c_layer h M hv hr s k hs (by omega)) ?_
      refine ih (k + 1) _ _ (by omega) (by omega) (nI_1 k) ?_
      have hl := (a6 k (by omega)).2
      rw [hx, bs_one hl, atB_s hl]
  refine hgo [4] _ _ _ _ ?_
  exact loop _ 0 _ _ rfl (by omega) rfl (by rw [← bs_0]; rfl)
