/-! fill; gather -/
theorem c_fill_7_1 (x : Int32) (M : am_M) : ConP 1 mArr_fill2 [aR 7 0 1, aI x] M (fun r M2 => r = none ∧ ∃ f, M2 = sA M 7 0 1 f ∧ ∀ i, i < 8 → f i = x) := by
  refine con_of okArr_fill2 [some (aR 7 0 1), some (aI x), none, none] none ?_
  intro J hgo
  have loop : ∀ m i iv f M2, m = 8 - i → i ≤ 8 → iv = nI i → M2 = sA M 7 0 1 f → (∀ j, j < i → f j = x) → J 5 [some (aR 7 0 1), some (aI x), some (aI iv), some (aI (nI 8))] [] M2 := by
    intro m
    induction m with
    | zero =>
      intro i iv f M2 hm hi hv hM hf
      obtain rfl : i = 8 := by omega
      subst hv
      refine hgo [] _ _ _ _ ?_
      refine brt (nI_le (Nat.le_refl _) (by omega)) ?_
      refine hgo [] _ _ _ _ ?_
      exact ⟨rfl, f, hM, hf⟩
    | succ m ih =>
      intro i iv f M2 hm hi hv hM hf
      subst hv
      refine hgo [] _ _ _ _ ?_
      refine brf (nI_ge (by omega) (by omega)) ?_
      refine ob_ (vp_in_nI (by omega) (by omega)) ?_
      refine ih (i + 1) _ (upd f i x) _ (by omega) (by omega) (nI_1 i) ?_ (fun j hj => ?_)
      · rw [hM, sA_sA, sA_s, cl_nI (by omega)]
      · by_cases e : j = i
        · rw [e, upd_s]
        · rw [upd_n e]
          exact hf j (by omega)
  refine hgo [5] _ _ _ _ ?_
  exact loop _ 0 _ (M 7 0 1) _ rfl (by omega) rfl sA_id.symm (fun j hj => by omega)
theorem c_fill_7_2 (x : Int32) (M : am_M) : ConP 1 mArr_fill2 [aR 7 0 2, aI x] M (fun r M2 => r = none ∧ ∃ f, M2 = sA M 7 0 2 f ∧ ∀ i, i < 10 → f i = x) := by
  refine con_of okArr_fill2 [some (aR 7 0 2), some (aI x), none, none] none ?_
  intro J hgo
  have loop : ∀ m i iv f M2, m = 10 - i → i ≤ 10 → iv = nI i → M2 = sA M 7 0 2 f → (∀ j, j < i → f j = x) → J 5 [some (aR 7 0 2), some (aI x), some (aI iv), some (aI (nI 10))] [] M2 := by
    intro m
    induction m with
    | zero =>
      intro i iv f M2 hm hi hv hM hf
      obtain rfl : i = 10 := by omega
      subst hv
      refine hgo [] _ _ _ _ ?_
      refine brt (nI_le (Nat.le_refl _) (by omega)) ?_
      refine hgo [] _ _ _ _ ?_
      exact ⟨rfl, f, hM, hf⟩
    | succ m ih =>
      intro i iv f M2 hm hi hv hM hf
      subst hv
      refine hgo [] _ _ _ _ ?_
      refine brf (nI_ge (by omega) (by omega)) ?_
      refine ob_ (vp_in_nI (by omega) (by omega)) ?_
      refine ih (i + 1) _ (upd f i x) _ (by omega) (by omega) (nI_1 i) ?_ (fun j hj => ?_)
      · rw [hM, sA_sA, sA_s, cl_nI (by omega)]
      · by_cases e : j = i
        · rw [e, upd_s]
        · rw [upd_n e]
          exact hf j (by omega)
  refine hgo [5] _ _ _ _ ?_
  exact loop _ 0 _ (M 7 0 2) _ rfl (by omega) rfl sA_id.symm (fun j hj => by omega)
theorem c_fill_8_1 (x : Int32) (M : am_M) : ConP 1 mArr_fill2 [aR 8 0 1, aI x] M (fun r M2 => r = none ∧ ∃ f, M2 = sA M 8 0 1 f ∧ ∀ i, i < 1024 → f i = x) := by
  refine con_of okArr_fill2 [some (aR 8 0 1), some (aI x), none, none] none ?_
  intro J hgo
  have loop : ∀ m i iv f M2, m = 1024 - i → i ≤ 1024 → iv = nI i → M2 = sA M 8 0 1 f → (∀ j, j < i → f j = x) → J 5 [some (aR 8 0 1), some (aI x), some (aI iv), some (aI (nI 1024))] [] M2 := by
    intro m
    induction m with
    | zero =>
      intro i iv f M2 hm hi hv hM hf
      obtain rfl : i = 1024 := by omega
      subst hv
      refine hgo [] _ _ _ _ ?_
      refine brt (nI_le (Nat.le_refl _) (by omega)) ?_
      refine hgo [] _ _ _ _ ?_
      exact ⟨rfl, f, hM, hf⟩
    | succ m ih =>
      intro i iv f M2 hm hi hv hM hf
      subst hv
      refine hgo [] _ _ _ _ ?_
      refine brf (nI_ge (by omega) (by omega)) ?_
      refine ob_ (vp_in_nI (by omega) (by omega)) ?_
      refine ih (i + 1) _ (upd f i x) _ (by omega) (by omega) (nI_1 i) ?_ (fun j hj => ?_)
      · rw [hM, sA_sA, sA_s, cl_nI (by omega)]
      · by_cases e : j = i
        · rw [e, upd_s]
        · rw [upd_n e]
          exact hf j (by omega)
  refine hgo [5] _ _ _ _ ?_
  exact loop _ 0 _ (M 8 0 1) _ rfl (by omega) rfl sA_id.symm (fun j hj => by omega)
theorem c_fill_8_2 (x : Int32) (M : am_M) : ConP 1 mArr_fill2 [aR 8 0 2, aI x] M (fun r M2 => r = none ∧ ∃ f, M2 = sA M 8 0 2 f ∧ ∀ i, i < 1024 → f i = x) := by
  refine con_of okArr_fill2 [some (aR 8 0 2), some (aI x), none, none] none ?_
  intro J hgo
  have loop : ∀ m i iv f M2, m = 1024 - i → i ≤ 1024 → iv = nI i → M2 = sA M 8 0 2 f → (∀ j, j < i → f j = x) → J 5 [some (aR 8 0 2), some (aI x), some (aI iv), some (aI (nI 1024))] [] M2 := by
    intro m
    induction m with
    | zero =>
      intro i iv f M2 hm hi hv hM hf
      obtain rfl : i = 1024 := by omega
      subst hv
      refine hgo [] _ _ _ _ ?_
      refine brt (nI_le (Nat.le_refl _) (by omega)) ?_
      refine hgo [] _ _ _ _ ?_
      exact ⟨rfl, f, hM, hf⟩
    | succ m ih =>
      intro i iv f M2 hm hi hv hM hf
      subst hv
      refine hgo [] _ _ _ _ ?_
      refine brf (nI_ge (by omega) (by omega)) ?_
      refine ob_ (vp_in_nI (by omega) (by omega)) ?_
      refine ih (i + 1) _ (upd f i x) _ (by omega) (by omega) (nI_1 i) ?_ (fun j hj => ?_)
      · rw [hM, sA_sA, sA_s, cl_nI (by omega)]
      · by_cases e : j = i
        · rw [e, upd_s]
        · rw [upd_n e]
          exact hf j (by omega)
  refine hgo [5] _ _ _ _ ?_
  exact loop _ 0 _ (M 8 0 2) _ rfl (by omega) rfl sA_id.symm (fun j hj => by omega)
theorem c_fill_8_3 (x : Int32) (M : am_M) : ConP 1 mArr_fill2 [aR 8 0 3, aI x] M (fun r M2 => r = none ∧ ∃ f, M2 = sA M 8 0 3 f ∧ ∀ i, i < 100 → f i = x) := by
  refine con_of okArr_fill2 [some (aR 8 0 3), some (aI x), none, none] none ?_
  intro J hgo
  have loop : ∀ m i iv f M2, m = 100 - i → i ≤ 100 → iv = nI i → M2 = sA M 8 0 3 f → (∀ j, j < i → f j = x) → J 5 [some (aR 8 0 3), some (aI x), some (aI iv), some (aI (nI 100))] [] M2 := by
    intro m
    induction m with
    | zero =>
      intro i iv f M2 hm hi hv hM hf
      obtain rfl : i = 100 := by omega
      subst hv
      refine hgo [] _ _ _ _ ?_
      refine brt (nI_le (Nat.le_refl _) (by omega)) ?_
      refine hgo [] _ _ _ _ ?_
      exact ⟨rfl, f, hM, hf⟩
    | succ m ih =>
      intro i iv f M2 hm hi hv hM hf
      subst hv
      refine hgo [] _ _ _ _ ?_
      refine brf (nI_ge (by omega) (by omega)) ?_
      refine ob_ (vp_in_nI (by omega) (by omega)) ?_
      refine ih (i + 1) _ (upd f i x) _ (by omega) (by omega) (nI_1 i) ?_ (fun j hj => ?_)
      · rw [hM, sA_sA, sA_s, cl_nI (by omega)]
      · by_cases e : j = i
        · rw [e, upd_s]
        · rw [upd_n e]
          exact hf j (by omega)
  refine hgo [5] _ _ _ _ ?_
  exact loop _ 0 _ (M 8 0 3) _ rfl (by omega) rfl sA_id.symm (fun j hj => by omega)
theorem atB_s {h : Nat → Int32} {s k : Nat} (hl : ly h s k < 10) : bs (atB h s k) ||| bs (fun i => decide (i = ly h s k)) = bs (atB h s (k + 1)) := by
  rw [bs_or]
  apply bs_cong
  intro i hi
  show _ = (atB h s k i || (ly h s k == i))
  congr 1
  by_cases e : i = ly h s k
  · subst e
    simp
  · have e2 : ¬ ly h s k = i := fun q => e q.symm
    simp [e, e2]
theorem HV_sp {h : Nat → Int32} (hv : HV h) {s : Nat} (hs : s < nS h) : h (108 + 10 * s) = nI (wl h s) ∧ wl h s < 8 ∧ h (109 + 10 * s) = nI (dp h s) ∧ 1 ≤ dp h s ∧ dp h s ≤ 8 ∧ ∀ k, k < dp h s → h (110 + 10 * s + k) = nI (ly h s k) ∧ ly h s k < 10 := by
  obtain ⟨⟨-, w8⟩, ⟨-, p10⟩, -, -, -, -, -, hs2⟩ := hv
  obtain ⟨a1, a2, a3, a4, a5, a6⟩ := hs2 s hs
  exact ⟨a1, by omega, a3, a4, a5, fun k hk => ⟨(a6 k hk).1, by have := (a6 k hk).2; omega⟩⟩
theorem c_layer (h : Nat → Int32) (M : am_M) (hv : HV h) (hr : RHs (M 5 0) h) (s k : Nat) (hs : s < nS h) (hk : k < dp h s) : Con 2 mSpots_layer [aR 5 0 0, aI (nI s), aI (nI k)] M (some (aI (nI (ly h s k)))) M := by
  obtain ⟨a1, a2, a3, a4, a5, a6⟩ := HV_sp hv hs
  obtain ⟨r1, r2, r3⟩ := hr.2 s hs
  have e : M 5 0 3 (8 * s + k) = nI (ly h s k) := by rw [r3 k hk, (a6 k hk).1]
  rw [← e]
  exact c_Spots_layer 0 (nS h) s k (dp h s) M (by rw [hr.1, hv.2.2.2.1.1]) hv.2.2.2.1.2 hs (by rw [r2, a3]) a5 hk
theorem HV_sq {h : Nat → Int32} (hv : HV h) {s : Nat} (hs : s < nS h) : wl h s < nW h ∧ ∀ k, k < dp h s → ly h s k < nP h := ⟨(hv.2.2.2.2.2.2.2 s hs).2.1, fun k hk => ((hv.2.2.2.2.2.2.2 s hs).2.2.2.2.2 k hk).2⟩
theorem c_layer_out (h : Nat → Int32) (M : am_M) (hv : HV h) (hr : RHs (M 5 0) h) (s k : Nat) (hs : s < nS h) (hk : dp h s ≤ k) (hk8 : k < 1000) : Con 2 mSpots_layer [aR 5 0 0, aI (nI s), aI (nI k)] M (some (aI (-1000000))) M := by
  obtain ⟨a1, a2, a3, a4, a5, a6⟩ := HV_sp hv hs
  obtain ⟨r1, r2, r3⟩ := hr.2 s hs
  exact c_Spots_layer_out 0 (nS h) s (dp h s) (nI k) M (by rw [hr.1, hv.2.2.2.1.1]) hv.2.2.2.1.2 hs (by rw [r2, a3]) a5 (by rw [i3_n (by omega)]; omega)
theorem c_layer_any (h : Nat → Int32) (M : am_M) (hv : HV h) (hr : RHs (M 5 0) h) (s k : Nat) (hs : s < nS h) (hk8 : k < 1000) : ∃ x, Con 2 mSpots_layer [aR 5 0 0, aI (nI s), aI (nI k)] M (some (aI x)) M := by
  by_cases hk : k < dp h s
  · exact ⟨_, c_layer h M hv hr s k hs hk⟩
  · exact ⟨_, c_layer_out h M hv hr s k hs (by omega) hk8⟩
theorem c_wall (h : Nat → Int32) (M : am_M) (hv : HV h) (hr : RHs (M 5 0) h) (s : Nat) (hs : s < nS h) : Con 2 mSpots_wall [aR 5 0 0, aI (nI s)] M (some (aI (nI (wl h s)))) M := by
  obtain ⟨a1, a2, a3, a4, a5, a6⟩ := HV_sp hv hs
  obtain ⟨r1, r2, r3⟩ := hr.2 s hs
  have e : M 5 0 1 s = nI (wl h s) := by rw [r1, a1]
  rw [← e]
  exact c_Spots_wall 0 (nS h) s M (by rw [hr.1, hv.2.2.2.1.1]) hv.2.2.2.1.2 hs
theorem c_isPap (h : Nat → Int32) (M : am_M) (hv : HV h) (hp : RHp (M 4 0) h) (x : Int32) : Con 1 mHouse_isPaper [aR 4 0 0, aI x] M (some (aI (b2i (0 ≤ x.toInt ∧ x.toInt < nP h)))) M :=
  c_House_isPaper (nP h) 0 x M (by rw [hp.1, hv.2.1.1]) (by have := hv.2.1.2; omega)
theorem c_isWal (h : Nat → Int32) (M : am_M) (hv : HV h) (hw : RHw (M 4 0) h) (x : Int32) : Con 1 mHouse_isWall [aR 4 0 0, aI x] M (some (aI (b2i (0 ≤ x.toInt ∧ x.toInt < nW h)))) M :=
  c_House_isWall (nW h) 0 x M (by rw [hw.1, hv.1.1]) (by have := hv.1.2; omega)
theorem nI_bd {a n : Nat} (h : a < n) (h2 : n < 1000) : 0 ≤ (nI a).toInt ∧ (nI a).toInt < n := by
  rw [i3_n (by omega)]
  omega
theorem no_in {n : Nat} : ¬ (0 ≤ (-1000000 : Int32).toInt ∧ (-1000000 : Int32).toInt < n) := fun q => absurd q.1 (by decide)
theorem c_Facts_at (h : Nat → Int32) (M : am_M) (hv : HV h) (hp : RHp (M 4 0) h) (hr : RHs (M 5 0) h) (s : Nat) (hs : s < nS h) : Con 3 mFacts_at [aR 7 0 0, aI (nI s)] M (some (aI (bs (atB h s (dp h s))))) M := by
  obtain ⟨a1, a2, a3, a4, a5, a6⟩ := HV_sp hv hs
  have q6 := (HV_sq hv hs).2
  have p10 := hv.2.1.2
  have s9 := hv.2.2.2.1.2
  refine con_of okFacts_at [some (aR 7 0 0), some (aI (nI s)), none, none, none] (some .int) ?_
  intro J hgo
  have loop : ∀ m k kv x (z : Option am_V), m = 8 - k → k ≤ 8 → kv = nI k → x = bs (atB h s (min k (dp h s))) → J 4 [some (aR 7 0 0), some (aI (nI s)), some (aI x), some (aI kv), z] [] M := by
    intro m
    induction m with
    | zero =>
      intro k kv x z hm hk hv2 hx
      obtain rfl : k = 8 := by omega
      subst hv2
      refine hgo [] _ _ _ _ ?_
      refine brt (by decide) ?_
      refine hgo [] _ _ _ _ ?_
      exact ⟨by rw [hx, show min 8 (dp h s) = dp h s by omega], rfl⟩
    | succ m ih =>
      intro k kv x z hm hk hv2 hx
      subst hv2
      refine hgo [] _ _ _ _ ?_
      refine brf (show ¬ nI 8 ≤ nI k from nI_ge (by omega) (by omega)) ?_
      by_cases hd : k < dp h s
      · have hl := (a6 k hd).2
        refine cl_ (c_layer h M hv hr s k hs hd) ?_
        refine cl_ (c_isPap h M hv hp _) ?_
        refine brbt (nI_bd (q6 k hd) (by omega)) ?_
        refine ih (k + 1) _ _ _ (by omega) (by omega) (nI_1 k) ?_
        rw [hx, show min k (dp h s) = k by omega, show min (k + 1) (dp h s) = k + 1 by omega, bs_one hl, atB_s hl]
      · refine cl_ (c_layer_out h M hv hr s k hs (by omega) (by omega)) ?_
        refine cl_ (c_isPap h M hv hp _) ?_
        refine brbf no_in ?_
        refine hgo [] _ _ _ _ ?_
        refine ih (k + 1) _ _ _ (by omega) (by omega) (nI_1 k) ?_
        rw [hx, show min k (dp h s) = dp h s by omega, show min (k + 1) (dp h s) = dp h s by omega]
  refine hgo [4] _ _ _ _ ?_
  exact loop _ 0 _ _ _ rfl (by omega) rfl (by rw [Nat.zero_min, ← bs_0]; rfl)
theorem c_putAhead_in (h : Nat → Int32) (M : am_M) (hv : HV h) (hp : RHp (M 4 0) h) (a b : Nat) (ha : a < nP h) (hb : b < nP h) : Con 2 mFacts_putAhead [aR 7 0 0, aI (nI a), aI (nI b)] M none (sA M 7 0 2 (upd (M 7 0 2) b (M 7 0 2 b ||| bs (fun i => decide (i = a))))) := by
  have p10 := hv.2.1.2
  have a10 : a < 10 := by omega
  refine con_of okFacts_putAhead [some (aR 7 0 0), some (aI (nI a)), some (aI (nI b))] none ?_
  intro J hgo
  refine hgo [] _ _ _ _ ?_
  refine cl_ (c_isPap h M hv hp _) ?_
  refine brbt (nI_bd ha (by omega)) ?_
  refine cl_ (c_isPap h M hv hp _) ?_
  refine brbt (nI_bd hb (by omega)) ?_
  refine ob_ (vp_in_nI (by omega) (by omega)) ?_
  refine ob_ (vp_in_nI (by omega) (by omega)) ?_
  refine ⟨rfl, ?_⟩
  rw [cl_nI (show b < 1000000 by omega), bs_one a10]
theorem c_putAhead_out (h : Nat → Int32) (M : am_M) (hv : HV h) (hp : RHp (M 4 0) h) (x : Int32) : Con 2 mFacts_putAhead [aR 7 0 0, aI x, aI (-1000000)] M none M := by
  refine con_of okFacts_putAhead [some (aR 7 0 0), some (aI x), some (aI (-1000000))] none ?_
  intro J hgo
  refine hgo [] _ _ _ _ ?_
  refine cl_ (c_isPap h M hv hp _) ?_
  refine brb (fun _ => ?_) (fun _ => ?_)
  · refine hgo [] _ _ _ _ ?_
    exact ⟨rfl, rfl⟩
  · refine cl_ (c_isPap h M hv hp _) ?_
    refine brbf no_in ?_
    refine hgo [] _ _ _ _ ?_
    exact ⟨rfl, rfl⟩
