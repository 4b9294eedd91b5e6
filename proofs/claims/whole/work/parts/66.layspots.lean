/-! the reference's facts -/
theorem atX {h : Nat → Int32} {X : Nat → Bool} {s k : Nat} : bs (fun p => X p || atB h s k p) ||| bs (fun i => decide (i = ly h s k)) = bs (fun p => X p || atB h s (k + 1) p) := by
  rw [bs_or]
  apply bs_cong
  intro q hq
  show (X q || atB h s k q || decide (q = ly h s k)) = (X q || (atB h s k q || (ly h s k == q)))
  by_cases e : q = ly h s k
  · subst e
    simp
  · have e2 : (ly h s k == q) = false := beq_eq_false_iff_ne.mpr (fun x => e x.symm)
    rw [e2]
    simp [e]
theorem c_lies (h : Nat → Int32) (M : am_M) (hv : HV h) (hM : M 11 0 4 = h) (s k : Nat) (hs : s < nS h) (hk : k < dp h s) : Con 1 mRef_lies [aR 11 0 0, aI (nI s), aI (nI k)] M (some (aI (nI (ly h s k)))) M := by
  obtain ⟨a1, a2, a3, a4, a5, a6⟩ := HV_sp hv hs
  have s9 := hv.2.2.2.1.2
  rw [← (a6 k hk).1, ← hM]
  exact c_Ref_lies s k M (by omega) (by omega)
theorem c_wallOf (h : Nat → Int32) (M : am_M) (hv : HV h) (hM : M 11 0 4 = h) (s : Nat) (hs : s < nS h) : Con 1 mRef_wallOf [aR 11 0 0, aI (nI s)] M (some (aI (nI (wl h s)))) M := by
  obtain ⟨a1, a2, a3, a4, a5, a6⟩ := HV_sp hv hs
  have s9 := hv.2.2.2.1.2
  rw [← a1, ← hM]
  exact c_Ref_wallOf s M (by omega)
theorem c_manyAt (h : Nat → Int32) (M : am_M) (hv : HV h) (hM : M 11 0 4 = h) (s : Nat) (hs : s < nS h) : Con 1 mRef_manyAt [aR 11 0 0, aI (nI s)] M (some (aI (nI (dp h s)))) M := by
  obtain ⟨a1, a2, a3, a4, a5, a6⟩ := HV_sp hv hs
  have s9 := hv.2.2.2.1.2
  rw [← a3, ← hM]
  exact c_Ref_manyAt s M (by omega)
def KL (M2 M : am_M) : Prop := (∀ k, k ≠ 11 → M2 k = M k) ∧ (∀ o, o ≠ 0 → o ≠ 7 → o ≠ 8 → M2 11 0 o = M 11 0 o) ∧ ∀ i, i ≠ 18 → M2 11 0 0 i = M 11 0 0 i
theorem KL.s7 {M2 M : am_M} {f : Nat → Int32} (h : KL M2 M) : KL (sA M2 11 0 7 f) M := ⟨fun k hk => (sA_k hk).trans (h.1 k hk), fun o h0 h7 h8 => (sA_o h7).trans (h.2.1 o h0 h7 h8), fun i hi => h.2.2 i hi⟩
theorem KL.s8 {M2 M : am_M} {f : Nat → Int32} (h : KL M2 M) : KL (sA M2 11 0 8 f) M := ⟨fun k hk => (sA_k hk).trans (h.1 k hk), fun o h0 h7 h8 => (sA_o h8).trans (h.2.1 o h0 h7 h8), fun i hi => h.2.2 i hi⟩
theorem KL.s0 {M2 M : am_M} {x : Int32} (h : KL M2 M) : KL (sA M2 11 0 0 (upd (M2 11 0 0) 18 x)) M := ⟨fun k hk => (sA_k hk).trans (h.1 k hk), fun o h0 h7 h8 => (sA_o h0).trans (h.2.1 o h0 h7 h8), fun i hi => (show upd (M2 11 0 0) 18 x i = _ from (upd_n hi).trans (h.2.2 i hi))⟩
def onK (h : Nat → Int32) (s k w p : Nat) : Bool := onB h s w p || ((wl h s == w) && atB h s k p)
theorem onK_s {h : Nat → Int32} {s k : Nat} : bs (onK h s k (wl h s)) ||| bs (fun i => decide (i = ly h s k)) = bs (onK h s (k + 1) (wl h s)) := by
  have e : ∀ k, onK h s k (wl h s) = fun p => onB h s (wl h s) p || atB h s k p := by
    intro k
    funext p
    unfold onK
    simp
  rw [e, e, atX]
theorem onK_n {h : Nat → Int32} {s k w : Nat} (hw : w ≠ wl h s) : onK h s k w = onK h s (k + 1) w := by
  funext p
  unfold onK
  have : (wl h s == w) = false := beq_eq_false_iff_ne.mpr (fun e => hw e.symm)
  simp [this]
theorem onK_0 {h : Nat → Int32} {s w : Nat} : onK h s 0 w = onB h s w := by
  funext p
  unfold onK
  show (onB h s w p || ((wl h s == w) && false)) = _
  simp
theorem seK_0 {h : Nat → Int32} {s : Nat} : (fun p => seB h s p || atB h s 0 p) = seB h s := by
  funext p
  show (seB h s p || false) = _
  simp
theorem c_Ref_laySpots (h : Nat → Int32) (M : am_M) (hv : HV h) (hM : M 11 0 4 = h) : ConP 3 mRef_laySpots [aR 11 0 0] M (fun r M2 => r = none ∧ (∀ k, k ≠ 11 → M2 k = M k) ∧ (∀ o, o ≠ 0 → o ≠ 7 → o ≠ 8 → o ≠ 9 → M2 11 0 o = M 11 0 o) ∧ (∀ i, i ≠ 18 → M2 11 0 0 i = M 11 0 0 i) ∧ FR (M2 11 0 0 18) (M2 11 0 7) (M2 11 0 8) (M2 11 0 9) h) := by
  have s9 := hv.2.2.2.1.2
  refine con_of okRef_laySpots [some (aR 11 0 0), none, none] none ?_
  intro J hgo
  have outer : ∀ m s sv (z2 : Option am_V) M2, m = nS h - s → s ≤ nS h → sv = nI s → KL M2 M → M2 11 0 0 18 = bs (seB h s) → (∀ w, w < 8 → M2 11 0 7 w = bs (onB h s w)) → (∀ p, p < 10 → M2 11 0 8 p = bs (ahB h s p)) → J 38 [some (aR 11 0 0), some (aI sv), z2] [] M2 := by
    intro m
    induction m with
    | zero =>
      intro s sv z2 M2 hm hs hv2 hK h1 h2 h3
      have hs : s = nS h := by omega
      subst hv2
      have h4 : M2 11 0 4 = h := (hK.2.1 4 (by decide) (by decide) (by decide)).trans hM
      rw [hs] at h1 h2 h3
      refine hgo [] _ _ _ _ ?_
      refine ob_ (vp_in_nI (n := 3) (N := 198) (by omega) (by omega)) ?_
      refine brt (by show M2 11 0 4 3 ≤ nI s; rw [h4, hv.2.2.2.1.1, hs]; exact nI_le (Nat.le_refl _) (by omega)) ?_
      refine hgo [] _ _ _ _ ?_
      refine clp (c_Ref_laySure (Ah h) M2 h3) ?_
      rintro r M3 ⟨rfl, k3, s3⟩
      refine ⟨rfl, fun k hk => (k3.1 k hk).trans (hK.1 k hk), fun o g0 g7 g8 g9 => (k3.2 o g9).trans (hK.2.1 o g0 g7 g8), fun i hi => ?_, ?_, fun w hw => ?_, fun p hp => ?_, s3⟩
      · rw [k3.2 0 (by decide)]
        exact hK.2.2 i hi
      · rw [k3.2 0 (by decide)]
        exact h1
      · rw [k3.2 7 (by decide)]
        exact h2 w hw
      · rw [k3.2 8 (by decide)]
        exact h3 p hp
    | succ m ih =>
      intro s sv z2 M2 hm hs hv2 hK h1 h2 h3
      subst hv2
      have hlt : s < nS h := by omega
      obtain ⟨a1, a2, a3, a4, a5, a6⟩ := HV_sp hv hlt
      have inner : ∀ m k kv M2, m = dp h s - k → k ≤ dp h s → kv = nI k → KL M2 M → M2 11 0 0 18 = bs (fun p => seB h s p || atB h s k p) → (∀ w, w < 8 → M2 11 0 7 w = bs (onK h s k w)) → (∀ p, p < 10 → M2 11 0 8 p = bs (aj h s (k - 1) p)) → J 50 [some (aR 11 0 0), some (aI (nI s)), some (aI kv)] [] M2 := by
        intro m
        induction m with
        | zero =>
          intro k kv M2 hm hk hv2 hK h1 h2 h3
          have hk : k = dp h s := by omega
          subst hv2
          have h4 : M2 11 0 4 = h := (hK.2.1 4 (by decide) (by decide) (by decide)).trans hM
          refine hgo [] _ _ _ _ ?_
          refine cl_ (c_manyAt h M2 hv h4 s hlt) ?_
          refine brt (by rw [hk]; exact nI_le (Nat.le_refl _) (by omega)) ?_
          refine hgo [] _ _ _ _ ?_
          rw [hk] at h1 h2 h3
          exact ih (s + 1) _ _ M2 (by omega) (by omega) (nI_1 s) hK h1 h2 h3
        | succ m ih2 =>
          intro k kv M2 hm hk hv2 hK h1 h2 h3
          subst hv2
          have h4 : M2 11 0 4 = h := (hK.2.1 4 (by decide) (by decide) (by decide)).trans hM
          have lk := (a6 k (by omega)).2
          have wc : (nI (wl h s)).toNatClampNeg = wl h s := cl_nI (by omega)
          have nx : ∀ M2, KL M2 M → M2 11 0 0 18 = bs (fun p => seB h s p || atB h s (k + 1) p) → (∀ w, w < 8 → M2 11 0 7 w = bs (onK h s (k + 1) w)) → (∀ p, p < 10 → M2 11 0 8 p = bs (aj h s k p)) → J 125 [some (aR 11 0 0), some (aI (nI s)), some (aI (nI k))] [] M2 := by
            intro M2 hK h1 h2 h3
            refine hgo [] _ _ _ _ ?_
            exact ih2 (k + 1) _ M2 (by omega) (by omega) (nI_1 k) hK h1 h2 h3
          have e7 : ∀ w, w < 8 → upd (M2 11 0 7) (nI (wl h s)).toNatClampNeg (M2 11 0 7 (nI (wl h s)).toNatClampNeg ||| (1 : Int32) <<< (nI (ly h s k) &&& 31)) w = bs (onK h s (k + 1) w) := by
            intro w hw
            rw [wc, h2 _ a2, bs_one lk, onK_s]
            by_cases e : w = wl h s
            · rw [e, upd_s]
            · rw [upd_n e, h2 w hw, onK_n e]
          have e18 : M2 11 0 0 18 ||| (1 : Int32) <<< (nI (ly h s k) &&& 31) = bs (fun p => seB h s p || atB h s (k + 1) p) := by
            rw [h1, bs_one lk, atX]
          refine hgo [125] _ _ _ _ ?_
          refine cl_ (c_manyAt h M2 hv h4 s hlt) ?_
          refine brf (nI_ge (by omega) (by omega)) ?_
          refine cl_ (c_lies h _ hv (by exact h4) s k hlt (by omega)) ?_
          refine cl_ (c_wallOf h _ hv (by exact h4) s hlt) ?_
          refine ob_ (vp_in_nI (by omega) (by omega)) ?_
          refine cl_ (c_lies h _ hv (by exact h4) s k hlt (by omega)) ?_
          refine ob_ (vp_in_nI (by omega) (by omega)) ?_
          by_cases k0 : k = 0
          · subst k0
            refine brt (by decide) ?_
            exact nx _ hK.s0.s7 e18 e7 h3
          · obtain ⟨j, rfl⟩ : ∃ j, k = j + 1 := ⟨k - 1, by omega⟩
            have lj := (a6 j (by omega)).2
            have lc : (nI (ly h s (j + 1))).toNatClampNeg = ly h s (j + 1) := cl_nI (by omega)
            refine brf (nI_ge (a := 0) (b := j + 1) (by omega) (by omega)) ?_
            refine cl_ (c_lies h _ hv (by exact h4) s (j + 1) hlt (by omega)) ?_
            refine ob_ (vp_in_nI (by omega) (by omega)) ?_
            refine cle (c_lies h _ hv (by exact h4) s j hlt (by omega)) (by rw [show nI (j + 1) - 1 = nI j from pk_sub (a := j + 1) (b := 1) (by omega)]) rfl ?_
            refine ob_ (vp_in_nI (by omega) (by omega)) ?_
            refine nx _ hK.s0.s7.s8 e18 e7 (fun p hp => ?_)
            show upd (M2 11 0 8) (nI (ly h s (j + 1))).toNatClampNeg (M2 11 0 8 (nI (ly h s (j + 1))).toNatClampNeg ||| (1 : Int32) <<< (nI (ly h s j) &&& 31)) p = _
            have h3 : ∀ p, p < 10 → M2 11 0 8 p = bs (aj h s j p) := h3
            rw [lc, h3 _ lk, bs_one lj, sAh]
            by_cases e : p = ly h s (j + 1)
            · rw [e, upd_s]
            · rw [upd_n e, h3 p hp, sAh2 e]
      have h4 : M2 11 0 4 = h := (hK.2.1 4 (by decide) (by decide) (by decide)).trans hM
      refine hgo [50] _ _ _ _ ?_
      refine ob_ (vp_in_nI (n := 3) (N := 198) (by omega) (by omega)) ?_
      refine brf (by show ¬ M2 11 0 4 3 ≤ nI s; rw [h4, hv.2.2.2.1.1]; exact nI_ge hlt (by omega)) ?_
      refine inner _ 0 _ M2 rfl (by omega) rfl hK (by rw [h1, seK_0]) (fun w hw => by rw [h2 w hw, onK_0]) (fun p hp => ?_)
      rw [h3 p hp, show 0 - 1 = 0 from rfl, aj_0]
  have clr : ∀ m c cv M2, m = 10 - c → c ≤ 10 → cv = nI c → KL M2 M → M2 11 0 0 18 = 0 → (∀ w, w < 8 → w < c → M2 11 0 7 w = 0) → (∀ p, p < c → M2 11 0 8 p = 0) → J 7 [some (aR 11 0 0), some (aI cv), none] [] M2 := by
    intro m
    induction m with
    | zero =>
      intro c cv M2 hm hc hv2 hK h1 h2 h3
      obtain rfl : c = 10 := by omega
      subst hv2
      refine hgo [] _ _ _ _ ?_
      refine brt (by decide) ?_
      refine hgo [38] _ _ _ _ ?_
      refine outer _ 0 _ _ M2 rfl (by omega) rfl hK (by rw [h1, ← bs_0]; rfl) (fun w hw => by rw [h2 w hw (by omega), ← bs_0]; rfl) (fun p hp => by rw [h3 p hp, ← bs_0]; rfl)
    | succ m ih =>
      intro c cv M2 hm hc hv2 hK h1 h2 h3
      subst hv2
      have hc10 : c < 10 := by omega
      have hcc : (nI c).toNatClampNeg = c := cl_nI (by omega)
      have er : nI c - nI c / 8 * 8 = nI (c % 8) := rem_nI (r := 8) (by omega) (by omega) (by omega)
      have rc : (nI (c % 8)).toNatClampNeg = c % 8 := cl_nI (by omega)
      have hm8 : c % 8 < 8 := Nat.mod_lt _ (by omega)
      refine hgo [] _ _ _ _ ?_
      refine brf (nI_ge (b := 10) hc10 (by omega)) ?_
      refine ob_ (by decide) ?_
      refine ob_ (by rw [er]; exact vp_in_nI (by omega) (by omega)) ?_
      refine ob_ (vp_in_nI (by omega) (by omega)) ?_
      refine ih (c + 1) _ _ (by omega) (by omega) (nI_1 c) hK.s7.s8 h1 (fun w hw hwc => ?_) (fun p hp => ?_)
      · show upd (M2 11 0 7) (nI c - nI c / 8 * 8).toNatClampNeg 0 w = 0
        rw [er, rc]
        by_cases e : w = c % 8
        · rw [e, upd_s]
        · rw [upd_n e]
          refine h2 w hw ?_
          have : c < 8 → c % 8 = c := fun h => Nat.mod_eq_of_lt h
          omega
      · show upd (M2 11 0 8) (nI c).toNatClampNeg 0 p = 0
        rw [hcc]
        by_cases e : p = c
        · rw [e, upd_s]
        · rw [upd_n e]
          exact h3 p (by omega)
  refine hgo [7] _ _ _ _ ?_
  exact clr _ 0 _ _ rfl (by omega) rfl (KL.s0 ⟨fun _ _ => rfl, fun _ _ _ _ => rfl, fun _ _ => rfl⟩) rfl (fun w _ h => by omega) (fun p hp => by omega)
