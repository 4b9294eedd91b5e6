theorem sSee {h : Nat → Int32} {s : Nat} : bs (seB h s) ||| bs (atB h s (dp h s)) = bs (seB h (s + 1)) := by
  rw [bs_or]
  rfl
theorem sOn {h : Nat → Int32} {s : Nat} : bs (onB h s (wl h s)) ||| bs (atB h s (dp h s)) = bs (onB h (s + 1) (wl h s)) := by
  rw [bs_or]
  apply bs_cong
  intro p hp
  show _ = (onB h s (wl h s) p || ((wl h s == wl h s) && atB h s (dp h s) p))
  simp
theorem sOn2 {h : Nat → Int32} {s w : Nat} (hw : w ≠ wl h s) : onB h s w = onB h (s + 1) w := by
  funext p
  show _ = (onB h s w p || ((wl h s == w) && atB h s (dp h s) p))
  have : (wl h s == w) = false := by simp; exact fun e => hw e.symm
  simp [this]
def aj (h : Nat → Int32) (s j p q : Nat) : Bool := ahB h s p q || a1B h s j p q
theorem sAh {h : Nat → Int32} {s j : Nat} : bs (aj h s j (ly h s (j + 1))) ||| bs (fun i => decide (i = ly h s j)) = bs (aj h s (j + 1) (ly h s (j + 1))) := by
  rw [bs_or]
  apply bs_cong
  intro q hq
  show (ahB h s _ q || a1B h s j _ q || decide (q = ly h s j)) = (ahB h s _ q || (a1B h s j _ q || ((ly h s (j + 1) == ly h s (j + 1)) && (ly h s j == q))))
  by_cases e : q = ly h s j
  · subst e
    simp
  · have e2 : (ly h s j == q) = false := beq_eq_false_iff_ne.mpr (fun x => e x.symm)
    rw [e2]
    simp [e]
theorem sAh2 {h : Nat → Int32} {s j p : Nat} (hp : p ≠ ly h s (j + 1)) : aj h s j p = aj h s (j + 1) p := by
  funext q
  show (ahB h s p q || a1B h s j p q) = (ahB h s p q || (a1B h s j p q || ((ly h s (j + 1) == p) && (ly h s j == q))))
  have : (ly h s (j + 1) == p) = false := by simp; exact fun e => hp e.symm
  simp [this]
theorem aj_0 {h : Nat → Int32} {s p : Nat} : aj h s 0 p = ahB h s p := by
  funext q
  show (ahB h s p q || false) = _
  simp
def KG (M2 M : am_M) : Prop := (∀ k, k ≠ 7 → M2 k = M k) ∧ (∀ o, 3 ≤ o → M2 7 0 o = M 7 0 o) ∧ ∀ i, i ≠ 2 → M2 7 0 0 i = M 7 0 0 i
theorem KG.s1 {M2 M : am_M} {f : Nat → Int32} (h : KG M2 M) : KG (sA M2 7 0 1 f) M := ⟨fun k hk => (sA_k hk).trans (h.1 k hk), fun o h0 => (sA_o (by omega)).trans (h.2.1 o h0), fun i hi => h.2.2 i hi⟩
theorem KG.s2 {M2 M : am_M} {f : Nat → Int32} (h : KG M2 M) : KG (sA M2 7 0 2 f) M := ⟨fun k hk => (sA_k hk).trans (h.1 k hk), fun o h0 => (sA_o (by omega)).trans (h.2.1 o h0), fun i hi => h.2.2 i hi⟩
theorem KG.s0 {M2 M : am_M} {x : Int32} (h : KG M2 M) : KG (sA M2 7 0 0 (upd (M2 7 0 0) 2 x)) M := ⟨fun k hk => (sA_k hk).trans (h.1 k hk), fun o h0 => (sA_o (by omega)).trans (h.2.1 o h0), fun i hi => (show upd (M2 7 0 0) 2 x i = _ from (upd_n hi).trans (h.2.2 i hi))⟩
theorem c_Facts_gather (h : Nat → Int32) (M : am_M) (hv : HV h) (hr : RH (M 4 0) (M 5 0) h) : ConP 4 mFacts_gather [aR 7 0 0] M (fun r M2 => r = none ∧ KG M2 M ∧ M2 7 0 0 2 = bs (Seen h) ∧ (∀ w, w < 8 → M2 7 0 1 w = bs (On h w)) ∧ ∀ p, p < 10 → M2 7 0 2 p = bs (Ah h p)) := by
  have s9 := hv.2.2.2.1.2
  have w8 := hv.1.2
  have p10 := hv.2.1.2
  have en : M 5 0 0 0 = nI (nS h) := by rw [hr.2.2.2.1, hv.2.2.2.1.1]
  refine con_of okFacts_gather [some (aR 7 0 0), none, none, none, none] none ?_
  intro J hgo
  have outer : ∀ m s sv (z2 z3 z4 : Option am_V) M2, m = nS h - s → s ≤ nS h → sv = nI s → KG M2 M → M2 7 0 0 2 = bs (seB h s) → (∀ w, w < 8 → M2 7 0 1 w = bs (onB h s w)) → (∀ p, p < 10 → M2 7 0 2 p = bs (ahB h s p)) → J 23 [some (aR 7 0 0), some (aI sv), z2, z3, z4] [] M2 := by
    intro m
    induction m with
    | zero =>
      intro s sv z2 z3 z4 M2 hm hs hv2 hK h1 h2 h3
      have hs : s = nS h := by omega
      subst hv2
      refine hgo [] _ _ _ _ ?_
      refine brt (by show M2 5 0 0 0 ≤ nI s; rw [hK.1 5 (by decide), en, hs]; exact nI_le (Nat.le_refl _) (by omega)) ?_
      refine hgo [] _ _ _ _ ?_
      rw [hs] at h1 h2 h3
      exact ⟨rfl, hK, h1, h2, h3⟩
    | succ m ih =>
      intro s sv z2 z3 z4 M2 hm hs hv2 hK h1 h2 h3
      subst hv2
      have hlt : s < nS h := by omega
      obtain ⟨a1, a2, a3, a4, a5, a6⟩ := HV_sp hv hlt
      obtain ⟨q2, q6⟩ := HV_sq hv hlt
      have inner : ∀ m j kv M2, m = 8 - (j + 1) → j + 1 ≤ 8 → kv = nI (j + 1) → KG M2 M → M2 7 0 0 2 = bs (seB h (s + 1)) → (∀ w, w < 8 → M2 7 0 1 w = bs (onB h (s + 1) w)) → (∀ p, p < 10 → M2 7 0 2 p = bs (aj h s (min j (dp h s - 1)) p)) → J 83 [some (aR 7 0 0), some (aI (nI s)), some (aI (nI (wl h s))), some (aI (bs (atB h s (dp h s)))), some (aI kv)] [] M2 := by
        intro m
        induction m with
        | zero =>
          intro j kv M2 hm hj hv2 hK h1 h2 h3
          obtain rfl : j = 7 := by omega
          subst hv2
          refine hgo [] _ _ _ _ ?_
          refine brt (by decide) ?_
          refine hgo [] _ _ _ _ ?_
          refine ih (s + 1) _ _ _ _ M2 (by omega) (by omega) (nI_1 s) hK h1 h2 (fun p hp => ?_)
          rw [h3 p hp, show min 7 (dp h s - 1) = dp h s - 1 by omega]
          rfl
        | succ m ih2 =>
          intro j kv M2 hm hj hv2 hK h1 h2 h3
          subst hv2
          have h5 := hK.1 5 (by decide)
          have h4 := hK.1 4 (by decide)
          have hr2 : RHs (M2 5 0) h := by rw [h5]; exact hr.2.2.2
          have hp2 : RHp (M2 4 0) h := by rw [h4]; exact hr.2.1
          refine hgo [] _ _ _ _ ?_
          refine brf (show ¬ nI 8 ≤ nI (j + 1) from nI_ge (by omega) (by omega)) ?_
          by_cases hd : j + 1 < dp h s
          · have l1 := (a6 (j + 1) hd).2
            refine cle (c_layer h M2 hv hr2 s j hlt (by omega)) (by rw [show nI (j + 1) - 1 = nI j from pk_sub (a := j + 1) (b := 1) (by omega)]) rfl ?_
            refine cl_ (c_layer h M2 hv hr2 s (j + 1) hlt hd) ?_
            refine cl_ (c_putAhead_in h M2 hv hp2 _ _ (q6 j (by omega)) (q6 (j + 1) hd)) ?_
            refine ih2 (j + 1) _ _ (by omega) (by omega) (nI_1 (j + 1)) hK.s2 h1 h2 (fun p hp => ?_)
            show upd (M2 7 0 2) (ly h s (j + 1)) (M2 7 0 2 (ly h s (j + 1)) ||| bs (fun i => decide (i = ly h s j))) p = _
            rw [h3 _ l1, show min j (dp h s - 1) = j by omega, show min (j + 1) (dp h s - 1) = j + 1 by omega, sAh]
            by_cases e : p = ly h s (j + 1)
            · rw [e, upd_s]
            · rw [upd_n e, h3 p hp, show min j (dp h s - 1) = j by omega, sAh2 e]
          · obtain ⟨x, cx⟩ := c_layer_any h M2 hv hr2 s j hlt (by omega)
            refine cle cx (by rw [show nI (j + 1) - 1 = nI j from pk_sub (a := j + 1) (b := 1) (by omega)]) rfl ?_
            refine cl_ (c_layer_out h M2 hv hr2 s (j + 1) hlt (by omega) (by omega)) ?_
            refine cl_ (c_putAhead_out h M2 hv hp2 x) ?_
            refine ih2 (j + 1) _ _ (by omega) (by omega) (nI_1 (j + 1)) hK h1 h2 (fun p hp => ?_)
            rw [h3 p hp, show min j (dp h s - 1) = dp h s - 1 by omega, show min (j + 1) (dp h s - 1) = dp h s - 1 by omega]
      have h5 := hK.1 5 (by decide)
      have h4 := hK.1 4 (by decide)
      have hr2 : RHs (M2 5 0) h := by rw [h5]; exact hr.2.2.2
      have hp2 : RHp (M2 4 0) h := by rw [h4]; exact hr.2.1
      have hw2 : RHw (M2 4 0) h := by rw [h4]; exact hr.1
      have wc : (nI (wl h s)).toNatClampNeg = wl h s := cl_nI (by omega)
      refine hgo [83] _ _ _ _ ?_
      refine brf (by show ¬ M2 5 0 0 0 ≤ nI s; rw [h5, en]; exact nI_ge hlt (by omega)) ?_
      refine cl_ (c_wall h M2 hv hr2 s hlt) ?_
      refine cl_ (c_Facts_at h M2 hv hp2 hr2 s hlt) ?_
      refine cl_ (c_isWal h _ hv (by show RHw (M2 4 0) h; exact hw2) _) ?_
      refine brbt (nI_bd q2 (by omega)) ?_
      refine ob_ (vp_in_nI (by omega) (by omega)) ?_
      refine ob_ (vp_in_nI (by omega) (by omega)) ?_
      refine inner _ 0 _ _ rfl (by omega) rfl hK.s0.s1 ?_ (fun w hw => ?_) (fun p hp => ?_)
      · show M2 7 0 0 2 ||| bs (atB h s (dp h s)) = _
        rw [h1, sSee]
      · show upd (M2 7 0 1) (nI (wl h s)).toNatClampNeg (M2 7 0 1 (nI (wl h s)).toNatClampNeg ||| bs (atB h s (dp h s))) w = _
        rw [wc, h2 _ a2, sOn]
        by_cases e : w = wl h s
        · rw [e, upd_s]
        · rw [upd_n e, h2 w hw, sOn2 e]
      · show M2 7 0 2 p = _
        rw [h3 p hp, Nat.zero_min, aj_0]
  refine hgo [23] _ _ _ _ ?_
  refine clp (c_fill_7_1 0 _) ?_
  rintro r M2 ⟨rfl, f, rfl, hf⟩
  refine clp (c_fill_7_2 0 _) ?_
  rintro r M3 ⟨rfl, g, rfl, hg⟩
  refine outer _ 0 _ _ _ _ _ rfl (by omega) rfl (KG.s2 (KG.s1 (KG.s0 ⟨fun _ _ => rfl, fun _ _ => rfl, fun _ _ => rfl⟩))) ?_ (fun w hw => ?_) (fun p hp => ?_)
  · show (0 : Int32) = _
    rw [← bs_0]
    rfl
  · show f w = _
    rw [hf w hw, ← bs_0]
    rfl
  · show g p = _
    rw [hg p hp, ← bs_0]
    rfl
