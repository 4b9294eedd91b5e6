/-! the class's closure -/
def KF (M2 M : am_M) : Prop := (∀ k, k ≠ 7 → M2 k = M k) ∧ (∀ o, o ≠ 0 → o ≠ 3 → M2 7 0 o = M 7 0 o) ∧ ∀ i, i ≠ 3 → M2 7 0 0 i = M 7 0 0 i
theorem KF.s3 {M2 M : am_M} {f : Nat → Int32} (h : KF M2 M) : KF (sA M2 7 0 3 f) M := ⟨fun k hk => (sA_k hk).trans (h.1 k hk), fun o h0 h3 => (sA_o h3).trans (h.2.1 o h0 h3), fun i hi => h.2.2 i hi⟩
theorem KF.r3 {M2 M : am_M} {x : Int32} (h : KF M2 M) : KF (sA M2 7 0 0 (upd (M2 7 0 0) 3 x)) M := ⟨fun k hk => (sA_k hk).trans (h.1 k hk), fun o h0 h3 => (sA_o h0).trans (h.2.1 o h0 h3), fun i hi => (show upd (M2 7 0 0) 3 x i = _ from (upd_n hi).trans (h.2.2 i hi))⟩
theorem ringset {S : Nat → Nat → Bool} {i : Nat} (hi : i < 10) : (S i i = true → bs (fun p => decide (p < i) && S p p) ||| bs (fun p => decide (p = i)) = bs (fun p => decide (p < i + 1) && S p p)) ∧ (¬ S i i = true → bs (fun p => decide (p < i) && S p p) = bs (fun p => decide (p < i + 1) && S p p)) := by
  constructor
  · intro h
    rw [bs_or]
    apply bs_cong
    intro p hp
    by_cases h1 : p = i
    · subst h1
      simp [h]
    · have h2 : decide (p < i + 1) = decide (p < i) := by
        apply decide_eq_decide.mpr
        omega
      simp [h1, h2]
  · intro h
    apply bs_cong
    intro p hp
    by_cases h1 : p = i
    · subst h1
      simp [h]
    · have h2 : decide (p < i + 1) = decide (p < i) := by
        apply decide_eq_decide.mpr
        omega
      simp [h2]
theorem c_Facts_close (A : Nat → Nat → Bool) (M : am_M) (hA : ∀ p, p < 10 → M 7 0 2 p = bs (A p)) : ConP 3 mFacts_close [aR 7 0 0] M (fun r M2 => r = none ∧ KF M2 M ∧ (∀ p, p < 10 → M2 7 0 3 p = bs (wsh A 10 p)) ∧ M2 7 0 0 3 = bs (fun p => wsh A 10 p p)) := by
  refine con_of okFacts_close [some (aR 7 0 0), none, none] none ?_
  intro J hgo
  have rl : ∀ m i iv (z : Option am_V) M2, m = 10 - i → i ≤ 10 → iv = nI i → KF M2 M → (∀ p, p < 10 → M2 7 0 3 p = bs (wsh A 10 p)) → M2 7 0 0 3 = bs (fun p => decide (p < i) && wsh A 10 p p) → J 78 [some (aR 7 0 0), some (aI iv), z] [] M2 := by
    intro m
    induction m with
    | zero =>
      intro i iv z M2 hm hi hv hK hS hr
      obtain rfl : i = 10 := by omega
      subst hv
      refine hgo [] _ _ _ _ ?_
      refine brt (by decide) ?_
      refine hgo [] _ _ _ _ ?_
      refine ⟨rfl, hK, hS, ?_⟩
      rw [hr]
      exact bs_cong (fun p hp => by simp [hp])
    | succ m ih =>
      intro i iv z M2 hm hi hv hK hS hr
      subst hv
      have hi10 : i < 10 := by omega
      have hic : (nI i).toNatClampNeg = i := cl_nI (by omega)
      have nx : ∀ M2, KF M2 M → (∀ p, p < 10 → M2 7 0 3 p = bs (wsh A 10 p)) → M2 7 0 0 3 = bs (fun p => decide (p < i + 1) && wsh A 10 p p) → J 109 [some (aR 7 0 0), some (aI (nI i)), z] [] M2 := by
        intro M2 hK hS hr
        refine hgo [] _ _ _ _ ?_
        exact ih (i + 1) _ _ M2 (by omega) (by omega) (nI_1 i) hK hS hr
      refine hgo [109] _ _ _ _ ?_
      refine brf (nI_ge (b := 10) hi10 (by omega)) ?_
      refine ob_ (vp_in_nI (by omega) (by omega)) ?_
      refine cle (c_Main_has (wsh A 10 i) i M2 hi10) (by rw [hic, hS i hi10]) rfl ?_
      refine brb (fun h1 => ?_) (fun h1 => ?_)
      · exact nx M2 hK hS (by rw [hr, (ringset hi10).2 h1])
      · refine nx _ hK.r3 hS ?_
        show M2 7 0 0 3 ||| (1 : Int32) <<< (nI i &&& 31) = _
        rw [hr, bs_one hi10, (ringset hi10).1 h1]
  have outer : ∀ m b bv (z : Option am_V) M2, m = 10 - b → b ≤ 10 → bv = nI b → KF M2 M → (∀ p, p < 10 → M2 7 0 3 p = bs (wsh A b p)) → J 17 [some (aR 7 0 0), some (aI bv), z] [] M2 := by
    intro m
    induction m with
    | zero =>
      intro b bv z M2 hm hb hv hK hS
      obtain rfl : b = 10 := by omega
      subst hv
      refine hgo [] _ _ _ _ ?_
      refine brt (by decide) ?_
      refine hgo [78] _ _ _ _ ?_
      exact rl _ 0 _ _ _ rfl (by omega) rfl hK.r3 hS (by rw [← bs_0]; show _ = _; exact bs_cong (fun p hp => by simp))
    | succ m ih =>
      intro b bv z M2 hm hb hv hK hS
      subst hv
      have hb10 : b < 10 := by omega
      have hbc : (nI b).toNatClampNeg = b := cl_nI (by omega)
      have inner : ∀ m p pv M2, m = 10 - p → p ≤ 10 → pv = nI p → KF M2 M → (∀ a, a < 10 → M2 7 0 3 a = bs (wsh A (if a < p then b + 1 else b) a)) → J 25 [some (aR 7 0 0), some (aI (nI b)), some (aI pv)] [] M2 := by
        intro m
        induction m with
        | zero =>
          intro p pv M2 hm hp hv hK hS
          obtain rfl : p = 10 := by omega
          subst hv
          refine hgo [] _ _ _ _ ?_
          refine brt (by decide) ?_
          refine hgo [] _ _ _ _ ?_
          refine ih (b + 1) _ _ M2 (by omega) (by omega) (nI_1 b) hK (fun a ha => ?_)
          rw [hS a ha, if_pos ha]
        | succ m ih2 =>
          intro p pv M2 hm hp hv hK hS
          subst hv
          have hp10 : p < 10 := by omega
          have hpc : (nI p).toNatClampNeg = p := cl_nI (by omega)
          have ep : M2 7 0 3 (nI p).toNatClampNeg = bs (wsh A b p) := by rw [hpc, hS p hp10, if_neg (by omega)]
          have eb : M2 7 0 3 (nI b).toNatClampNeg = bs (wsh A b b) := by
            rw [hbc, hS b hb10]
            by_cases h : b < p
            · rw [if_pos h]
              exact bs_cong (fun q hq => wsh_row)
            · rw [if_neg h]
          have nx : ∀ M3, KF M3 M → (∀ a, a < 10 → M3 7 0 3 a = bs (wsh A (if a < p + 1 then b + 1 else b) a)) → J 59 [some (aR 7 0 0), some (aI (nI b)), some (aI (nI p))] [] M3 := by
            intro M3 hK hS
            refine hgo [] _ _ _ _ ?_
            exact ih2 (p + 1) _ M3 (by omega) (by omega) (nI_1 p) hK hS
          have oth : ∀ a, a < 10 → a ≠ p → M2 7 0 3 a = bs (wsh A (if a < p + 1 then b + 1 else b) a) := by
            intro a ha hap
            rw [hS a ha]
            by_cases h : a < p
            · rw [if_pos h, if_pos (by omega)]
            · rw [if_neg h, if_neg (by omega)]
          refine hgo [59] _ _ _ _ ?_
          refine brf (nI_ge (b := 10) hp10 (by omega)) ?_
          refine ob_ (vp_in_nI (by omega) (by omega)) ?_
          refine cle (c_Main_has (wsh A b p) b M2 hb10) (by rw [ep]) rfl ?_
          refine brb (fun h1 => ?_) (fun h1 => ?_)
          · refine nx M2 hK (fun a ha => ?_)
            by_cases e : a = p
            · subst e
              rw [hS a ha, if_neg (by omega), if_pos (by omega)]
              apply bs_cong
              intro q hq
              show _ = (wsh A b a q || (wsh A b a b && wsh A b b q))
              rw [Bool.eq_false_iff.mpr h1]
              simp
            · exact oth a ha e
          · refine ob_ (vp_in_nI (by omega) (by omega)) ?_
            refine ob_ (vp_in_nI (by omega) (by omega)) ?_
            refine ob_ (vp_in_nI (by omega) (by omega)) ?_
            refine nx _ hK.s3 (fun a ha => ?_)
            show upd (M2 7 0 3) (nI p).toNatClampNeg (M2 7 0 3 (nI p).toNatClampNeg ||| M2 7 0 3 (nI b).toNatClampNeg) a = _
            rw [ep, eb, hpc, bs_or]
            by_cases e : a = p
            · subst e
              rw [upd_s, if_pos (by omega)]
              apply bs_cong
              intro q hq
              show _ = (wsh A b a q || (wsh A b a b && wsh A b b q))
              rw [h1, Bool.true_and]
            · rw [upd_n e]
              exact oth a ha e
      refine hgo [25] _ _ _ _ ?_
      refine brf (nI_ge (b := 10) hb10 (by omega)) ?_
      exact inner _ 0 _ M2 rfl (by omega) rfl hK (fun a ha => by rw [hS a ha, if_neg (by omega)])
  refine hgo [17] _ _ _ _ ?_
  refine ob_ (by decide) ?_
  refine outer _ 0 _ _ _ rfl (by omega) rfl (KF.s3 ⟨fun _ _ => rfl, fun _ _ _ => rfl, fun _ _ => rfl⟩) (fun p hp => ?_)
  show va_cpy (M 7 0 2) (M 7 0 3) _ _ _ p = _
  simp only [va_cpy, Int32.reduceToNatClampNeg]
  rw [if_pos (by omega), ← show M 7 0 2 p = bs (wsh A 0 p) from hA p hp]
  congr 1
  omega
