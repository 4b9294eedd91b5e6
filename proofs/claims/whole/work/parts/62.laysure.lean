/-! the reference's closure -/
def KR (M2 M : am_M) (o1 : Nat) : Prop := (∀ k, k ≠ 11 → M2 k = M k) ∧ ∀ o, o ≠ o1 → M2 11 0 o = M 11 0 o
theorem KR.sa {M2 M : am_M} {o1 : Nat} {f : Nat → Int32} (h : KR M2 M o1) : KR (sA M2 11 0 o1 f) M o1 := ⟨fun k hk => (sA_k hk).trans (h.1 k hk), fun o ho => (sA_o ho).trans (h.2 o ho)⟩
def SSr (M2 : am_M) (S : Nat → Nat → Bool) : Prop := ∀ p, p < 10 → M2 11 0 9 p = bs (S p)
def SubC (A S : Nat → Nat → Bool) : Prop := ∀ p q, p < 10 → q < 10 → S p q = true → wsh A 10 p q = true
def SupC (A S : Nat → Nat → Bool) (r : Nat) : Prop := ∀ p q, p < 10 → q < 10 → wsh A r p q = true → S p q = true
def stS (S : Nat → Nat → Bool) (p k : Nat) : Nat → Nat → Bool := fun a b => if a = p then S p b || (S p k && S k b) else S a b
theorem stS_mono {S : Nat → Nat → Bool} {p k a b : Nat} (h : S a b = true) : stS S p k a b = true := by
  unfold stS
  by_cases e : a = p
  · subst e
    rw [if_pos rfl, h]
    rfl
  · rw [if_neg e]
    exact h
theorem stS_sub {A S : Nat → Nat → Bool} {p k : Nat} (hk : k < 10) (h : SubC A S) : SubC A (stS S p k) := by
  intro a b ha hb hs
  unfold stS at hs
  by_cases e : a = p
  · subst e
    rw [if_pos rfl, Bool.or_eq_true, Bool.and_eq_true] at hs
    rcases hs with hs | ⟨h1, h2⟩
    · exact h a b ha hb hs
    · exact wsh_tr hk (h a k ha hk h1) (h k b hk hb h2)
  · rw [if_neg e] at hs
    exact h a b ha hb hs
theorem stS_row {A S : Nat → Nat → Bool} {p r : Nat} (hp : p < 10) (hr : r < 10) (h : SupC A S r) : ∀ q, q < 10 → wsh A (r + 1) p q = true → stS S p r p q = true := by
  intro q hq hw
  rcases wsh_or hw with hw | ⟨h1, h2⟩
  · exact stS_mono (h p q hp hq hw)
  · unfold stS
    rw [if_pos rfl, h p r hp hr h1, h r q hr hq h2]
    simp
theorem c_Ref_laySure (A : Nat → Nat → Bool) (M : am_M) (hA : ∀ p, p < 10 → M 11 0 8 p = bs (A p)) : ConP 2 mRef_laySure [aR 11 0 0] M (fun r M2 => r = none ∧ KR M2 M 9 ∧ SSr M2 (wsh A 10)) := by
  refine con_of okRef_laySure [some (aR 11 0 0), none, none, none] none ?_
  intro J hgo
  have outer : ∀ m r rv (z2 z3 : Option am_V) M2 S, m = 10 - r → r ≤ 10 → rv = nI r → KR M2 M 9 → SSr M2 S → SubC A S → SupC A S r → J 28 [some (aR 11 0 0), some (aI rv), z2, z3] [] M2 := by
    intro m
    induction m with
    | zero =>
      intro r rv z2 z3 M2 S hm hr hv hK hS h1 h2
      obtain rfl : r = 10 := by omega
      subst hv
      refine hgo [] _ _ _ _ ?_
      refine brt (by decide) ?_
      refine hgo [] _ _ _ _ ?_
      refine ⟨rfl, hK, fun p hp => ?_⟩
      rw [hS p hp]
      apply bs_cong
      intro q hq
      rw [Bool.eq_iff_iff]
      exact ⟨h1 p q hp hq, h2 p q hp hq⟩
    | succ m ih =>
      intro r rv z2 z3 M2 S hm hr hv hK hS h1 h2
      subst hv
      have hr10 : r < 10 := by omega
      have mid : ∀ m p pv (z3 : Option am_V) M2 S, m = 10 - p → p ≤ 10 → pv = nI p → KR M2 M 9 → SSr M2 S → SubC A S → SupC A S r → (∀ a q, a < p → q < 10 → wsh A (r + 1) a q = true → S a q = true) → J 36 [some (aR 11 0 0), some (aI (nI r)), some (aI pv), z3] [] M2 := by
        intro m
        induction m with
        | zero =>
          intro p pv z3 M2 S hm hp hv hK hS h1 h2 h3
          obtain rfl : p = 10 := by omega
          subst hv
          refine hgo [] _ _ _ _ ?_
          refine brt (by decide) ?_
          refine hgo [] _ _ _ _ ?_
          exact ih (r + 1) _ _ _ M2 S (by omega) (by omega) (nI_1 r) hK hS h1 (fun a q ha hq hw => h3 a q ha hq hw)
        | succ m ih2 =>
          intro p pv z3 M2 S hm hp hv hK hS h1 h2 h3
          subst hv
          have hp10 : p < 10 := by omega
          have hpc : (nI p).toNatClampNeg = p := cl_nI (by omega)
          have inner : ∀ m k kv M2 S, m = 10 - k → k ≤ 10 → kv = nI k → KR M2 M 9 → SSr M2 S → SubC A S → SupC A S r → (∀ a q, a < p → q < 10 → wsh A (r + 1) a q = true → S a q = true) → (r < k → ∀ q, q < 10 → wsh A (r + 1) p q = true → S p q = true) → J 44 [some (aR 11 0 0), some (aI (nI r)), some (aI (nI p)), some (aI kv)] [] M2 := by
            intro m
            induction m with
            | zero =>
              intro k kv M2 S hm hk hv hK hS h1 h2 h3 h4
              obtain rfl : k = 10 := by omega
              subst hv
              refine hgo [] _ _ _ _ ?_
              refine brt (by decide) ?_
              refine hgo [] _ _ _ _ ?_
              refine ih2 (p + 1) _ _ M2 S (by omega) (by omega) (nI_1 p) hK hS h1 h2 (fun a q ha hq hw => ?_)
              by_cases e : a = p
              · subst e
                exact h4 hr10 q hq hw
              · exact h3 a q (by omega) hq hw
            | succ m ih3 =>
              intro k kv M2 S hm hk hv hK hS h1 h2 h3 h4
              subst hv
              have hk10 : k < 10 := by omega
              have hkc : (nI k).toNatClampNeg = k := cl_nI (by omega)
              have ep : M2 11 0 9 (nI p).toNatClampNeg = bs (S p) := by rw [hpc]; exact hS p hp10
              have ek : M2 11 0 9 (nI k).toNatClampNeg = bs (S k) := by rw [hkc]; exact hS k hk10
              have st : ∀ x : Int32, bs (S p) ||| x = bs (stS S p k p) → J 81 [some (aR 11 0 0), some (aI (nI r)), some (aI (nI p)), some (aI (nI k))] [aI x, aI (M2 11 0 9 (nI p).toNatClampNeg), aI (nI p), aR 11 0 9] M2 := by
                intro x hx
                refine hgo [] _ _ _ _ ?_
                refine ob_ (vp_in_nI (by omega) (by omega)) ?_
                refine ih3 (k + 1) _ _ (stS S p k) (by omega) (by omega) (nI_1 k) hK.sa ?_ (stS_sub hk10 h1) (fun a q ha hq hw => stS_mono (h2 a q ha hq hw)) (fun a q ha hq hw => stS_mono (h3 a q ha hq hw)) ?_
                · intro a ha
                  show upd (M2 11 0 9) (nI p).toNatClampNeg (M2 11 0 9 (nI p).toNatClampNeg ||| x) a = _
                  rw [ep, hpc]
                  by_cases e : a = p
                  · subst e
                    rw [upd_s, hx]
                  · rw [upd_n e, hS a ha]
                    apply bs_cong
                    intro i hi
                    unfold stS
                    rw [if_neg e]
                · intro hrk q hq hw
                  by_cases e : r = k
                  · subst e
                    exact stS_row hp10 hr10 h2 q hq hw
                  · exact stS_mono (h4 (by omega) q hq hw)
              refine hgo [81] _ _ _ _ ?_
              refine brf (nI_ge (b := 10) hk10 (by omega)) ?_
              refine ob_ (vp_in_nI (by omega) (by omega)) ?_
              refine ob_ (vp_in_nI (by omega) (by omega)) ?_
              refine br_ (fun hb => ?_) (fun hb => ?_)
              · rw [ep, bs_shr (S p) hk10] at hb
                have hb : S p k = true := by
                  by_cases q : S p k = true
                  · exact q
                  · rw [b2i_f q] at hb
                    exact absurd hb (by decide)
                refine ob_ (vp_in_nI (by omega) (by omega)) ?_
                refine st _ ?_
                rw [ek, bs_or]
                apply bs_cong
                intro i hi
                unfold stS
                rw [if_pos rfl, hb, Bool.true_and]
              · rw [ep, bs_shr (S p) hk10] at hb
                have hb : ¬ S p k = true := fun q => hb (b2i_t q)
                refine hgo [81] _ _ _ _ ?_
                refine st _ ?_
                rw [← bs_0, bs_or]
                apply bs_cong
                intro i hi
                unfold stS
                rw [if_pos rfl, Bool.eq_false_iff.mpr hb, Bool.false_and]
          refine hgo [44] _ _ _ _ ?_
          refine brf (nI_ge (b := 10) hp10 (by omega)) ?_
          exact inner _ 0 _ M2 S rfl (by omega) rfl hK hS h1 h2 h3 (fun h => by omega)
      refine hgo [36] _ _ _ _ ?_
      refine brf (nI_ge (b := 10) hr10 (by omega)) ?_
      exact mid _ 0 _ _ M2 S rfl (by omega) rfl hK hS h1 h2 (fun a q ha => by omega)
  have copy : ∀ m c cv M2, m = 10 - c → c ≤ 10 → cv = nI c → KR M2 M 9 → (∀ p, p < c → M2 11 0 9 p = bs (A p)) → J 2 [some (aR 11 0 0), some (aI cv), none, none] [] M2 := by
    intro m
    induction m with
    | zero =>
      intro c cv M2 hm hc hv hK hS
      obtain rfl : c = 10 := by omega
      subst hv
      refine hgo [] _ _ _ _ ?_
      refine brt (by decide) ?_
      refine hgo [28] _ _ _ _ ?_
      refine outer _ 0 _ _ _ M2 A rfl (by omega) rfl hK hS (fun p q hp hq h => ?_) (fun p q _ _ h => h)
      exact wsh_le (m := 0) (by omega) h
    | succ m ih =>
      intro c cv M2 hm hc hv hK hS
      subst hv
      have hc10 : c < 10 := by omega
      have hcc : (nI c).toNatClampNeg = c := cl_nI (by omega)
      refine hgo [] _ _ _ _ ?_
      refine brf (nI_ge (b := 10) hc10 (by omega)) ?_
      refine ob_ (vp_in_nI (by omega) (by omega)) ?_
      refine ob_ (vp_in_nI (by omega) (by omega)) ?_
      refine ih (c + 1) _ _ (by omega) (by omega) (nI_1 c) hK.sa (fun p hp => ?_)
      show upd (M2 11 0 9) (nI c).toNatClampNeg (M2 11 0 8 (nI c).toNatClampNeg) p = _
      rw [hcc, hK.2 8 (by decide)]
      by_cases e : p = c
      · subst e
        rw [upd_s, hA p hc10]
      · rw [upd_n e, hS p (by omega)]
  refine hgo [2] _ _ _ _ ?_
  exact copy _ 0 _ M rfl (by omega) rfl ⟨fun _ _ => rfl, fun _ _ => rfl⟩ (fun p hp => by omega)
