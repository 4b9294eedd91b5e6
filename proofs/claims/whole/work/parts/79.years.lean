/-! years by rounds -/
def YI (A : Nat → Nat → Bool) (base : Nat → Int) (rk : Nat → Nat) (Q : Nat → Prop) (X : Nat → Int) (r : Nat) (D : Nat → Nat → Prop) : Prop :=
  (∀ p, Q p → base p ≤ X p ∧ X p ≤ LL A base p) ∧ (∀ p, Q p → rk p < r → LL A base p ≤ X p) ∧ ∀ a b, Q a → D a b → A a b = true → rk b < r → LL A base b + 1 ≤ X a
theorem YI_0 {A : Nat → Nat → Bool} {base : Nat → Int} {rk : Nat → Nat} {Q : Nat → Prop} {X : Nat → Int} {D : Nat → Nat → Prop} (h : ∀ p, Q p → X p = base p) : YI A base rk Q X 0 D :=
  ⟨fun p hp => by rw [h p hp]; exact ⟨Int.le_refl _, LL_b p⟩, fun p _ h => by omega, fun a b _ _ _ h => by omega⟩
theorem YI_step {A : Nat → Nat → Bool} {base : Nat → Int} {rk : Nat → Nat} {Q : Nat → Prop} {X X2 : Nat → Int} {r a b : Nat} {D D2 : Nat → Nat → Prop} (hr : RkA A rk) (h9 : ∀ p, p < 10 → rk p < 10) (ha : a < 10) (hb : b < 10) (hq : Q b) (h : YI A base rk Q X r D) (hA : A a b = true) (h2 : X2 a = max (X a) (X b + 1)) (h3 : ∀ x, x ≠ a → X2 x = X x) (hD : ∀ c d, D2 c d → D c d ∨ (c = a ∧ d = b)) : YI A base rk Q X2 r D2 := by
  obtain ⟨h4, h5, h6⟩ := h
  have mono : ∀ x, X x ≤ X2 x := by
    intro x
    by_cases e : x = a
    · rw [e, h2]; omega
    · rw [h3 x e]; exact Int.le_refl _
  have up := LL_ge (base := base) hr h9 ha hb hA
  refine ⟨fun p hp => ⟨Int.le_trans (h4 p hp).1 (mono p), ?_⟩, fun p hp hrk => Int.le_trans (h5 p hp hrk) (mono p), fun c d hc hd hA2 hrk => ?_⟩
  · by_cases e : p = a
    · subst e
      rw [h2]
      have := (h4 p hp).2
      have := (h4 b hq).2
      omega
    · rw [h3 p e]
      exact (h4 p hp).2
  · rcases hD c d hd with g | ⟨rfl, rfl⟩
    · exact Int.le_trans (h6 c d hc g hA2 hrk) (mono c)
    · have := h5 d hq hrk
      rw [h2]
      omega
theorem YI_skip {A : Nat → Nat → Bool} {base : Nat → Int} {rk : Nat → Nat} {Q : Nat → Prop} {X : Nat → Int} {r a b : Nat} {D D2 : Nat → Nat → Prop} (h : YI A base rk Q X r D) (hA : ¬ A a b = true) (hD : ∀ c d, D2 c d → D c d ∨ (c = a ∧ d = b)) : YI A base rk Q X r D2 := by
  refine ⟨h.1, h.2.1, fun c d hc hd hA2 hrk => ?_⟩
  rcases hD c d hd with g | ⟨rfl, rfl⟩
  · exact h.2.2 c d hc g hA2 hrk
  · exact absurd hA2 hA
theorem YI_D {A : Nat → Nat → Bool} {base : Nat → Int} {rk : Nat → Nat} {Q : Nat → Prop} {X : Nat → Int} {r : Nat} {D D2 : Nat → Nat → Prop} (h : YI A base rk Q X r D) (hD : ∀ c d, c < 10 → d < 10 → D2 c d → D c d) (hA : ∀ c d, A c d = true → c < 10 ∧ d < 10) : YI A base rk Q X r D2 :=
  ⟨h.1, h.2.1, fun c d hc hd hA2 hrk => h.2.2 c d hc (hD c d (hA c d hA2).1 (hA c d hA2).2 hd) hA2 hrk⟩
theorem YI_round {A : Nat → Nat → Bool} {base : Nat → Int} {rk : Nat → Nat} {Q : Nat → Prop} {X : Nat → Int} {r : Nat} {D D2 : Nat → Nat → Prop} (hr : RkA A rk) (h9 : ∀ p, p < 10 → rk p < 10) (hQ : ∀ p, Q p → p < 10) (h : YI A base rk Q X r D) (hall : ∀ a b, a < 10 → b < 10 → D a b) (hD2 : ∀ a b, a < 10 → ¬ D2 a b) : YI A base rk Q X (r + 1) D2 := by
  refine ⟨h.1, fun p hp hrk => ?_, fun a b ha hd => absurd hd (hD2 a b (hQ a ha))⟩
  rw [LL_eq hr h9 p (hQ p hp)]
  refine mxF_le (h.1 p hp).1 (fun i hi hA => ?_)
  have := hr p i hi hA
  exact h.2.2 p i hp (hall p i (hQ p hp) hi) hA (by omega)
theorem YI_end {A : Nat → Nat → Bool} {base : Nat → Int} {rk : Nat → Nat} {Q : Nat → Prop} {X : Nat → Int} {D : Nat → Nat → Prop} (h9 : ∀ p, p < 10 → rk p < 10) (hQ : ∀ p, Q p → p < 10) (h : YI A base rk Q X 10 D) : ∀ p, Q p → X p = LL A base p := by
  intro p hp
  have h1 := (h.1 p hp).2
  have h2 := h.2.1 p hp (h9 p (hQ p hp))
  omega
def KY (M2 M : am_M) : Prop := (∀ k, k ≠ 11 → M2 k = M k) ∧ ∀ o, o ≠ 11 → o ≠ 12 → M2 11 0 o = M 11 0 o
theorem KY.s1 {M2 M : am_M} {f : Nat → Int32} (h : KY M2 M) : KY (sA M2 11 0 11 f) M := ⟨fun k hk => (sA_k hk).trans (h.1 k hk), fun o h1 h2 => (sA_o h1).trans (h.2 o h1 h2)⟩
theorem KY.s2 {M2 M : am_M} {f : Nat → Int32} (h : KY M2 M) : KY (sA M2 11 0 12 f) M := ⟨fun k hk => (sA_k hk).trans (h.1 k hk), fun o h1 h2 => (sA_o h2).trans (h.2 o h1 h2)⟩
/-- pairs that are through, in the order of the loops -/
def Dp (p q : Nat) (a b : Nat) : Prop := a < p ∨ (a = p ∧ b < q)
def YIL (h : Nat → Int32) (M : am_M) (r : Nat) (D : Nat → Nat → Prop) : Prop := YI (Ah h) (bL h) (rkD h) (fun p => p < nP h) (fun p => (M 11 0 11 p).toInt) r D
def YIU (h : Nat → Int32) (M : am_M) (r : Nat) (D : Nat → Nat → Prop) : Prop := YI (fun a b => Ah h b a) (fun a => - cap h a) (rkU h) (fun p => p < nP h) (fun p => - (M 11 0 12 p).toInt) r (fun a b => D b a)
theorem c_Ref_layYears (h : Nat → Int32) (M : am_M) (hv : HV h) (hM : M 11 0 4 = h) (hn : NoRing h) (hon : ∀ w, w < 8 → M 11 0 7 w = bs (On h w)) (hah : ∀ p, p < 10 → M 11 0 8 p = bs (Ah h p)) : ConP 3 mRef_layYears [aR 11 0 0] M (fun r M2 => r = none ∧ KY M2 M ∧ ∀ p, p < nP h → (M2 11 0 11 p).toInt = YL h p ∧ (M2 11 0 12 p).toInt = YU h p) := by
  obtain ⟨⟨v0, w8⟩, ⟨v1, p10⟩, -, -, vw, vp, -, -⟩ := id hv
  have hA10 : ∀ c d, Ah h c d = true → c < 10 ∧ d < 10 := fun c d q => ⟨by have := (Ah_in hv q).1; omega, by have := (Ah_in hv q).2.1; omega⟩
  have o1 : Int32.toInt 1 = 1 := by decide
  refine con_of okRef_layYears [some (aR 11 0 0), none, none, none] none ?_
  intro J hgo
  have outer : ∀ m r rv (z2 z3 : Option am_V) M2, m = 10 - r → r ≤ 10 → rv = nI r → KY M2 M → YIL h M2 r (Dp 0 0) → YIU h M2 r (Dp 0 0) → J 147 [some (aR 11 0 0), some (aI rv), z2, z3] [] M2 := by
    intro m
    induction m with
    | zero =>
      intro r rv z2 z3 M2 hm hr hv2 hK h1 h2
      obtain rfl : r = 10 := by omega
      subst hv2
      refine hgo [] _ _ _ _ ?_
      refine brt (by decide) ?_
      refine hgo [] _ _ _ _ ?_
      refine ⟨rfl, hK, fun p hp => ⟨?_, ?_⟩⟩
      · exact YI_end (rkD_10 hn) (fun p hp => by omega) h1 p hp
      · have := YI_end (rkU_10 hn) (fun p hp => by omega) h2 p hp
        have this : - (M2 11 0 12 p).toInt = LL (fun a b => Ah h b a) (fun a => - cap h a) p := this
        unfold YU
        omega
    | succ m ih =>
      intro r rv z2 z3 M2 hm hr hv2 hK h1 h2
      subst hv2
      have mid : ∀ m p pv (z3 : Option am_V) M2, m = 10 - p → p ≤ 10 → pv = nI p → KY M2 M → YIL h M2 r (Dp p 0) → YIU h M2 r (Dp p 0) → J 155 [some (aR 11 0 0), some (aI (nI r)), some (aI pv), z3] [] M2 := by
        intro m
        induction m with
        | zero =>
          intro p pv z3 M2 hm hp hv2 hK h1 h2
          obtain rfl : p = 10 := by omega
          subst hv2
          refine hgo [] _ _ _ _ ?_
          refine brt (by decide) ?_
          refine hgo [] _ _ _ _ ?_
          refine ih (r + 1) _ _ _ M2 (by omega) (by omega) (nI_1 r) hK ?_ ?_
          · exact YI_round (rkD_ok hn) (rkD_10 hn) (fun p hp => by omega) h1 (fun a b ha hb => Or.inl ha) (fun a b ha => by rintro (q | q) <;> omega)
          · refine YI_round (rkU_ok hn) (rkU_10 hn) (fun p hp => by omega) h2 (fun a b ha hb => Or.inl hb) (fun a b ha => ?_)
            rintro (q | q) <;> omega
        | succ m ih2 =>
          intro p pv z3 M2 hm hp hv2 hK h1 h2
          subst hv2
          have hp10 : p < 10 := by omega
          have hpc : (nI p).toNatClampNeg = p := cl_nI (by omega)
          have inner : ∀ m q qv M2, m = 10 - q → q ≤ 10 → qv = nI q → KY M2 M → YIL h M2 r (Dp p q) → YIU h M2 r (Dp p q) → J 163 [some (aR 11 0 0), some (aI (nI r)), some (aI (nI p)), some (aI qv)] [] M2 := by
            intro m
            induction m with
            | zero =>
              intro q qv M2 hm hq hv2 hK h1 h2
              obtain rfl : q = 10 := by omega
              subst hv2
              refine hgo [] _ _ _ _ ?_
              refine brt (by decide) ?_
              refine hgo [] _ _ _ _ ?_
              refine ih2 (p + 1) _ _ M2 (by omega) (by omega) (nI_1 p) hK ?_ ?_
              · refine YI_D h1 (fun c d hc hd g => ?_) hA10
                unfold Dp at g ⊢
                omega
              · refine YI_D h2 (fun c d hc hd g => ?_) (fun c d g => (hA10 d c g).symm)
                unfold Dp at g ⊢
                omega
            | succ m ih3 =>
              intro q qv M2 hm hq hv2 hK h1 h2
              subst hv2
              have hq10 : q < 10 := by omega
              have hqc : (nI q).toNatClampNeg = q := cl_nI (by omega)
              have dD : ∀ c d, Dp p (q + 1) c d → Dp p q c d ∨ (c = p ∧ d = q) := by
                intro c d g
                unfold Dp at g ⊢
                omega
              have no : ¬ Ah h p q = true → J 262 [some (aR 11 0 0), some (aI (nI r)), some (aI (nI p)), some (aI (nI q))] [] M2 := by
                intro g
                refine hgo [] _ _ _ _ ?_
                refine ih3 (q + 1) _ M2 (by omega) (by omega) (nI_1 q) hK (YI_skip h1 g dD) ?_
                refine YI_skip (a := q) (b := p) h2 g (fun c d g => ?_)
                rcases dD d c g with e | e
                · exact Or.inl e
                · exact Or.inr ⟨e.2, e.1⟩
              refine hgo [221] _ _ _ _ ?_
              refine brf (nI_ge (b := 10) hq10 (by omega)) ?_
              refine ob_ (vp_in_nI (by omega) (by omega)) ?_
              refine cle (c_Ref_isIn (Ah h p) q M2 hq10) (by rw [hpc, hK.2 8 (by decide) (by decide), hah p hp10]) rfl ?_
              refine brb (fun g => no g) (fun g => ?_)
              obtain ⟨a1, a2, -, -⟩ := Ah_in hv g
              have bp : bL h p ≤ (M2 11 0 11 p).toInt ∧ (M2 11 0 11 p).toInt ≤ LL (Ah h) (bL h) p := h1.1 p a1
              have bq : bL h q ≤ (M2 11 0 11 q).toInt ∧ (M2 11 0 11 q).toInt ≤ LL (Ah h) (bL h) q := h1.1 q a2
              have b3 := bL_in hv a1
              have b4 := bL_in hv a2
              have b5 := YL_in hv a1
              have b6 := YL_in hv a2
              have b7 := cap_in hv a1
              have b8 := cap_in hv a2
              have b9 := YU_in hv a1
              have b10 := YU_in hv a2
              have up : - cap h p ≤ - (M2 11 0 12 p).toInt ∧ - (M2 11 0 12 p).toInt ≤ LL (fun a b => Ah h b a) (fun a => - cap h a) p := h2.1 p a1
              have uq : - cap h q ≤ - (M2 11 0 12 q).toInt ∧ - (M2 11 0 12 q).toInt ≤ LL (fun a b => Ah h b a) (fun a => - cap h a) q := h2.1 q a2
              unfold YL at b5 b6
              unfold YU at b9 b10
              have e1 : (M2 11 0 11 (nI q).toNatClampNeg + 1).toInt = (M2 11 0 11 q).toInt + 1 := by
                rw [hqc, i3_add (by rw [o1]; omega) (by rw [o1]; omega), o1]
              have e2 : (M2 11 0 12 (nI p).toNatClampNeg - 1).toInt = (M2 11 0 12 p).toInt - 1 := by
                rw [hpc, i3_sub (by rw [o1]; omega) (by rw [o1]; omega), o1]
              have st : ∀ x : Int32, x.toInt = max (M2 11 0 11 p).toInt ((M2 11 0 11 q).toInt + 1) → J 221 [some (aR 11 0 0), some (aI (nI r)), some (aI (nI p)), some (aI (nI q))] [aI x, aI (nI p), aR 11 0 11] M2 := by
                intro x hx
                have st2 : ∀ y : Int32, y.toInt = min (M2 11 0 12 q).toInt ((M2 11 0 12 p).toInt - 1) → J 261 [some (aR 11 0 0), some (aI (nI r)), some (aI (nI p)), some (aI (nI q))] [aI y, aI (nI q), aR 11 0 12] (sA M2 11 0 11 (upd (M2 11 0 11) p x)) := by
                  intro y hy
                  refine hgo [] _ _ _ _ ?_
                  refine ob_ (vp_in_nI (by omega) (by omega)) ?_
                  refine ih3 (q + 1) _ _ (by omega) (by omega) (nI_1 q) hK.s1.s2 ?_ ?_
                  · refine YI_step (rkD_ok hn) (rkD_10 hn) hp10 hq10 a2 h1 g ?_ (fun z hz => ?_) dD
                    · show (upd (M2 11 0 11) p x p).toInt = _
                      rw [upd_s]
                      exact hx
                    · show (upd (M2 11 0 11) p x z).toInt = _
                      rw [upd_n hz]
                  · refine YI_step (a := q) (b := p) (rkU_ok hn) (rkU_10 hn) hq10 hp10 a1 h2 g ?_ (fun z hz => ?_) (fun c d g => ?_)
                    · show - (upd (M2 11 0 12) (nI q).toNatClampNeg y q).toInt = max (- (M2 11 0 12 q).toInt) (- (M2 11 0 12 p).toInt + 1)
                      rw [hqc, upd_s, hy]
                      omega
                    · show - (upd (M2 11 0 12) (nI q).toNatClampNeg y z).toInt = _
                      rw [hqc, upd_n hz]
                    · rcases dD d c g with e | e
                      · exact Or.inl e
                      · exact Or.inr ⟨e.2, e.1⟩
                refine hgo [261] _ _ _ _ ?_
                refine ob_ (vp_in_nI (by omega) (by omega)) ?_
                refine ob_ (vp_in_nI (by omega) (by omega)) ?_
                refine ob_ (vp_in_nI (by omega) (by omega)) ?_
                rw [hpc]
                refine br_ (fun g2 => ?_) (fun g2 => ?_)
                · have g2 : M2 11 0 12 (nI q).toNatClampNeg ≤ M2 11 0 12 (nI p).toNatClampNeg - 1 := by rw [hpc]; exact g2
                  rw [i3_le, e2, hqc] at g2
                  refine hgo [261] _ _ _ _ ?_
                  refine ob_ (vp_in_nI (by omega) (by omega)) ?_
                  refine st2 _ ?_
                  show (M2 11 0 12 (nI q).toNatClampNeg).toInt = _
                  rw [hqc]
                  omega
                · have g2 : ¬ M2 11 0 12 (nI q).toNatClampNeg ≤ M2 11 0 12 (nI p).toNatClampNeg - 1 := by rw [hpc]; exact g2
                  rw [i3_le, e2, hqc] at g2
                  refine ob_ (vp_in_nI (by omega) (by omega)) ?_
                  refine st2 _ ?_
                  show (M2 11 0 12 (nI p).toNatClampNeg - 1).toInt = _
                  rw [e2]
                  omega
              refine ob_ (vp_in_nI (by omega) (by omega)) ?_
              refine ob_ (vp_in_nI (by omega) (by omega)) ?_
              refine br_ (fun g2 => ?_) (fun g2 => ?_)
              · have g2 : M2 11 0 11 (nI q).toNatClampNeg + 1 ≤ M2 11 0 11 (nI p).toNatClampNeg := g2
                rw [i3_le, e1, hpc] at g2
                refine hgo [221] _ _ _ _ ?_
                refine ob_ (vp_in_nI (by omega) (by omega)) ?_
                refine st _ ?_
                rw [hpc]
                omega
              · have g2 : ¬ M2 11 0 11 (nI q).toNatClampNeg + 1 ≤ M2 11 0 11 (nI p).toNatClampNeg := g2
                rw [i3_le, e1, hpc] at g2
                refine ob_ (vp_in_nI (by omega) (by omega)) ?_
                refine st _ ?_
                rw [e1]
                omega
          refine hgo [163] _ _ _ _ ?_
          refine brf (nI_ge (b := 10) hp10 (by omega)) ?_
          exact inner _ 0 _ M2 rfl (by omega) rfl hK h1 h2
      refine hgo [155] _ _ _ _ ?_
      refine brf (nI_ge (b := 10) (by omega) (by omega)) ?_
      exact mid _ 0 _ _ M2 rfl (by omega) rfl hK h1 h2
  have first : ∀ m p pv (z2 z3 : Option am_V) M2, m = nP h - p → p ≤ nP h → pv = nI p → KY M2 M → (∀ q, q < p → (M2 11 0 11 q).toInt = bL h q ∧ (M2 11 0 12 q).toInt = cap h q) → J 2 [some (aR 11 0 0), some (aI pv), z2, z3] [] M2 := by
    intro m
    induction m with
    | zero =>
      intro p pv z2 z3 M2 hm hp hv2 hK h1
      have hp : p = nP h := by omega
      subst hv2
      have h4 : M2 11 0 4 = h := (hK.2 4 (by decide) (by decide)).trans hM
      refine hgo [] _ _ _ _ ?_
      refine ob_ (vp_in_nI (n := 1) (N := 198) (by omega) (by omega)) ?_
      refine brt (by show M2 11 0 4 1 ≤ nI p; rw [h4, v1, hp]; exact nI_le (Nat.le_refl _) (by omega)) ?_
      refine hgo [147] _ _ _ _ ?_
      refine outer _ 0 _ _ _ M2 rfl (by omega) rfl hK (YI_0 (fun q hq => ?_)) (YI_0 (fun q hq => ?_))
      · exact (h1 q (by omega)).1
      · show - (M2 11 0 12 q).toInt = - cap h q
        rw [(h1 q (by omega)).2]
    | succ m ih =>
      intro p pv z2 z3 M2 hm hp hv2 hK h1
      subst hv2
      have hlt : p < nP h := by omega
      have hpc : (nI p).toNatClampNeg = p := cl_nI (by omega)
      have h4 : M2 11 0 4 = h := (hK.2 4 (by decide) (by decide)).trans hM
      obtain ⟨kd, md, la, pr, re, k1, k2, k3, m1, m2, m3, l1, l2, l3, -⟩ := vp p hlt
      have ekd : hN h (28 + 5 * p) = kd := by unfold hN; rw [k1, cl_nI (by omega)]
      have ela : hN h (30 + 5 * p) = la := by unfold hN; rw [l1, cl_nI (by omega)]
      have c0 : ∀ Mx : am_M, Mx 11 0 4 = h → Con 1 mRef_of [aR 11 0 0, aI (nI p), aI 0] Mx (some (aI (nI kd))) Mx := by
        intro Mx hx
        rw [← k1, ← hx]
        exact c_Ref_of p 0 Mx (by omega) (by omega)
      have c1 : ∀ Mx : am_M, Mx 11 0 4 = h → Con 1 mRef_of [aR 11 0 0, aI (nI p), aI 1] Mx (some (aI (nI md))) Mx := by
        intro Mx hx
        rw [← m1, ← hx, show 29 + 5 * p = 28 + 5 * p + 1 by omega]
        exact c_Ref_of p 1 Mx (by omega) (by omega)
      have c2 : ∀ Mx : am_M, Mx 11 0 4 = h → Con 1 mRef_of [aR 11 0 0, aI (nI p), aI 2] Mx (some (aI (nI la))) Mx := by
        intro Mx hx
        rw [← l1, ← hx, show 30 + 5 * p = 28 + 5 * p + 2 by omega]
        exact c_Ref_of p 2 Mx (by omega) (by omega)
      have walls : ∀ (e2 : Int32) m w wv M3, m = nW h - w → w ≤ nW h → wv = nI w → KY M3 M → (∀ q, q < p → (M3 11 0 11 q).toInt = bL h q ∧ (M3 11 0 12 q).toInt = cap h q) → (M3 11 0 12 p).toInt = cap h p → (M3 11 0 11 p).toInt = mxF (fun w => On h w p) (fun w => (hN h (4 + 3 * w) : Int)) (hN h (29 + 5 * p) : Int) w → J 74 [some (aR 11 0 0), some (aI (nI p)), some (aI e2), some (aI wv)] [] M3 := by
        intro e2 m
        induction m with
        | zero =>
          intro w wv M3 hm hw hv2 hK h1 h2 h3
          have hw : w = nW h := by omega
          subst hv2
          have h4 : M3 11 0 4 = h := (hK.2 4 (by decide) (by decide)).trans hM
          refine hgo [] _ _ _ _ ?_
          refine ob_ (vp_in_nI (n := 0) (N := 198) (by omega) (by omega)) ?_
          refine brt (by show M3 11 0 4 0 ≤ nI w; rw [h4, v0, hw]; exact nI_le (Nat.le_refl _) (by omega)) ?_
          refine hgo [] _ _ _ _ ?_
          rw [hw] at h3
          refine ih (p + 1) _ _ _ M3 (by omega) (by omega) (nI_1 p) hK (fun q hq => ?_)
          by_cases e : q = p
          · rw [e]; exact ⟨h3, h2⟩
          · exact h1 q (by omega)
        | succ m ih2 =>
          intro w wv M3 hm hw hv2 hK h1 h2 h3
          subst hv2
          have hwl : w < nW h := by omega
          have hwc : (nI w).toNatClampNeg = w := cl_nI (by omega)
          have h4 : M3 11 0 4 = h := (hK.2 4 (by decide) (by decide)).trans hM
          obtain ⟨b, wd, hg, b1, b2, b3, -⟩ := vw w hwl
          have eb : hN h (4 + 3 * w) = b := by unfold hN; rw [b1, cl_nI (by omega)]
          have cw : Con 1 mRef_wall [aR 11 0 0, aI (nI w), aI 0] M3 (some (aI (nI b))) M3 := by
            rw [← b1, ← h4]
            exact c_Ref_wall w 0 M3 (by omega) (by omega)
          have st : ∀ x : Int32, x.toInt = mxF (fun w => On h w p) (fun w => (hN h (4 + 3 * w) : Int)) (hN h (29 + 5 * p) : Int) (w + 1) → J 132 [some (aR 11 0 0), some (aI (nI p)), some (aI e2), some (aI (nI w))] [aI x, aI (nI p), aR 11 0 11] M3 := by
            intro x hx
            refine hgo [] _ _ _ _ ?_
            refine ob_ (vp_in_nI (by omega) (by omega)) ?_
            refine ih2 (w + 1) _ _ (by omega) (by omega) (nI_1 w) hK.s1 (fun q hq => ?_) h2 ?_
            · show (upd (M3 11 0 11) (nI p).toNatClampNeg x q).toInt = _ ∧ (M3 11 0 12 q).toInt = _
              rw [hpc, upd_n (by omega)]
              exact h1 q hq
            · show (upd (M3 11 0 11) (nI p).toNatClampNeg x p).toInt = _
              rw [hpc, upd_s]
              exact hx
          have s6 : (M3 11 0 11 p).toInt = mxF (fun w => On h w p) (fun w => (hN h (4 + 3 * w) : Int)) (hN h (29 + 5 * p) : Int) (w + 1) → J 126 [some (aR 11 0 0), some (aI (nI p)), some (aI e2), some (aI (nI w))] [aI (nI p), aR 11 0 11] M3 := by
            intro hx
            refine hgo [132] _ _ _ _ ?_
            refine ob_ (vp_in_nI (by omega) (by omega)) ?_
            refine st _ ?_
            rw [hpc]
            exact hx
          refine hgo [126, 132] _ _ _ _ ?_
          refine ob_ (vp_in_nI (n := 0) (N := 198) (by omega) (by omega)) ?_
          refine brf (by show ¬ M3 11 0 4 0 ≤ nI w; rw [h4, v0]; exact nI_ge hwl (by omega)) ?_
          refine ob_ (vp_in_nI (by omega) (by omega)) ?_
          refine cle (c_Ref_isIn (On h w) p M3 (by omega)) (by rw [hwc, hK.2 7 (by decide) (by decide), hon w (by omega)]) rfl ?_
          refine brb (fun g => ?_) (fun g => ?_)
          · refine s6 ?_
            unfold mxF
            rw [if_neg g]
            exact h3
          · refine cl_ cw ?_
            refine ob_ (vp_in_nI (by omega) (by omega)) ?_
            refine br_ (fun g2 => ?_) (fun g2 => ?_)
            · refine s6 ?_
              rw [hpc, i3_le, i3_n (by omega)] at g2
              unfold mxF
              rw [if_pos g, ← h3, eb]
              omega
            · refine cl_ cw ?_
              refine st _ ?_
              rw [hpc, i3_le, i3_n (by omega)] at g2
              unfold mxF
              rw [if_pos g, ← h3, eb, i3_n (by omega)]
              omega
      have s71 : ∀ (e2 x : Int32) M3, x.toInt = cap h p → KY M3 M → (∀ q, q < p → (M3 11 0 11 q).toInt = bL h q ∧ (M3 11 0 12 q).toInt = cap h q) → M3 11 0 11 p = nI md → J 71 [some (aR 11 0 0), some (aI (nI p)), some (aI e2), z3] [aI x, aI (nI p), aR 11 0 12] M3 := by
        intro e2 x M3 hx hK h1 h2
        refine hgo [74] _ _ _ _ ?_
        refine ob_ (vp_in_nI (by omega) (by omega)) ?_
        refine walls _ _ 0 _ _ rfl (by omega) rfl hK.s2 (fun q hq => ?_) ?_ ?_
        · show (M3 11 0 11 q).toInt = _ ∧ (upd (M3 11 0 12) (nI p).toNatClampNeg x q).toInt = _
          rw [hpc, upd_n (by omega)]
          exact h1 q hq
        · show (upd (M3 11 0 12) (nI p).toNatClampNeg x p).toInt = _
          rw [hpc, upd_s]
          exact hx
        · show (M3 11 0 11 p).toInt = (hN h (29 + 5 * p) : Int)
          rw [h2, i3_n (by omega)]
          unfold hN
          rw [m1, cl_nI (by omega)]
      have s37 : J 37 [some (aR 11 0 0), some (aI (nI p)), z2, z3] [aI (b2i (kd = 2 ∨ kd = 3))] M2 := by
        refine hgo [71] _ _ _ _ ?_
        refine cl_ (c1 M2 h4) ?_
        refine ob_ (vp_in_nI (by omega) (by omega)) ?_
        have h1' : ∀ q, q < p → ((sA M2 11 0 11 (upd (M2 11 0 11) (nI p).toNatClampNeg (nI md))) 11 0 11 q).toInt = bL h q ∧ ((sA M2 11 0 11 (upd (M2 11 0 11) (nI p).toNatClampNeg (nI md))) 11 0 12 q).toInt = cap h q := by
          intro q hq
          show (upd (M2 11 0 11) (nI p).toNatClampNeg (nI md) q).toInt = _ ∧ (M2 11 0 12 q).toInt = _
          rw [hpc, upd_n (by omega)]
          exact h1 q hq
        have h2' : (sA M2 11 0 11 (upd (M2 11 0 11) (nI p).toNatClampNeg (nI md))) 11 0 11 p = nI md := by
          show upd (M2 11 0 11) (nI p).toNatClampNeg (nI md) p = _
          rw [hpc, upd_s]
        refine brb (fun g => ?_) (fun g => ?_)
        · refine hgo [71] _ _ _ _ ?_
          refine s71 _ _ _ ?_ hK.s1 h1' h2'
          unfold cap
          rw [ekd, if_neg g]
          decide
        · refine cl_ (c2 _ (by exact h4)) ?_
          refine s71 _ _ _ ?_ hK.s1 h1' h2'
          unfold cap
          rw [ekd, if_pos g, ela, i3_n (by omega)]
      have n3 : nI kd = 3 ↔ kd = 3 := nI_eq (b := 3) (by omega) (by omega)
      have n2 : nI kd = 2 ↔ kd = 2 := nI_eq (b := 2) (by omega) (by omega)
      have s32 : (kd = 2 ∨ kd = 3) → J 32 [some (aR 11 0 0), some (aI (nI p)), z2, z3] [] M2 := by
        intro g
        refine hgo [37] _ _ _ _ ?_
        rw [b2i_t g] at s37
        exact s37
      refine hgo [32, 37] _ _ _ _ ?_
      refine ob_ (vp_in_nI (n := 1) (N := 198) (by omega) (by omega)) ?_
      refine brf (by show ¬ M2 11 0 4 1 ≤ nI p; rw [h4, v1]; exact nI_ge hlt (by omega)) ?_
      refine cl_ (c0 M2 h4) ?_
      refine br_ (fun g => s32 (Or.inr (n3.mp g))) (fun g => ?_)
      refine cl_ (c0 M2 h4) ?_
      refine br_ (fun g2 => s32 (Or.inl (n2.mp g2))) (fun g2 => ?_)
      refine hgo [37] _ _ _ _ ?_
      rw [b2i_f (by rintro (q | q); exact g2 (n2.mpr q); exact g (n3.mpr q))] at s37
      exact s37
  refine hgo [2] _ _ _ _ ?_
  exact first _ 0 _ _ _ M rfl (by omega) rfl ⟨fun _ _ => rfl, fun _ _ _ => rfl⟩ (fun q hq => by omega)
