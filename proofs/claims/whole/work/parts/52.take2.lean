/-! take -/
theorem c_House_take (j i : Nat) (h : Nat → Int32) (M : am_M) (hij : i ≠ j) (hv : HV h) (hw : RHw (M 4 i) h) (hp : RHp (M 4 i) h) (ht : RHt (M 4 i) h) : ConP 3 mHouse_take [aR 4 j 0, aR 4 i 0] M (fun r M2 => r = none ∧ HSame M M2 j ∧ RHw (M2 4 j) h ∧ RHp (M2 4 j) h ∧ RHt (M2 4 j) h) := by
  obtain ⟨⟨v0, w8⟩, ⟨v1, p10⟩, ⟨v2, t10⟩, -, -, -, -, -⟩ := id hv
  obtain ⟨hw0, hw1⟩ := id hw
  obtain ⟨hp0, hp1⟩ := id hp
  obtain ⟨ht0, ht1⟩ := id ht
  rw [v0] at hw0
  rw [v1] at hp0
  rw [v2] at ht0
  refine con_of okHouse_take [some (aR 4 j 0), some (aR 4 i 0), none] none ?_
  intro J hgo
  have lt : ∀ m c cv M2, m = nT h - c → c ≤ nT h → cv = nI c → (HSame M M2 j) → (RHw (M2 4 j) h) → (RHp (M2 4 j) h) → (M2 4 j 0 10 = nI c) → (∀ q, q < c → M2 4 j 9 q = h (78 + 3 * q) ∧ M2 4 j 10 q = h (79 + 3 * q) ∧ M2 4 j 11 q = h (80 + 3 * q)) → J 94 [some (aR 4 j 0), some (aR 4 i 0), some (aI cv)] [] M2 := by
    intro m
    induction m with
    | zero =>
      intro c cv M2 hm hc hv i0 r0 r1 is ia
      obtain rfl : c = nT h := by omega
      subst hv
      refine hgo [] _ _ _ _ ?_
      refine brt (show M2 4 i 0 10 ≤ nI (nT h) by rw [i0.2 i hij, ht0]; exact nI_le (Nat.le_refl _) (by omega)) ?_
      refine hgo [] _ _ _ _ ?_
      exact ⟨rfl, i0, r0, r1, by rw [is, v2], ia⟩
    | succ m ih =>
      intro c cv M2 hm hc hv i0 r0 r1 is ia
      subst hv
      have hlt : c < nT h := by omega
      have hcl : (nI c).toNatClampNeg = c := cl_nI (by omega)
      refine hgo [] _ _ _ _ ?_
      refine brf (show ¬ M2 4 i 0 10 ≤ nI c by rw [i0.2 i hij, ht0]; exact nI_ge hlt (by omega)) ?_
      refine ob_ (vp_in_nI (by omega) (by omega)) ?_
      refine ob_ (vp_in_nI (by omega) (by omega)) ?_
      refine ob_ (vp_in_nI (by omega) (by omega)) ?_
      refine clp (c_House_addTenant j c _ _ _ M2 is (by omega)) ?_
      rintro r M3 ⟨rfl, a0, a1, b0, b1, b2, a2⟩
      refine ih (c + 1) _ M3 (by omega) (by omega) (nI_1 c) (i0.tr a0) ⟨by rw [a1, upd_n (by decide)]; exact r0.1, fun q hq => by rw [a2 1 (by decide) (by decide), a2 2 (by decide) (by decide), a2 3 (by decide) (by decide)]; exact r0.2 q hq⟩ ⟨by rw [a1, upd_n (by decide)]; exact r1.1, fun q hq => by rw [a2 4 (by decide) (by decide), a2 5 (by decide) (by decide), a2 6 (by decide) (by decide), a2 7 (by decide) (by decide), a2 8 (by decide) (by decide)]; exact r1.2 q hq⟩ (by rw [a1]; exact upd_s) (fun q hq => ?_)
      obtain ⟨e0, e1, e2⟩ := ht1 c hlt
      by_cases hqc : q = c
      · subst hqc
        rw [b0, b1, b2]
        refine ⟨?_, ?_, ?_⟩ <;> rw [upd_s, i0.2 i hij, hcl]
        · exact e0
        · exact e1
        · exact e2
      · rw [b0, b1, b2, upd_n hqc, upd_n hqc, upd_n hqc]
        exact ia q (by omega)
  have lp : ∀ m c cv M2, m = nP h - c → c ≤ nP h → cv = nI c → (HSame M M2 j) → (RHw (M2 4 j) h) → (M2 4 j 0 4 = nI c) → (M2 4 j 0 10 = 0) → (∀ q, q < c → M2 4 j 4 q = h (28 + 5 * q) ∧ M2 4 j 5 q = h (29 + 5 * q) ∧ M2 4 j 6 q = h (30 + 5 * q) ∧ M2 4 j 7 q = h (31 + 5 * q) ∧ M2 4 j 8 q = h (32 + 5 * q)) → J 44 [some (aR 4 j 0), some (aR 4 i 0), some (aI cv)] [] M2 := by
    intro m
    induction m with
    | zero =>
      intro c cv M2 hm hc hv i0 r0 is z0 ia
      obtain rfl : c = nP h := by omega
      subst hv
      refine hgo [] _ _ _ _ ?_
      refine brt (show M2 4 i 0 4 ≤ nI (nP h) by rw [i0.2 i hij, hp0]; exact nI_le (Nat.le_refl _) (by omega)) ?_
      refine hgo [94] _ _ _ _ ?_
      exact lt _ 0 _ M2 rfl (by omega) rfl i0 r0 ⟨by rw [is, v1], ia⟩ z0 (fun q hq => by omega)
    | succ m ih =>
      intro c cv M2 hm hc hv i0 r0 is z0 ia
      subst hv
      have hlt : c < nP h := by omega
      have hcl : (nI c).toNatClampNeg = c := cl_nI (by omega)
      refine hgo [] _ _ _ _ ?_
      refine brf (show ¬ M2 4 i 0 4 ≤ nI c by rw [i0.2 i hij, hp0]; exact nI_ge hlt (by omega)) ?_
      refine ob_ (vp_in_nI (by omega) (by omega)) ?_
      refine ob_ (vp_in_nI (by omega) (by omega)) ?_
      refine ob_ (vp_in_nI (by omega) (by omega)) ?_
      refine ob_ (vp_in_nI (by omega) (by omega)) ?_
      refine ob_ (vp_in_nI (by omega) (by omega)) ?_
      refine clp (c_House_addPaper j c _ _ _ _ _ M2 is (by omega)) ?_
      rintro r M3 ⟨rfl, a0, a1, b0, b1, b2, b3, b4, a2⟩
      refine ih (c + 1) _ M3 (by omega) (by omega) (nI_1 c) (i0.tr a0) ⟨by rw [a1, upd_n (by decide)]; exact r0.1, fun q hq => by rw [a2 1 (by decide) (by decide), a2 2 (by decide) (by decide), a2 3 (by decide) (by decide)]; exact r0.2 q hq⟩ (by rw [a1]; exact upd_s) (by rw [a1, upd_n (by decide)]; exact z0) (fun q hq => ?_)
      obtain ⟨e0, e1, e2, e3, e4⟩ := hp1 c hlt
      by_cases hqc : q = c
      · subst hqc
        rw [b0, b1, b2, b3, b4]
        refine ⟨?_, ?_, ?_, ?_, ?_⟩ <;> rw [upd_s, i0.2 i hij, hcl]
        · exact e0
        · exact e1
        · exact e2
        · exact e3
        · exact e4
      · rw [b0, b1, b2, b3, b4, upd_n hqc, upd_n hqc, upd_n hqc, upd_n hqc, upd_n hqc]
        exact ia q (by omega)
  have lw : ∀ m c cv M2, m = nW h - c → c ≤ nW h → cv = nI c → (HSame M M2 j) → (M2 4 j 0 0 = nI c) → (M2 4 j 0 4 = 0) → (M2 4 j 0 10 = 0) → (∀ q, q < c → M2 4 j 1 q = h (4 + 3 * q) ∧ M2 4 j 2 q = h (5 + 3 * q) ∧ M2 4 j 3 q = h (6 + 3 * q)) → J 6 [some (aR 4 j 0), some (aR 4 i 0), some (aI cv)] [] M2 := by
    intro m
    induction m with
    | zero =>
      intro c cv M2 hm hc hv i0 is z0 z1 ia
      obtain rfl : c = nW h := by omega
      subst hv
      refine hgo [] _ _ _ _ ?_
      refine brt (show M2 4 i 0 0 ≤ nI (nW h) by rw [i0.2 i hij, hw0]; exact nI_le (Nat.le_refl _) (by omega)) ?_
      refine hgo [44] _ _ _ _ ?_
      exact lp _ 0 _ M2 rfl (by omega) rfl i0 ⟨by rw [is, v0], ia⟩ z0 z1 (fun q hq => by omega)
    | succ m ih =>
      intro c cv M2 hm hc hv i0 is z0 z1 ia
      subst hv
      have hlt : c < nW h := by omega
      have hcl : (nI c).toNatClampNeg = c := cl_nI (by omega)
      refine hgo [] _ _ _ _ ?_
      refine brf (show ¬ M2 4 i 0 0 ≤ nI c by rw [i0.2 i hij, hw0]; exact nI_ge hlt (by omega)) ?_
      refine ob_ (vp_in_nI (by omega) (by omega)) ?_
      refine ob_ (vp_in_nI (by omega) (by omega)) ?_
      refine ob_ (vp_in_nI (by omega) (by omega)) ?_
      refine clp (c_House_addWall j c _ _ _ M2 is (by omega)) ?_
      rintro r M3 ⟨rfl, a0, a1, b0, b1, b2, a2⟩
      refine ih (c + 1) _ M3 (by omega) (by omega) (nI_1 c) (i0.tr a0) (by rw [a1]; exact upd_s) (by rw [a1, upd_n (by decide)]; exact z0) (by rw [a1, upd_n (by decide)]; exact z1) (fun q hq => ?_)
      obtain ⟨e0, e1, e2⟩ := hw1 c hlt
      by_cases hqc : q = c
      · subst hqc
        rw [b0, b1, b2]
        refine ⟨?_, ?_, ?_⟩ <;> rw [upd_s, i0.2 i hij, hcl]
        · exact e0
        · exact e1
        · exact e2
      · rw [b0, b1, b2, upd_n hqc, upd_n hqc, upd_n hqc]
        exact ia q (by omega)
  refine hgo [6] _ _ _ _ ?_
  refine clp (c_House_clear j M) ?_
  rintro r M2 ⟨rfl, a0, a1, a2, a3⟩
  exact lw _ 0 _ M2 rfl (by omega) rfl a0 a1 a2 a3 (fun q hq => by omega)
def SSame (M M2 : am_M) (j : Nat) : Prop := (∀ k, k ≠ 5 → M2 k = M k) ∧ ∀ i, i ≠ j → M2 5 i = M 5 i
theorem SSame.tr {M M1 M2 : am_M} {j : Nat} (h1 : SSame M M1 j) (h2 : SSame M1 M2 j) : SSame M M2 j := ⟨fun k hk => (h2.1 k hk).trans (h1.1 k hk), fun i hi => (h2.2 i hi).trans (h1.2 i hi)⟩
theorem SSame.sa {M : am_M} {j o : Nat} {f : Nat → Int32} : SSame M (sA M 5 j o f) j := ⟨fun _ hk => sA_k hk, fun _ hi => sA_j hi⟩
theorem c_Spots_take (j i : Nat) (h : Nat → Int32) (M : am_M) (hij : i ≠ j) (hv : HV h) (hs : RHs (M 5 i) h) : ConP 3 mSpots_take [aR 5 j 0, aR 5 i 0] M (fun r M2 => r = none ∧ SSame M M2 j ∧ RHs (M2 5 j) h) := by
  obtain ⟨-, -, -, ⟨v3, s9⟩, -, -, -, hsp⟩ := id hv
  refine con_of okSpots_take [some (aR 5 j 0), some (aR 5 i 0)] none ?_
  intro J hgo
  refine hgo [] _ _ _ _ ?_
  refine ob_ (by decide) ?_
  refine ob_ (by decide) ?_
  refine ob_ (by decide) ?_
  refine ⟨rfl, ((SSame.sa.tr SSame.sa).tr SSame.sa).tr SSame.sa, ?_, ?_⟩
  · rw [sA_o (by decide), sA_o (by decide), sA_o (by decide), sA_s, upd_s]
    exact hs.1
  · intro s hs2
    obtain ⟨g1, g2, g3⟩ := hs.2 s hs2
    obtain ⟨-, -, -, -, d8, -⟩ := hsp s hs2
    refine ⟨?_, ?_, ?_⟩
    · rw [sA_o (by decide), sA_o (by decide), sA_s, sA_j hij, ← g1]
      simp only [va_cpy, Int32.reduceToNatClampNeg]
      rw [if_pos (by omega)]
      congr 1
      omega
    · rw [sA_o (by decide), sA_s, sA_j hij, sA_j hij, ← g2]
      simp only [va_cpy, Int32.reduceToNatClampNeg]
      rw [if_pos (by omega)]
      congr 1
      omega
    · intro k hk
      rw [sA_s, sA_j hij, sA_j hij, sA_j hij, ← g3 k hk]
      simp only [va_cpy, Int32.reduceToNatClampNeg]
      rw [if_pos (by omega)]
      congr 1
      omega
