theorem c_Ref_painted (n : Nat) (f : Nat → Bool) (x : Int32) (wd : Nat → Int32) (M : am_M) (hn : M 11 0 4 0 = nI n) (h8 : n ≤ 8) (hd : ∀ w, w < n → M 11 0 4 (4 + 3 * w + 1) = wd w) : Con 3 mRef_painted [aR 11 0 0, aI (bs f), aI x] M (some (aI (if x = 1 then (wS f wd n + 499) / 500 else 0))) M := by
  refine con_of okRef_painted [some (aR 11 0 0), some (aI (bs f)), some (aI x), none, none] (some .int) ?_
  intro J hgo
  have loop : ∀ m c cv y, m = n - c → c ≤ n → cv = nI c → y = wS f wd c → J 5 [some (aR 11 0 0), some (aI (bs f)), some (aI x), some (aI y), some (aI cv)] [] M := by
    intro m
    induction m with
    | zero =>
      intro c cv y hm hc hv hy
      obtain rfl : c = n := by omega
      subst hv hy
      refine hgo [] _ _ _ _ ?_
      refine ob_ (vp_in_nI (n := 0) (N := 198) (by omega) (by omega)) ?_
      refine brt (show M 11 0 4 0 ≤ nI c by rw [hn]; exact nI_le (Nat.le_refl _) (by omega)) ?_
      refine hgo [] _ _ _ _ ?_
      refine br_ (fun h1 => ?_) (fun h1 => ?_)
      · refine ob_ (by decide) ?_
        refine hgo [] _ _ _ _ ?_
        refine ⟨?_, rfl⟩
        rw [if_pos h1]
      · refine hgo [] _ _ _ _ ?_
        refine ⟨?_, rfl⟩
        rw [if_neg h1]
    | succ m ih =>
      intro c cv y hm hc hv hy
      subst hv hy
      have hlt : c < n := by omega
      have nx : ∀ y, wS f wd c + y = wS f wd (c + 1) → J 37 [some (aR 11 0 0), some (aI (bs f)), some (aI x), some (aI (wS f wd c)), some (aI (nI c))] [aI y, aI (wS f wd c)] M := by
        intro y hy
        refine hgo [] _ _ _ _ ?_
        exact ih (c + 1) _ _ (by omega) (by omega) (nI_1 c) hy
      refine hgo [37] _ _ _ _ ?_
      refine ob_ (vp_in_nI (n := 0) (N := 198) (by omega) (by omega)) ?_
      refine brf (show ¬ M 11 0 4 0 ≤ nI c by rw [hn]; exact nI_ge hlt (by omega)) ?_
      refine cl_ (c_Ref_isIn f c _ (by omega)) ?_
      refine brb (fun h1 => ?_) (fun h1 => ?_)
      · refine hgo [37] _ _ _ _ ?_
        refine nx _ ?_
        show _ = if f c = true then _ else _
        rw [if_neg h1, Int32.add_zero]
      · refine cl_ (c_Ref_wall c 1 _ (by omega) (by omega)) ?_
        refine nx _ ?_
        show _ = if f c = true then _ else _
        rw [if_pos h1, hd c hlt]
  refine hgo [5] _ _ _ _ ?_
  exact loop _ 0 _ _ rfl (by omega) rfl rfl
def pick (x : Int32) (s : Int32 × Int32 × Int32) : Int32 := if x = 0 then s.1 else if x = 1 then s.2.1 else s.2.2
theorem c_Ref_rolls_bad (np nw : Nat) (p y x : Int32) (M : am_M) (hnp : M 11 0 4 1 = nI np) (h10 : np ≤ 10) (hn : M 11 0 4 0 = nI nw) (h8 : nw ≤ 8) (hb : ¬ ((0 ≤ p.toInt ∧ p.toInt < np) ∧ (0 ≤ y.toInt ∧ y.toInt < (2 ^ nw : Nat)) ∧ (0 ≤ x ∧ x ≤ 2))) : Con 4 mRef_rolls [aR 11 0 0, aI p, aI y, aI x] M (some (aI (-1000001))) (rT M) := by
  refine con_of okRef_rolls [some (aR 11 0 0), some (aI p), some (aI y), some (aI x), none, none, none, none, none, none, none] (some .int) ?_
  intro J hgo
  have p45 : J 45 [some (aR 11 0 0), some (aI p), some (aI y), some (aI x), none, none, none, none, none, none, none] [] (rT M) := by
    refine hgo [] _ _ _ _ ?_
    exact ⟨rfl, rfl⟩
  refine hgo [45] _ _ _ _ ?_
  refine cl_ (c_Ref_isPaper np p _ hnp (by omega)) ?_
  refine brb (fun h1 => p45) (fun h1 => ?_)
  refine ob_ (vp_in_nI (n := 0) (N := 198) (by omega) (by omega)) ?_
  refine cl_ (c_Ref_in y 0 ((1 : Int32) <<< (M 11 0 4 0 &&& 31) - 1) _ _ _ rfl (by decide) rfl _) ?_
  refine brb (fun h2 => p45) (fun h2 => ?_)
  rw [hn, setIn (by omega)] at h2
  refine cl_ (c_Ref_in x 0 2 _ _ _ rfl (by decide) (by decide) _) ?_
  refine brbf (fun h3 => hb ⟨h1, h2, h3⟩) ?_
  exact p45
theorem c_Ref_rolls_ok (np nw p kd re : Nat) (wd : Nat → Nat) (hgI : Nat → Int32) (f : Nat → Bool) (y x : Int32) (M : am_M) (hnp : M 11 0 4 1 = nI np) (h10 : np ≤ 10) (hn : M 11 0 4 0 = nI nw) (h8 : nw ≤ 8) (hp : p < np) (hy : 0 ≤ y.toInt ∧ y.toInt < (2 ^ nw : Nat)) (hyf : y = bs f) (hx : 0 ≤ x ∧ x ≤ 2) (hk : M 11 0 4 (28 + 5 * p) = nI kd) (hk5 : kd ≤ 5) (hre : M 11 0 4 (28 + 5 * p + 4) = nI re) (r1 : 1 ≤ re) (r2 : re ≤ 99) (hd : ∀ w, w < nw → M 11 0 4 (4 + 3 * w + 1) = nI (wd w) ∧ wd w ≤ 999 ∧ M 11 0 4 (4 + 3 * w + 2) = hgI w) : Con 4 mRef_rolls [aR 11 0 0, aI (nI p), aI y, aI x] M (some (aI (pick x (rlS kd f (fun w => nI (wd w)) (fun w => lenI (hgI w) (nI re)) (fun w => (wd w + 49) / 50) nw)))) (rT M) := by
  refine con_of okRef_rolls [some (aR 11 0 0), some (aI (nI p)), some (aI y), some (aI x), none, none, none, none, none, none, none] (some .int) ?_
  intro J hgo
  have outer : ∀ m c cv v4 a b l (z9 z10 : Option am_V), m = nw - c → c ≤ nw → cv = nI c → v4 = nI re → ¬ kd = 5 → (a, b, l) = cW f (fun w => lenI (hgI w) (nI re)) (fun w => (wd w + 49) / 50) c → J 85 [some (aR 11 0 0), some (aI (nI p)), some (aI y), some (aI x), some (aI v4), some (aI a), some (aI b), some (aI l), some (aI cv), z9, z10] [] (rT M) := by
    intro m
    induction m with
    | zero =>
      intro c cv v4 a b l z9 z10 hm hc hv h4 h5 hs
      obtain rfl : c = nw := by omega
      subst hv h4
      have e : ∀ r, r = pick x (a, b, l) → r = pick x (rlS kd f (fun w => nI (wd w)) (fun w => lenI (hgI w) (nI re)) (fun w => (wd w + 49) / 50) c) := by
        intro r hr
        unfold rlS
        rw [if_neg h5, ← hs]
        exact hr
      refine hgo [] _ _ _ _ ?_
      refine ob_ (vp_in_nI (n := 0) (N := 198) (by omega) (by omega)) ?_
      refine brt (show M 11 0 4 0 ≤ nI c by rw [hn]; exact nI_le (Nat.le_refl _) (by omega)) ?_
      refine hgo [] _ _ _ _ ?_
      refine br_ (fun h1 => ?_) (fun h1 => ?_)
      · refine hgo [] _ _ _ _ ?_
        refine ⟨?_, rfl⟩
        rw [e _ (show a = pick x (a, b, l) by unfold pick; rw [if_pos h1])]
      · refine hgo [] _ _ _ _ ?_
        refine br_ (fun h2 => ?_) (fun h2 => ?_)
        · refine hgo [] _ _ _ _ ?_
          refine ⟨?_, rfl⟩
          rw [e _ (show b = pick x (a, b, l) by unfold pick; rw [if_neg h1, if_pos h2])]
        · refine hgo [] _ _ _ _ ?_
          refine ⟨?_, rfl⟩
          rw [e _ (show l = pick x (a, b, l) by unfold pick; rw [if_neg h1, if_neg h2])]
    | succ m ih =>
      intro c cv v4 a b l z9 z10 hm hc hv h4 h5 hs
      subst hv h4
      have hlt : c < nw := by omega
      obtain ⟨d1, d2, d3⟩ := hd c hlt
      have nx : ∀ a b l (z9 z10 : Option am_V), (a, b, l) = cW f (fun w => lenI (hgI w) (nI re)) (fun w => (wd w + 49) / 50) (c + 1) → J 189 [some (aR 11 0 0), some (aI (nI p)), some (aI y), some (aI x), some (aI (nI re)), some (aI a), some (aI b), some (aI l), some (aI (nI c)), z9, z10] [] (rT M) := by
        intro a b l z9 z10 hs
        refine hgo [] _ _ _ _ ?_
        exact ih (c + 1) _ _ _ _ _ _ _ (by omega) (by omega) (nI_1 c) rfl h5 hs
      have inner : ∀ q k kv v9 a2 b2 l2, q = (wd c + 49) / 50 - k → k ≤ (wd c + 49) / 50 → kv = nI (50 * k) → v9 = lenI (hgI c) (nI re) → f c = true → (a2, b2, l2) = cN (lenI (hgI c) (nI re)) k (a, b, l) → J 119 [some (aR 11 0 0), some (aI (nI p)), some (aI y), some (aI x), some (aI (nI re)), some (aI a2), some (aI b2), some (aI l2), some (aI (nI c)), some (aI v9), some (aI kv)] [] (rT M) := by
        intro q
        induction q with
        | zero =>
          intro k kv v9 a2 b2 l2 hq hk hv h9 hf hs2
          have hk : k = (wd c + 49) / 50 := by omega
          subst hv h9
          refine hgo [] _ _ _ _ ?_
          refine cl_ (c_Ref_wall c 1 _ (by omega) (by omega)) ?_
          refine brt (show M 11 0 4 (4 + 3 * c + 1) ≤ nI (50 * k) by rw [d1]; exact nI_le (by omega) (by omega)) ?_
          refine nx _ _ _ _ _ ?_
          unfold cW
          rw [if_pos hf, ← hs, hs2, hk]
        | succ q ih2 =>
          intro k kv v9 a2 b2 l2 hq hk hv h9 hf hs2
          subst hv h9
          have step : ∀ a3 b3 l3, (a3, b3, l3) = c1 (lenI (hgI c) (nI re)) (a2, b2, l2) → J 119 [some (aR 11 0 0), some (aI (nI p)), some (aI y), some (aI x), some (aI (nI re)), some (aI a3), some (aI b3), some (aI l3), some (aI (nI c)), some (aI (lenI (hgI c) (nI re))), some (aI (nI (50 * k) + 50))] [] (rT M) := by
            intro a3 b3 l3 h3
            refine ih2 (k + 1) _ _ _ _ _ (by omega) (by omega) ?_ rfl hf ?_
            · rw [show (50 : Int32) = nI 50 from rfl, nI_add]
              congr 1
            · rw [h3, hs2]
              rfl
          refine hgo [] _ _ _ _ ?_
          refine cl_ (c_Ref_wall c 1 _ (by omega) (by omega)) ?_
          refine brf (show ¬ M 11 0 4 (4 + 3 * c + 1) ≤ nI (50 * k) by rw [d1]; exact nI_ge (by omega) (by omega)) ?_
          refine cle (c_Ref_isIn f c (rT M) (by omega)) (by rw [hyf]) rfl ?_
          refine brbt hf ?_
          refine br_ (fun hl => ?_) (fun hl => ?_)
          · refine hgo [] _ _ _ _ ?_
            refine brt hl ?_
            refine hgo [] _ _ _ _ ?_
            refine step _ _ _ ?_
            unfold c1
            rw [if_neg (Int32.not_lt.mpr hl), if_neg (Int32.not_lt.mpr hl), Int32.add_zero]
          · refine hgo [] _ _ _ _ ?_
            refine brf hl ?_
            refine hgo [] _ _ _ _ ?_
            refine step _ _ _ ?_
            unfold c1
            rw [if_pos (Int32.not_le.mp hl), if_pos (Int32.not_le.mp hl)]
      refine hgo [119] _ _ _ _ ?_
      refine ob_ (vp_in_nI (n := 0) (N := 198) (by omega) (by omega)) ?_
      refine brf (show ¬ M 11 0 4 0 ≤ nI c by rw [hn]; exact nI_ge hlt (by omega)) ?_
      refine cl_ (c_Ref_wall c 2 _ (by omega) (by omega)) ?_
      refine ob_ (nI_ne0 (by omega) (by omega)) ?_
      by_cases hf : f c = true
      · refine inner _ 0 _ _ _ _ _ rfl (by omega) rfl ?_ hf rfl
        show (M 11 0 4 (4 + 3 * c + 2) + nI re - 1) / nI re * nI re = _
        rw [d3]
        rfl
      · refine hgo [] _ _ _ _ ?_
        refine cl_ (c_Ref_wall c 1 _ (by omega) (by omega)) ?_
        refine br_ (fun h1 => ?_) (fun h1 => ?_)
        · refine nx _ _ _ _ _ ?_
          unfold cW
          rw [if_neg hf, hs]
        · refine cle (c_Ref_isIn f c (rT M) (by omega)) (by rw [hyf]) rfl ?_
          refine brbf hf ?_
          refine nx _ _ _ _ _ ?_
          unfold cW
          rw [if_neg hf, hs]
  refine hgo [] _ _ _ _ ?_
  refine cl_ (c_Ref_isPaper np (nI p) _ hnp (by omega)) ?_
  refine brbt (by rw [i3_n (by omega)]; omega) ?_
  refine ob_ (vp_in_nI (n := 0) (N := 198) (by omega) (by omega)) ?_
  refine cl_ (c_Ref_in y 0 ((1 : Int32) <<< (M 11 0 4 0 &&& 31) - 1) _ _ _ rfl (by decide) rfl _) ?_
  refine brbt (by rw [hn, setIn (by omega)]; exact hy) ?_
  refine cl_ (c_Ref_in x 0 2 _ _ _ rfl (by decide) (by decide) _) ?_
  refine brbt hx ?_
  refine hgo [85] _ _ _ _ ?_
  refine cl_ (c_Ref_of p 0 _ (by omega) (by omega)) ?_
  refine br_ (fun h1 => ?_) (fun h1 => ?_)
  · have h5 : kd = 5 := (nI_eq (a := kd) (b := 5) (by omega) (by omega)).mp (by rw [← hk]; exact h1)
    refine cle (c_Ref_painted nw f x (fun w => nI (wd w)) (rT M) hn h8 (fun w hw => (hd w hw).1)) (by rw [hyf]) rfl ?_
    refine ⟨?_, rfl⟩
    unfold rlS pick
    rw [if_pos h5]
    by_cases hx0 : x = 0
    · subst hx0
      rfl
    · rw [if_neg hx0]
  · have h5 : ¬ kd = 5 := fun e => h1 (by show M 11 0 4 (28 + 5 * p) = 5; rw [hk, e]; rfl)
    refine hgo [85] _ _ _ _ ?_
    refine cl_ (c_Ref_of p 4 _ (by omega) (by omega)) ?_
    exact outer _ 0 _ _ _ _ _ _ _ rfl (by omega) rfl hre h5 rfl
