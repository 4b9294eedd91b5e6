/-! the order -/
theorem IsL_or (f : Nat → Bool) : (∃ p, IsL f p) ∨ ∀ p, p < 10 → f p = false := by
  have h : ∀ n, n ≤ 10 → (∃ p, IsL f p) ∨ ∀ p, p < n → f p = false := by
    intro n
    induction n with
    | zero => intro _; exact Or.inr (fun p hp => by omega)
    | succ n ih =>
      intro hn
      rcases ih (by omega) with h | h
      · exact Or.inl h
      · by_cases hf : f n = true
        · exact Or.inl ⟨n, by omega, hf, h⟩
        · refine Or.inr (fun p hp => ?_)
          by_cases e : p = n
          · rw [e]; exact Bool.eq_false_iff.mpr hf
          · exact h p (by omega)
  exact h 10 (by omega)
theorem c_Facts_canFollow (h : Nat → Int32) (S : Nat → Bool) (p : Nat) (M : am_M) (h1 : M 7 0 0 2 = bs (Seen h)) (h2 : M 7 0 2 p = bs (Ah h p)) (hp : p < 10) : Con 2 mFacts_canFollow [aR 7 0 0, aI (bs S), aI (nI p)] M (some (aI (b2i (fo h S p = true)))) M := by
  have hpc : (nI p).toNatClampNeg = p := cl_nI (by omega)
  refine con_of okFacts_canFollow [some (aR 7 0 0), some (aI (bs S)), some (aI (nI p))] (some .boolean) ?_
  intro J hgo
  have no : fo h S p = false → J 32 [some (aR 7 0 0), some (aI (bs S)), some (aI (nI p))] [] M := by
    intro hf
    refine hgo [] _ _ _ _ ?_
    refine ob_ (by decide) ⟨?_, rfl⟩
    rw [b2i_f (by rw [hf]; decide)]
  refine hgo [] _ _ _ _ ?_
  refine cle (c_Main_has (fun i => Seen h i && !S i) p M hp) (by show [aI (M 7 0 0 2 &&& (bs S ^^^ -1)), aI (nI p)] = _; rw [h1, bs_andn]) rfl ?_
  refine brb (fun g1 => ?_) (fun g1 => ?_)
  · refine no ?_
    unfold fo
    rw [Bool.eq_false_iff.mpr g1]
    rfl
  · refine ob_ (vp_in_nI (by omega) (by omega)) ?_
    refine br_ (fun g2 => ?_) (fun g2 => ?_)
    · rw [hpc, h2, bs_andn, bs_zero] at g2
      refine hgo [] _ _ _ _ ?_
      refine ob_ (by decide) ⟨?_, rfl⟩
      have e : exB (fun q => Ah h p q && !S q) 10 = false := by
        rw [← Bool.not_eq_true]
        intro hx
        obtain ⟨q, hq, hx⟩ := exB_iff.mp hx
        rw [g2 q hq] at hx
        cases hx
      rw [b2i_t (by unfold fo; rw [g1, e]; rfl)]
    · rw [hpc, h2, bs_andn, bs_zero] at g2
      refine no ?_
      have e : exB (fun q => Ah h p q && !S q) 10 = true := by
        rw [← Bool.not_eq_false]
        intro hx
        apply g2
        intro q hq
        rw [← Bool.not_eq_true]
        intro hy
        rw [exB_iff.mpr ⟨q, hq, hy⟩] at hx
        cases hx
      unfold fo
      rw [e]
      simp
theorem c_least (h : Nat → Int32) (S : Nat → Bool) (x : Int32) (M : am_M) (h1 : M 7 0 0 2 = bs (Seen h)) (h2 : ∀ p, p < 10 → M 7 0 2 p = bs (Ah h p)) (hx : (∃ p, IsL (fo h S) p ∧ x = nI p) ∨ (x = -1 ∧ ∀ p, p < 10 → fo h S p = false)) : Con 3 mFacts_leastThatFollows [aR 7 0 0, aI (bs S)] M (some (aI x)) M := by
  refine con_of okFacts_leastThatFollows [some (aR 7 0 0), some (aI (bs S)), none] (some .int) ?_
  intro J hgo
  have loop : ∀ m c cv, m = 10 - c → c ≤ 10 → cv = nI c → (∀ q, q < c → fo h S q = false) → J 2 [some (aR 7 0 0), some (aI (bs S)), some (aI cv)] [] M := by
    intro m
    induction m with
    | zero =>
      intro c cv hm hc hv hf
      obtain rfl : c = 10 := by omega
      subst hv
      refine hgo [] _ _ _ _ ?_
      refine brt (by decide) ?_
      refine hgo [] _ _ _ _ ?_
      refine ⟨?_, rfl⟩
      rcases hx with ⟨p, g1, g2⟩ | ⟨g1, g2⟩
      · have := hf p g1.1
        rw [g1.2.1] at this
        cases this
      · rw [g1]
    | succ m ih =>
      intro c cv hm hc hv hf
      subst hv
      have hc10 : c < 10 := by omega
      refine hgo [] _ _ _ _ ?_
      refine brf (nI_ge (b := 10) hc10 (by omega)) ?_
      refine cl_ (c_Facts_canFollow h S c M h1 (h2 c hc10) hc10) ?_
      refine brb (fun g1 => ?_) (fun g1 => ?_)
      · refine hgo [] _ _ _ _ ?_
        refine ih (c + 1) _ (by omega) (by omega) (nI_1 c) (fun q hq => ?_)
        by_cases e : q = c
        · rw [e]; exact Bool.eq_false_iff.mpr g1
        · exact hf q (by omega)
      · refine ⟨?_, rfl⟩
        rcases hx with ⟨p, g2, g3⟩ | ⟨g2, g3⟩
        · have e : p = c := by
            by_cases l1 : p < c
            · have := hf p l1
              rw [g2.2.1] at this
              cases this
            · by_cases l2 : c < p
              · have := g2.2.2 c l2
                rw [g1] at this
                cases this
              · omega
          rw [g3, e]
        · rw [g3 c hc10] at g1
          cases g1
  refine hgo [2] _ _ _ _ ?_
  exact loop _ 0 _ rfl (by omega) rfl (fun q hq => by omega)
theorem cB_add {f : Nat → Bool} {x : Nat} : ∀ {n : Nat}, x < n → f x = false → cB (fun p => f p || (x == p)) n = cB f n + 1 := by
  intro n
  induction n with
  | zero => intro h; omega
  | succ n ih =>
    intro hx hf
    unfold cB
    by_cases e : x = n
    · subst e
      have e2 : ∀ m, m ≤ x → cB (fun p => f p || (x == p)) m = cB f m := by
        intro m
        induction m with
        | zero => intro _; rfl
        | succ m ih2 =>
          intro hm
          unfold cB
          rw [ih2 (by omega)]
          have : (x == m) = false := beq_eq_false_iff_ne.mpr (by omega)
          simp [this]
      rw [e2 x (Nat.le_refl _)]
      simp [hf]
    · rw [ih (by omega) hf]
      have : (x == n) = false := beq_eq_false_iff_ne.mpr e
      simp only [this, Bool.or_false]
      omega
theorem cB_full {f : Nat → Bool} : ∀ {n : Nat}, cB f n = n → ∀ i, i < n → f i = true := by
  intro n
  induction n with
  | zero => intro _ i hi; omega
  | succ n ih =>
    intro hc i hi
    unfold cB at hc
    have := cB_n f n
    by_cases hf : f n = true
    · rw [if_pos hf] at hc
      by_cases e : i = n
      · rw [e]; exact hf
      · exact ih (by omega) i (by omega)
    · rw [if_neg hf] at hc
      omega
theorem gG_cong {g g2 : Nat → Nat} : ∀ {i : Nat}, (∀ j, j < i → g2 j = g j) → gG g2 i = gG g i := by
  intro i
  induction i with
  | zero => intro _; rfl
  | succ i ih =>
    intro h
    funext p
    show (gG g2 i p || (g2 i == p)) = (gG g i p || (g i == p))
    rw [ih (fun j hj => h j (by omega)), h i (by omega)]
