/-! the class's tokens -/
theorem Jc {J : Nat → am_L → List am_V → am_M → Prop} {pc : Nat} {lv : am_L} {st : List am_V} {M1 M2 : am_M} (e : M1 = M2) (h : J pc lv st M2) : J pc lv st M1 := e ▸ h
def TC (n : Nat) (t : Nat → Nat) (M : am_M) : Prop := n ≤ 500 ∧ M 2 0 0 1 = nI n ∧ (∀ i, i < n → M 2 0 1 i = nI (t i)) ∧ ∀ i, i < n → t i < 256
def RC (t : Nat → Nat) (S : PS) (M : am_M) : Prop := M 3 0 0 2 = nI (ss S) ∧ M 3 0 0 3 = nI (sb S) ∧ M 3 0 0 4 = nI (se S) ∧ M 3 0 0 6 = nI (sf S) ∧ (sf S ≠ 0 → M 3 0 0 7 = nI (sl S)) ∧ (ss S = 2 → M 3 0 0 5 = nI (nuv t S))
def K3 (M2 M : am_M) : Prop := ∀ k, k ≠ 3 → M2 k = M k
theorem K3.tr {M M1 M2 : am_M} (h1 : K3 M1 M) (h2 : K3 M2 M1) : K3 M2 M := fun k hk => (h2 k hk).trans (h1 k hk)
theorem TC_K3 {n : Nat} {t : Nat → Nat} {M M2 : am_M} (h : TC n t M) (hK : K3 M2 M) : TC n t M2 := by
  unfold TC
  rw [hK 2 (by decide)]
  exact h
theorem c_at (n : Nat) (t : Nat → Nat) (i : Nat) (M : am_M) (hT : TC n t M) (hi : i ≤ 1000) : Con 1 mTape_at [aR 2 0 0, aI (nI i)] M (some (aI (if i < n then nI (t i) else -1))) M := by
  obtain ⟨h1, h2, h3, h4⟩ := hT
  refine con_of okTape_at [some (aR 2 0 0), some (aI (nI i))] (some .int) ?_
  intro J hgo
  by_cases h : i < n
  · refine hgo [] _ _ _ _ ?_
    refine brf (nI_pos (by omega)) ?_
    refine brf (show ¬ M 2 0 0 1 ≤ nI i by rw [h2]; exact nI_ge h (by omega)) ?_
    refine ob_ (vp_in_nI (by omega) (by omega)) ?_
    refine hgo [] _ _ _ _ ?_
    refine ⟨?_, rfl⟩
    rw [cl_nI (by omega), h3 i h, if_pos h]
  · refine hgo [] _ _ _ _ ?_
    refine brf (nI_pos (by omega)) ?_
    refine brt (show M 2 0 0 1 ≤ nI i by rw [h2]; exact nI_le (by omega) (by omega)) ?_
    refine hgo [] _ _ _ _ ?_
    refine ⟨?_, rfl⟩
    rw [if_neg h]
theorem c_isBlank (c : Nat) (M : am_M) (hc : c < 256) : Con 1 mReader_isBlank [aI (nI c)] M (some (aI (b2i (isBl c = true)))) M := by
  have e1 : nI c = 32 ↔ c = 32 := nI_eq (b := 32) (by omega) (by omega)
  have e2 : nI c = 10 ↔ c = 10 := nI_eq (b := 10) (by omega) (by omega)
  refine con_of okReader_isBlank [some (aI (nI c))] (some .boolean) ?_
  intro J hgo
  have yes : isBl c = true → J 12 [some (aI (nI c))] [] M := by
    intro g
    refine hgo [] _ _ _ _ ?_
    refine hgo [] _ _ _ _ ?_
    refine ob_ (by decide) ⟨?_, rfl⟩
    rw [b2i_t g]
  refine hgo [12] _ _ _ _ ?_
  refine br_ (fun g => yes (decide_eq_true (Or.inl (e1.mp g)))) (fun g => ?_)
  refine br_ (fun g2 => yes (decide_eq_true (Or.inr (e2.mp g2)))) (fun g2 => ?_)
  refine hgo [] _ _ _ _ ?_
  refine ob_ (by decide) ⟨?_, rfl⟩
  rw [b2i_f]
  intro q
  rcases of_decide_eq_true q with q | q
  · exact g (e1.mpr q)
  · exact g2 (e2.mpr q)
theorem c_isLetter (c : Nat) (M : am_M) (hc : c < 256) : Con 1 mReader_isLetter [aI (nI c)] M (some (aI (b2i (isLe c = true)))) M := by
  refine con_of okReader_isLetter [some (aI (nI c))] (some .boolean) ?_
  intro J hgo
  have no : ¬ isLe c = true → J 16 [some (aI (nI c))] [] M := by
    intro g
    refine hgo [] _ _ _ _ ?_
    refine ob_ (by decide) ⟨?_, rfl⟩
    rw [b2i_f g]
  refine hgo [16] _ _ _ _ ?_
  refine br_ (fun g => ?_) (fun g => ?_)
  · have g : nI c < nI 97 := g
    rw [nI_ltI (by omega) (by omega)] at g
    exact no (fun q => by have := of_decide_eq_true q; omega)
  · have g : ¬ nI c < nI 97 := g
    rw [nI_ltI (by omega) (by omega)] at g
    refine br_ (fun g2 => ?_) (fun g2 => ?_)
    · have g2 : nI 122 < nI c := g2
      rw [nI_ltI (by omega) (by omega)] at g2
      exact no (fun q => by have := of_decide_eq_true q; omega)
    · have g2 : ¬ nI 122 < nI c := g2
      rw [nI_ltI (by omega) (by omega)] at g2
      refine hgo [] _ _ _ _ ?_
      refine ob_ (by decide) ⟨?_, rfl⟩
      rw [b2i_t (show isLe c = true from decide_eq_true (by omega))]
theorem c_isFigure (c : Nat) (M : am_M) (hc : c < 256) : Con 1 mReader_isFigure [aI (nI c)] M (some (aI (b2i (isFg c = true)))) M := by
  refine con_of okReader_isFigure [some (aI (nI c))] (some .boolean) ?_
  intro J hgo
  have no : ¬ isFg c = true → J 16 [some (aI (nI c))] [] M := by
    intro g
    refine hgo [] _ _ _ _ ?_
    refine ob_ (by decide) ⟨?_, rfl⟩
    rw [b2i_f g]
  refine hgo [16] _ _ _ _ ?_
  refine br_ (fun g => ?_) (fun g => ?_)
  · have g : nI c < nI 48 := g
    rw [nI_ltI (by omega) (by omega)] at g
    exact no (fun q => by have := of_decide_eq_true q; omega)
  · have g : ¬ nI c < nI 48 := g
    rw [nI_ltI (by omega) (by omega)] at g
    refine br_ (fun g2 => ?_) (fun g2 => ?_)
    · have g2 : nI 57 < nI c := g2
      rw [nI_ltI (by omega) (by omega)] at g2
      exact no (fun q => by have := of_decide_eq_true q; omega)
    · have g2 : ¬ nI 57 < nI c := g2
      rw [nI_ltI (by omega) (by omega)] at g2
      refine hgo [] _ _ _ _ ?_
      refine ob_ (by decide) ⟨?_, rfl⟩
      rw [b2i_t (show isFg c = true from decide_eq_true (by omega))]
theorem c_step0 (n : Nat) (t : Nat → Nat) (e0 f0 l0 : Nat) (M : am_M) (hT : TC n t M) (hen : e0 ≤ n) (r3 : M 3 0 0 4 = nI e0) (r4 : M 3 0 0 6 = nI f0) (r5 : f0 ≠ 0 → M 3 0 0 7 = nI l0) : ConP 2 mReader_step [aR 3 0 0] M (fun r M2 => r = none ∧ K3 M2 M ∧ RC t ((tk n t e0).1, (tk n t e0).2.1, (tk n t e0).2.2, f0, l0) M2) := by
  obtain ⟨h500, hlen, hby, h256⟩ := id hT
  obtain ⟨a1, a2, a3, a4⟩ := scan_in (P := isBl) (t := t) _ e0 rfl hen
  have tT : ∀ g, TC n t (sA M 3 0 0 g) := fun g => hT
  refine con_of okReader_step [some (aR 3 0 0), none] none ?_
  intro J hgo
  have fin : ∀ (b e s : Nat) (g : Nat → Int32) (z : Option am_V), tk n t e0 = (b, e, s) → g 2 = nI s → g 3 = nI b → g 4 = nI e → (s = 2 → g 5 = nI (vl t b (e - b))) → g 6 = M 3 0 0 6 → g 7 = M 3 0 0 7 → J 276 [some (aR 3 0 0), z] [] (sA M 3 0 0 g) := by
    intro b e s g z htk g2 g3 g4 g5 g6 g7
    refine hgo [] _ _ _ _ ?_
    refine ⟨rfl, fun k hk => sA_k hk, ?_⟩
    unfold RC
    rw [htk, sA_s]
    refine ⟨g2, g3, g4, by rw [g6]; exact r4, fun q => by rw [g7]; exact r5 q, g5⟩
  generalize hb0 : scan n isBl t e0 = b at a1 a2 a3 a4
  have htk : tk n t e0 = if b < n then (if isLe (t b) = true then (b, scan n isLe t (b + 1), 1) else if isFg (t b) = true then (b, scan n isFg t (b + 1), if scan n isFg t (b + 1) - b ≤ 4 then 2 else 4) else (b, b + 1, if t b = 59 then 3 else 4)) else (b, b, 0) := by
    unfold tk
    rw [hb0]
  have s107 : b < n → isLe (t b) = true → ∀ k i g, k = n - i → b < i → i ≤ n → scan n isLe t (b + 1) = scan n isLe t i → g 2 = nI 1 → g 3 = nI b → g 4 = nI i → g 6 = M 3 0 0 6 → g 7 = M 3 0 0 7 → J 107 [some (aR 3 0 0), some (aI (nI (t b)))] [] (sA M 3 0 0 g) := by
    intro hbn hl k
    rw [if_pos hbn, if_pos hl] at htk
    induction k with
    | zero =>
      intro i g hk hi hin hsc g2 g3 g4 g6 g7
      rw [hsc, scan_e (by omega)] at htk
      refine hgo [276] _ _ _ _ ?_
      refine brt (show M 2 0 0 1 ≤ g 4 by rw [hlen, g4]; exact nI_le (by omega) (by omega)) ?_
      exact fin b i 1 g _ htk g2 g3 g4 (fun q => (by cases q)) g6 g7
    | succ k ih =>
      intro i g hk hi hin hsc g2 g3 g4 g6 g7
      have hilt : i < n := by omega
      refine hgo [276] _ _ _ _ ?_
      refine brf (show ¬ M 2 0 0 1 ≤ g 4 by rw [hlen, g4]; exact nI_ge hilt (by omega)) ?_
      refine cle (c_at n t i _ (tT g) (by omega)) (by show [aR 2 0 0, aI (g 4)] = _; rw [g4]) rfl ?_
      rw [if_pos hilt]
      refine cl_ (c_isLetter (t i) _ (h256 i hilt)) ?_
      refine brb (fun q => ?_) (fun q => ?_)
      · rw [hsc, scan_f q] at htk
        exact fin b i 1 g _ htk g2 g3 g4 (fun q => (by cases q)) g6 g7
      · refine Jc (J := J) ?_ (ih (i + 1) (upd g 4 (nI (i + 1))) (by omega) (by omega) (by omega) (by rw [hsc, scan_y hilt q]) (by rw [upd_n (by decide)]; exact g2) (by rw [upd_n (by decide)]; exact g3) upd_s (by rw [upd_n (by decide)]; exact g6) (by rw [upd_n (by decide)]; exact g7))
        rw [sA_sA, sA_s, g4, nI_1]
  have s166 : b < n → ¬ isLe (t b) = true → isFg (t b) = true → ∀ k i g, k = n - i → b < i → i ≤ n → scan n isFg t (b + 1) = scan n isFg t i → (∀ j, b ≤ j → j < i → isFg (t j) = true) → g 3 = nI b → g 4 = nI i → g 5 = nI (vl t b (i - b)) → g 6 = M 3 0 0 6 → g 7 = M 3 0 0 7 → J 166 [some (aR 3 0 0), some (aI (nI (t b)))] [] (sA M 3 0 0 g) := by
    intro hbn hl hf k
    rw [if_pos hbn, if_neg hl, if_pos hf] at htk
    have s236 : ∀ i g, b < i → i ≤ n → scan n isFg t (b + 1) = i → g 3 = nI b → g 4 = nI i → g 5 = nI (vl t b (i - b)) → g 6 = M 3 0 0 6 → g 7 = M 3 0 0 7 → J 236 [some (aR 3 0 0), some (aI (nI (t b)))] [] (sA M 3 0 0 g) := by
      intro i g hi hin hsc g3 g4 g5 g6 g7
      rw [hsc] at htk
      have ed : g 4 - g 3 = nI (i - b) := by rw [g3, g4]; exact pk_sub (by omega)
      refine hgo [255] _ _ _ _ ?_
      refine br_ (fun q => ?_) (fun q => ?_)
      · have q : nI 4 < g 4 - g 3 := q
        rw [ed, nI_ltI (by omega) (by omega)] at q
        rw [if_neg (by omega)] at htk
        refine hgo [255] _ _ _ _ ?_
        refine hgo [276] _ _ _ _ ?_
        refine Jc (J := J) ?_ (fin b i 4 (upd g 2 4) _ htk upd_s (by rw [upd_n (by decide)]; exact g3) (by rw [upd_n (by decide)]; exact g4) (fun q => (by cases q)) (by rw [upd_n (by decide)]; exact g6) (by rw [upd_n (by decide)]; exact g7))
        rw [sA_sA, sA_s]
      · have q : ¬ nI 4 < g 4 - g 3 := q
        rw [ed, nI_ltI (by omega) (by omega)] at q
        rw [if_pos (by omega)] at htk
        refine hgo [276] _ _ _ _ ?_
        refine Jc (J := J) ?_ (fin b i 2 (upd g 2 2) _ htk upd_s (by rw [upd_n (by decide)]; exact g3) (by rw [upd_n (by decide)]; exact g4) (fun _ => (by rw [upd_n (by decide)]; exact g5)) (by rw [upd_n (by decide)]; exact g6) (by rw [upd_n (by decide)]; exact g7))
        rw [sA_sA, sA_s]
    induction k with
    | zero =>
      intro i g hk hi hin hsc hall g3 g4 g5 g6 g7
      refine hgo [236] _ _ _ _ ?_
      refine brt (show M 2 0 0 1 ≤ g 4 by rw [hlen, g4]; exact nI_le (by omega) (by omega)) ?_
      exact s236 i g hi hin (by rw [hsc, scan_e (by omega)]) g3 g4 g5 g6 g7
    | succ k ih =>
      intro i g hk hi hin hsc hall g3 g4 g5 g6 g7
      have hilt : i < n := by omega
      refine hgo [236] _ _ _ _ ?_
      refine brf (show ¬ M 2 0 0 1 ≤ g 4 by rw [hlen, g4]; exact nI_ge hilt (by omega)) ?_
      refine cle (c_at n t i _ (tT g) (by omega)) (by show [aR 2 0 0, aI (g 4)] = _; rw [g4]) rfl ?_
      rw [if_pos hilt]
      refine cl_ (c_isFigure (t i) _ (h256 i hilt)) ?_
      refine brb (fun q => ?_) (fun q => ?_)
      · exact s236 i g hi hin (by rw [hsc, scan_f q]) g3 g4 g5 g6 g7
      · refine cle (c_at n t i _ (tT g) (by omega)) (by show [aR 2 0 0, aI (g 4)] = _; rw [g4]) rfl ?_
        rw [if_pos hilt]
        have q' := of_decide_eq_true q
        have ev : g 5 * 10 + nI (t i) - 48 = nI (vl t b (i + 1 - b)) := by
          rw [g5, show (10 : Int32) = nI 10 from rfl, show (48 : Int32) = nI 48 from rfl, pk_mul, nI_add, pk_sub (by omega), show i + 1 - b = (i - b) + 1 by omega]
          congr 1
          show _ = 10 * vl t b (i - b) + (t (b + (i - b)) - 48)
          rw [show b + (i - b) = i by omega]
          omega
        refine Jc (J := J) ?_ (ih (i + 1) (upd (upd g 5 (nI (vl t b (i + 1 - b)))) 4 (nI (i + 1))) (by omega) (by omega) (by omega) (by rw [hsc, scan_y hilt q]) (fun j h1 h2 => ?_) (by rw [upd_n (by decide), upd_n (by decide)]; exact g3) upd_s (by rw [upd_n (by decide)]; exact upd_s) (by rw [upd_n (by decide), upd_n (by decide)]; exact g6) (by rw [upd_n (by decide), upd_n (by decide)]; exact g7))
        · rw [sA_sA, sA_sA, sA_s, sA_s, upd_n (by decide), g4, nI_1, ev]
        · by_cases e : j = i
          · rw [e]; exact q
          · exact hall j h1 (by omega)
  have s52 : ∀ g, g 3 = nI b → g 6 = M 3 0 0 6 → g 7 = M 3 0 0 7 → J 52 [some (aR 3 0 0), none] [] (sA M 3 0 0 g) := by
    intro g g3 g6 g7
    have eM : sA (sA M 3 0 0 g) 3 0 0 (upd ((sA M 3 0 0 g) 3 0 0) 4 ((sA M 3 0 0 g) 3 0 0 3 + 1)) = sA M 3 0 0 (upd g 4 (nI (b + 1))) := by
      rw [sA_sA, sA_s, g3, nI_1]
    by_cases hbn : b < n
    · have s95 : J 95 [some (aR 3 0 0), some (aI (nI (t b)))] [] (sA M 3 0 0 (upd g 4 (nI (b + 1)))) := by
        refine hgo [107, 166] _ _ _ _ ?_
        refine cl_ (c_isLetter (t b) _ (h256 b hbn)) ?_
        refine brb (fun q => ?_) (fun q => ?_)
        · refine hgo [107, 166] _ _ _ _ ?_
          refine cl_ (c_isFigure (t b) _ (h256 b hbn)) ?_
          refine brb (fun q2 => ?_) (fun q2 => ?_)
          · rw [if_pos hbn, if_neg q, if_neg q2] at htk
            by_cases q3 : t b = 59
            · rw [if_pos q3] at htk
              refine hgo [273] _ _ _ _ ?_
              refine brt (by rw [q3]; rfl) ?_
              refine hgo [276] _ _ _ _ ?_
              refine Jc (J := J) ?_ (fin b (b + 1) 3 (upd (upd g 4 (nI (b + 1))) 2 3) _ htk upd_s (by rw [upd_n (by decide), upd_n (by decide)]; exact g3) (by rw [upd_n (by decide)]; exact upd_s) (fun q => (by cases q)) (by rw [upd_n (by decide), upd_n (by decide)]; exact g6) (by rw [upd_n (by decide), upd_n (by decide)]; exact g7))
              rw [sA_sA, sA_s]
            · rw [if_neg q3] at htk
              refine hgo [273] _ _ _ _ ?_
              refine brf (fun z => q3 ((nI_eq (b := 59) (by have := h256 b hbn; omega) (by omega)).mp z)) ?_
              refine hgo [273] _ _ _ _ ?_
              refine hgo [276] _ _ _ _ ?_
              refine Jc (J := J) ?_ (fin b (b + 1) 4 (upd (upd g 4 (nI (b + 1))) 2 4) _ htk upd_s (by rw [upd_n (by decide), upd_n (by decide)]; exact g3) (by rw [upd_n (by decide)]; exact upd_s) (fun q => (by cases q)) (by rw [upd_n (by decide), upd_n (by decide)]; exact g6) (by rw [upd_n (by decide), upd_n (by decide)]; exact g7))
              rw [sA_sA, sA_s]
          · have q' := of_decide_eq_true q2
            refine Jc (J := J) ?_ (s166 hbn q q2 _ (b + 1) (upd (upd g 4 (nI (b + 1))) 5 (nI (vl t b 1))) rfl (by omega) (by omega) rfl (fun j h1 h2 => ?_) (by rw [upd_n (by decide), upd_n (by decide)]; exact g3) (by rw [upd_n (by decide)]; exact upd_s) (by rw [upd_s, show b + 1 - b = 1 by omega]) (by rw [upd_n (by decide), upd_n (by decide)]; exact g6) (by rw [upd_n (by decide), upd_n (by decide)]; exact g7))
            · rw [sA_sA, sA_s]
              congr 2
              show nI (t b) - nI 48 = nI (10 * 0 + (t (b + 0) - 48))
              rw [pk_sub (by omega)]
              congr 1
              rw [Nat.add_zero]
              omega
            · have : j = b := by omega
              rw [this]
              exact q2
        · refine Jc (J := J) ?_ (s107 hbn q _ (b + 1) (upd (upd g 4 (nI (b + 1))) 2 (nI 1)) rfl (by omega) (by omega) rfl upd_s (by rw [upd_n (by decide), upd_n (by decide)]; exact g3) (by rw [upd_n (by decide)]; exact upd_s) (by rw [upd_n (by decide), upd_n (by decide)]; exact g6) (by rw [upd_n (by decide), upd_n (by decide)]; exact g7))
          rw [sA_sA, sA_s]
          rfl
      refine hgo [95] _ _ _ _ ?_
      refine cle (c_at n t b (sA M 3 0 0 (upd g 4 (nI (b + 1)))) (tT _) (by omega)) (by show [aR 2 0 0, aI (upd g 4 (g 3 + 1) 3)] = _; rw [upd_n (by decide), g3]) eM ?_
      rw [if_pos hbn]
      refine brf (by
        intro z
        have := congrArg Int32.toInt z
        have := h256 b hbn
        rw [i3_n (by omega), i3_m1] at *
        omega) ?_
      exact s95
    · rw [if_neg hbn] at htk
      refine hgo [95] _ _ _ _ ?_
      refine cle (c_at n t b (sA M 3 0 0 (upd g 4 (nI (b + 1)))) (tT _) (by omega)) (by show [aR 2 0 0, aI (upd g 4 (g 3 + 1) 3)] = _; rw [upd_n (by decide), g3]) eM ?_
      rw [if_neg hbn]
      refine brt rfl ?_
      refine Jc (J := J) ?_ (fin b b 0 (upd (upd (upd g 4 (nI (b + 1))) 2 0) 4 (nI b)) _ htk (by rw [upd_n (by decide)]; exact upd_s) (by rw [upd_n (by decide), upd_n (by decide), upd_n (by decide)]; exact g3) upd_s (fun q => (by cases q)) (by rw [upd_n (by decide), upd_n (by decide), upd_n (by decide)]; exact g6) (by rw [upd_n (by decide), upd_n (by decide), upd_n (by decide)]; exact g7))
      rw [sA_sA, sA_sA, sA_s, sA_s, upd_n (by decide), upd_n (by decide), g3]
  have loop : ∀ k i g, k = n - i → i ≤ n → scan n isBl t i = b → g 3 = nI i → g 6 = M 3 0 0 6 → g 7 = M 3 0 0 7 → J 8 [some (aR 3 0 0), none] [] (sA M 3 0 0 g) := by
    intro k
    induction k with
    | zero =>
      intro i g hk hi hsc g3 g6 g7
      rw [scan_e (by omega)] at hsc
      subst hsc
      refine hgo [52] _ _ _ _ ?_
      refine brt (show M 2 0 0 1 ≤ g 3 by rw [hlen, g3]; exact nI_le (by omega) (by omega)) ?_
      exact s52 g g3 g6 g7
    | succ k ih =>
      intro i g hk hi hsc g3 g6 g7
      have hilt : i < n := by omega
      refine hgo [52] _ _ _ _ ?_
      refine brf (show ¬ M 2 0 0 1 ≤ g 3 by rw [hlen, g3]; exact nI_ge hilt (by omega)) ?_
      refine cle (c_at n t i _ (tT g) (by omega)) (by show [aR 2 0 0, aI (g 3)] = _; rw [g3]) rfl ?_
      rw [if_pos hilt]
      refine cl_ (c_isBlank (t i) _ (h256 i hilt)) ?_
      refine brb (fun q => ?_) (fun q => ?_)
      · rw [scan_f q] at hsc
        subst hsc
        exact s52 g g3 g6 g7
      · refine Jc (J := J) ?_ (ih (i + 1) (upd g 3 (nI (i + 1))) (by omega) (by omega) (by rw [← scan_y hilt q]; exact hsc) upd_s (by rw [upd_n (by decide)]; exact g6) (by rw [upd_n (by decide)]; exact g7))
        rw [sA_sA, sA_s, g3, nI_1]
  refine hgo [8] _ _ _ _ ?_
  refine Jc (J := J) ?_ (loop _ e0 (upd (M 3 0 0) 3 (nI e0)) rfl hen hb0 upd_s (upd_n (by decide)) (upd_n (by decide)))
  rw [← r3]
theorem c_step (n : Nat) (t : Nat → Nat) (S : PS) (M : am_M) (hT : TC n t M) (hS : WS n t S) (hR : RC t S M) : ConP 2 mReader_step [aR 3 0 0] M (fun r M2 => r = none ∧ K3 M2 M ∧ RC t (nx n t S) M2) := c_step0 n t (se S) (sf S) (sl S) M hT hS.1.2.1 hR.2.2.1 hR.2.2.2.1 hR.2.2.2.2.1
