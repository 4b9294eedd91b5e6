/-! the reference's tokens -/
def tkc (s : Nat) : Nat := if s = 4 then 0 else s + 1
def TR (n : Nat) (t : Nat → Nat) (M : am_M) : Prop := n ≤ 500 ∧ M 11 0 0 11 = nI n ∧ (∀ i, i < n → M 11 0 6 i = nI (t i)) ∧ ∀ i, i < n → t i < 256
def RR (S : PS) (M : am_M) : Prop := M 11 0 0 13 = nI (tkc (ss S)) ∧ M 11 0 0 14 = nI (sb S) ∧ M 11 0 0 12 = nI (se S) ∧ M 11 0 0 15 = nI (se S) ∧ M 11 0 0 16 = nI (sf S) ∧ (sf S ≠ 0 → M 11 0 0 17 = nI (sl S))
def KT (M2 M : am_M) : Prop := (∀ k, k ≠ 11 → M2 k = M k) ∧ (∀ o, o ≠ 0 → M2 11 0 o = M 11 0 o) ∧ ∀ i, (i < 12 ∨ 18 ≤ i) → M2 11 0 0 i = M 11 0 0 i
theorem KT.tr {M M1 M2 : am_M} (h1 : KT M1 M) (h2 : KT M2 M1) : KT M2 M := ⟨fun k a => (h2.1 k a).trans (h1.1 k a), fun o ho => (h2.2.1 o ho).trans (h1.2.1 o ho), fun i hi => (h2.2.2 i hi).trans (h1.2.2 i hi)⟩
theorem KT.rf {M : am_M} : KT M M := ⟨fun _ _ => rfl, fun _ _ => rfl, fun _ _ => rfl⟩
theorem TR_KT {n : Nat} {t : Nat → Nat} {M M2 : am_M} (h : TR n t M) (hK : KT M2 M) : TR n t M2 := by
  unfold TR
  rw [hK.2.2 11 (by omega), hK.2.1 6 (by decide)]
  exact h
theorem c_byteAt (n : Nat) (t : Nat → Nat) (i : Nat) (M : am_M) (hT : TR n t M) (hi : i ≤ 1000) : Con 1 mRef_byteAt [aR 11 0 0, aI (nI i)] M (some (aI (if i < n then nI (t i) else -1000000))) M := by
  obtain ⟨h1, h2, h3, h4⟩ := hT
  refine con_of okRef_byteAt [some (aR 11 0 0), some (aI (nI i))] (some .int) ?_
  intro J hgo
  by_cases h : i < n
  · refine hgo [] _ _ _ _ ?_
    refine brf (show ¬ M 11 0 0 11 ≤ nI i by rw [h2]; exact nI_ge h (by omega)) ?_
    refine ob_ (vp_in_nI (by omega) (by omega)) ?_
    refine hgo [] _ _ _ _ ?_
    refine ⟨?_, rfl⟩
    rw [cl_nI (by omega), h3 i h, if_pos h]
  · refine hgo [] _ _ _ _ ?_
    refine brt (show M 11 0 0 11 ≤ nI i by rw [h2]; exact nI_le (by omega) (by omega)) ?_
    refine hgo [] _ _ _ _ ?_
    refine ⟨?_, rfl⟩
    rw [if_neg h]
theorem c_RisLetter (c : Nat) (M : am_M) (hc : c < 256) : Con 1 mRef_isLetter [aI (nI c)] M (some (aI (b2i (isLe c = true)))) M := by
  refine con_of okRef_isLetter [some (aI (nI c))] (some .boolean) ?_
  intro J hgo
  have no : ¬ isLe c = true → J 16 [some (aI (nI c))] [] M := by
    intro g
    refine hgo [] _ _ _ _ ?_
    refine ob_ (by decide) ⟨?_, rfl⟩
    rw [b2i_f g]
  refine hgo [16] _ _ _ _ ?_
  refine br_ (fun g => ?_) (fun g => ?_)
  · have g : nI c < nI 97 := g
    rw [nI_ltI (by omega) (by omega)] at g
    exact no (fun q => by have := of_decide_eq_true q; omega)
  · have g : ¬ nI c < nI 97 := g
    rw [nI_ltI (by omega) (by omega)] at g
    refine br_ (fun g2 => ?_) (fun g2 => ?_)
    · have g2 : nI 122 < nI c := g2
      rw [nI_ltI (by omega) (by omega)] at g2
      exact no (fun q => by have := of_decide_eq_true q; omega)
    · have g2 : ¬ nI 122 < nI c := g2
      rw [nI_ltI (by omega) (by omega)] at g2
      refine hgo [] _ _ _ _ ?_
      refine ob_ (by decide) ⟨?_, rfl⟩
      rw [b2i_t (show isLe c = true from decide_eq_true (by omega))]
theorem c_RisFigure (c : Nat) (M : am_M) (hc : c < 256) : Con 1 mRef_isFigure [aI (nI c)] M (some (aI (b2i (isFg c = true)))) M := by
  refine con_of okRef_isFigure [some (aI (nI c))] (some .boolean) ?_
  intro J hgo
  have no : ¬ isFg c = true → J 16 [some (aI (nI c))] [] M := by
    intro g
    refine hgo [] _ _ _ _ ?_
    refine ob_ (by decide) ⟨?_, rfl⟩
    rw [b2i_f g]
  refine hgo [16] _ _ _ _ ?_
  refine br_ (fun g => ?_) (fun g => ?_)
  · have g : nI c < nI 48 := g
    rw [nI_ltI (by omega) (by omega)] at g
    exact no (fun q => by have := of_decide_eq_true q; omega)
  · have g : ¬ nI c < nI 48 := g
    rw [nI_ltI (by omega) (by omega)] at g
    refine br_ (fun g2 => ?_) (fun g2 => ?_)
    · have g2 : nI 57 < nI c := g2
      rw [nI_ltI (by omega) (by omega)] at g2
      exact no (fun q => by have := of_decide_eq_true q; omega)
    · have g2 : ¬ nI 57 < nI c := g2
      rw [nI_ltI (by omega) (by omega)] at g2
      refine hgo [] _ _ _ _ ?_
      refine ob_ (by decide) ⟨?_, rfl⟩
      rw [b2i_t (show isFg c = true from decide_eq_true (by omega))]
theorem c_RLn (M : am_M) : Con 1 mRef_isLetter [aI (-1000000)] M (some (aI 0)) M := by
  refine con_of okRef_isLetter [some (aI (-1000000))] (some .boolean) ?_
  intro J hgo
  refine hgo [] _ _ _ _ ?_
  refine brt (by decide) ?_
  refine hgo [] _ _ _ _ ?_
  exact ob_ (by decide) ⟨rfl, rfl⟩
theorem c_RFn (M : am_M) : Con 1 mRef_isFigure [aI (-1000000)] M (some (aI 0)) M := by
  refine con_of okRef_isFigure [some (aI (-1000000))] (some .boolean) ?_
  intro J hgo
  refine hgo [] _ _ _ _ ?_
  refine brt (by decide) ?_
  refine hgo [] _ _ _ _ ?_
  exact ob_ (by decide) ⟨rfl, rfl⟩
theorem c_next0 (n : Nat) (t : Nat → Nat) (e0 f0 l0 : Nat) (M : am_M) (hT : TR n t M) (hen : e0 ≤ n) (r3 : M 11 0 0 12 = nI e0) (r4 : M 11 0 0 16 = nI f0) (r5 : f0 ≠ 0 → M 11 0 0 17 = nI l0) : ConP 2 mRef_nextToken [aR 11 0 0] M (fun r M2 => r = none ∧ KT M2 M ∧ RR ((tk n t e0).1, (tk n t e0).2.1, (tk n t e0).2.2, f0, l0) M2) := by
  obtain ⟨h500, hlen, hby, h256⟩ := id hT
  obtain ⟨a1, a2, a3, a4⟩ := scan_in (P := isBl) (t := t) _ e0 rfl hen
  have tT : ∀ g, g 11 = M 11 0 0 11 → TR n t (sA M 11 0 0 g) := fun g hg => ⟨h500, by show g 11 = nI n; rw [hg]; exact hlen, hby, h256⟩
  refine con_of okRef_nextToken [some (aR 11 0 0), none] none ?_
  intro J hgo
  generalize hb0 : scan n isBl t e0 = b at a1 a2 a3 a4
  have htk : tk n t e0 = if b < n then (if isLe (t b) = true then (b, scan n isLe t (b + 1), 1) else if isFg (t b) = true then (b, scan n isFg t (b + 1), if scan n isFg t (b + 1) - b ≤ 4 then 2 else 4) else (b, b + 1, if t b = 59 then 3 else 4)) else (b, b, 0) := by
    unfold tk
    rw [hb0]
  have fin : ∀ (e s : Nat) (g : Nat → Int32) (z : Option am_V), tk n t e0 = (b, e, s) → g 13 = nI (tkc s) → g 14 = nI b → g 12 = nI e → (∀ i, (i < 12 ∨ 16 ≤ i) → g i = M 11 0 0 i) → J 196 [some (aR 11 0 0), z] [] (sA M 11 0 0 g) := by
    intro e s g z htk g13 g14 g12 go
    refine hgo [] _ _ _ _ ?_
    refine ⟨rfl, ⟨fun k hk => (sA_k hk).trans (sA_k hk), fun o ho => (sA_o ho).trans (sA_o ho), fun i hi => ?_⟩, ?_⟩
    · show upd g 15 (g 12) i = _
      rw [upd_n (by omega)]
      exact go i (by omega)
    · unfold RR
      rw [htk]
      refine ⟨?_, ?_, ?_, ?_, ?_, fun q => ?_⟩
      · show upd g 15 (g 12) 13 = _
        rw [upd_n (by decide)]
        exact g13
      · show upd g 15 (g 12) 14 = _
        rw [upd_n (by decide)]
        exact g14
      · show upd g 15 (g 12) 12 = _
        rw [upd_n (by decide)]
        exact g12
      · show upd g 15 (g 12) 15 = _
        rw [upd_s]
        exact g12
      · show upd g 15 (g 12) 16 = _
        rw [upd_n (by decide), go 16 (by omega)]
        exact r4
      · show upd g 15 (g 12) 17 = _
        rw [upd_n (by decide), go 17 (by omega)]
        exact r5 q
  have s77 : b < n → isLe (t b) = true → ∀ k i g, k = n - i → b ≤ i → i ≤ n → scan n isLe t (b + 1) = scan n isLe t i → g 14 = nI b → g 12 = nI i → (∀ i, (i < 12 ∨ 16 ≤ i) → g i = M 11 0 0 i) → J 77 [some (aR 11 0 0), some (aI (nI (t b)))] [] (sA M 11 0 0 g) := by
    intro hbn hl k
    rw [if_pos hbn, if_pos hl] at htk
    have s104 : ∀ i g, scan n isLe t (b + 1) = i → g 14 = nI b → g 12 = nI i → (∀ i, (i < 12 ∨ 16 ≤ i) → g i = M 11 0 0 i) → J 104 [some (aR 11 0 0), some (aI (nI (t b)))] [] (sA M 11 0 0 g) := by
      intro i g hsc g14 g12 go
      rw [hsc] at htk
      refine hgo [196] _ _ _ _ ?_
      refine Jc (J := J) ?_ (fin i 1 (upd g 13 2) _ htk upd_s (by rw [upd_n (by decide)]; exact g14) (by rw [upd_n (by decide)]; exact g12) (fun j hj => by rw [upd_n (by omega)]; exact go j hj))
      rw [sA_sA, sA_s]
    induction k with
    | zero =>
      intro i g hk hi hin hsc g14 g12 go
      refine hgo [104] _ _ _ _ ?_
      refine cle (c_byteAt n t i _ (tT g (go 11 (by omega))) (by omega)) (by show [aR 11 0 0, aI (g 12)] = _; rw [g12]) rfl ?_
      rw [if_neg (by omega)]
      refine cl_ (c_RLn _) ?_
      refine brt rfl ?_
      exact s104 i g (by rw [hsc, scan_e (by omega)]) g14 g12 go
    | succ k ih =>
      intro i g hk hi hin hsc g14 g12 go
      have hilt : i < n := by omega
      refine hgo [104] _ _ _ _ ?_
      refine cle (c_byteAt n t i _ (tT g (go 11 (by omega))) (by omega)) (by show [aR 11 0 0, aI (g 12)] = _; rw [g12]) rfl ?_
      rw [if_pos hilt]
      refine cl_ (c_RisLetter (t i) _ (h256 i hilt)) ?_
      refine brb (fun q => ?_) (fun q => ?_)
      · exact s104 i g (by rw [hsc, scan_f q]) g14 g12 go
      · refine Jc (J := J) ?_ (ih (i + 1) (upd g 12 (nI (i + 1))) (by omega) (by omega) (by omega) (by rw [hsc, scan_y hilt q]) (by rw [upd_n (by decide)]; exact g14) upd_s (fun j hj => by rw [upd_n (by omega)]; exact go j hj))
        rw [sA_sA, sA_s, g12, nI_1]
  have s119 : b < n → ¬ isLe (t b) = true → isFg (t b) = true → ∀ k i g, k = n - i → b ≤ i → i ≤ n → scan n isFg t (b + 1) = scan n isFg t i → g 14 = nI b → g 12 = nI i → (∀ i, (i < 12 ∨ 16 ≤ i) → g i = M 11 0 0 i) → J 119 [some (aR 11 0 0), some (aI (nI (t b)))] [] (sA M 11 0 0 g) := by
    intro hbn hl hf k
    rw [if_pos hbn, if_neg hl, if_pos hf] at htk
    have s146 : ∀ i g, scan n isFg t (b + 1) = i → b ≤ i → i ≤ n → g 14 = nI b → g 12 = nI i → (∀ i, (i < 12 ∨ 16 ≤ i) → g i = M 11 0 0 i) → J 146 [some (aR 11 0 0), some (aI (nI (t b)))] [] (sA M 11 0 0 g) := by
      intro i g hsc hbi hin g14 g12 go
      rw [hsc] at htk
      have ed : g 12 - g 14 = nI (i - b) := by rw [g14, g12]; exact pk_sub hbi
      refine hgo [165] _ _ _ _ ?_
      refine br_ (fun q => ?_) (fun q => ?_)
      · have q : g 12 - g 14 ≤ nI 4 := q
        rw [ed, nI_leI (by omega) (by omega)] at q
        rw [if_pos q] at htk
        refine hgo [165] _ _ _ _ ?_
        refine hgo [196] _ _ _ _ ?_
        refine Jc (J := J) ?_ (fin i 2 (upd g 13 3) _ htk upd_s (by rw [upd_n (by decide)]; exact g14) (by rw [upd_n (by decide)]; exact g12) (fun j hj => by rw [upd_n (by omega)]; exact go j hj))
        rw [sA_sA, sA_s]
      · have q : ¬ g 12 - g 14 ≤ nI 4 := q
        rw [ed, nI_leI (by omega) (by omega)] at q
        rw [if_neg q] at htk
        refine hgo [196] _ _ _ _ ?_
        refine Jc (J := J) ?_ (fin i 4 (upd g 13 0) _ htk upd_s (by rw [upd_n (by decide)]; exact g14) (by rw [upd_n (by decide)]; exact g12) (fun j hj => by rw [upd_n (by omega)]; exact go j hj))
        rw [sA_sA, sA_s]
    induction k with
    | zero =>
      intro i g hk hi hin hsc g14 g12 go
      refine hgo [146] _ _ _ _ ?_
      refine cle (c_byteAt n t i _ (tT g (go 11 (by omega))) (by omega)) (by show [aR 11 0 0, aI (g 12)] = _; rw [g12]) rfl ?_
      rw [if_neg (by omega)]
      refine cl_ (c_RFn _) ?_
      refine brt rfl ?_
      exact s146 i g (by rw [hsc, scan_e (by omega)]) hi hin g14 g12 go
    | succ k ih =>
      intro i g hk hi hin hsc g14 g12 go
      have hilt : i < n := by omega
      refine hgo [146] _ _ _ _ ?_
      refine cle (c_byteAt n t i _ (tT g (go 11 (by omega))) (by omega)) (by show [aR 11 0 0, aI (g 12)] = _; rw [g12]) rfl ?_
      rw [if_pos hilt]
      refine cl_ (c_RisFigure (t i) _ (h256 i hilt)) ?_
      refine brb (fun q => ?_) (fun q => ?_)
      · exact s146 i g (by rw [hsc, scan_f q]) hi hin g14 g12 go
      · refine Jc (J := J) ?_ (ih (i + 1) (upd g 12 (nI (i + 1))) (by omega) (by omega) (by omega) (by rw [hsc, scan_y hilt q]) (by rw [upd_n (by decide)]; exact g14) upd_s (fun j hj => by rw [upd_n (by omega)]; exact go j hj))
        rw [sA_sA, sA_s, g12, nI_1]
  have s39 : ∀ g, g 12 = nI b → (∀ i, (i < 12 ∨ 16 ≤ i) → g i = M 11 0 0 i) → J 39 [some (aR 11 0 0), none] [] (sA M 11 0 0 g) := by
    intro g g12 go
    have eM : sA (sA M 11 0 0 g) 11 0 0 (upd ((sA M 11 0 0 g) 11 0 0) 14 ((sA M 11 0 0 g) 11 0 0 12)) = sA M 11 0 0 (upd g 14 (nI b)) := by
      rw [sA_sA, sA_s, g12]
    have h14 : upd g 14 (nI b) 14 = nI b := upd_s
    have h12 : upd g 14 (nI b) 12 = nI b := by rw [upd_n (by decide)]; exact g12
    have ho : ∀ i, (i < 12 ∨ 16 ≤ i) → upd g 14 (nI b) i = M 11 0 0 i := fun j hj => by rw [upd_n (by omega)]; exact go j hj
    have ca : Con 1 mRef_byteAt [aR 11 0 0, aI (nI b)] (sA M 11 0 0 (upd g 14 (nI b))) (some (aI (if b < n then nI (t b) else -1000000))) (sA M 11 0 0 (upd g 14 (nI b))) := c_byteAt n t b _ (tT _ (ho 11 (by omega))) (by omega)
    by_cases hbn : b < n
    · have s70 : J 70 [some (aR 11 0 0), some (aI (nI (t b)))] [] (sA M 11 0 0 (upd g 14 (nI b))) := by
        refine hgo [77, 119] _ _ _ _ ?_
        refine cl_ (c_RisLetter (t b) _ (h256 b hbn)) ?_
        refine brb (fun q => ?_) (fun q => ?_)
        · refine hgo [119] _ _ _ _ ?_
          refine cl_ (c_RisFigure (t b) _ (h256 b hbn)) ?_
          refine brb (fun q2 => ?_) (fun q2 => ?_)
          · rw [if_pos hbn, if_neg q, if_neg q2] at htk
            by_cases q3 : t b = 59
            · rw [if_pos q3] at htk
              refine hgo [193] _ _ _ _ ?_
              refine brt (by rw [q3]; rfl) ?_
              refine hgo [196] _ _ _ _ ?_
              refine Jc (J := J) ?_ (fin (b + 1) 3 (upd (upd (upd g 14 (nI b)) 12 (nI (b + 1))) 13 4) _ htk upd_s (by rw [upd_n (by decide), upd_n (by decide)]; exact h14) (by rw [upd_n (by decide)]; exact upd_s) (fun j hj => by rw [upd_n (by omega), upd_n (by omega)]; exact ho j hj))
              rw [sA_sA, sA_sA, sA_s, sA_s, h12, nI_1]
            · rw [if_neg q3] at htk
              refine hgo [193] _ _ _ _ ?_
              refine brf (fun z => q3 ((nI_eq (b := 59) (by have := h256 b hbn; omega) (by omega)).mp z)) ?_
              refine hgo [193] _ _ _ _ ?_
              refine hgo [196] _ _ _ _ ?_
              refine Jc (J := J) ?_ (fin (b + 1) 4 (upd (upd (upd g 14 (nI b)) 12 (nI (b + 1))) 13 0) _ htk upd_s (by rw [upd_n (by decide), upd_n (by decide)]; exact h14) (by rw [upd_n (by decide)]; exact upd_s) (fun j hj => by rw [upd_n (by omega), upd_n (by omega)]; exact ho j hj))
              rw [sA_sA, sA_sA, sA_s, sA_s, h12, nI_1]
          · exact s119 hbn q q2 _ b _ rfl (Nat.le_refl _) (by omega) (scan_y hbn q2).symm h14 h12 ho
        · exact s77 hbn q _ b _ rfl (Nat.le_refl _) (by omega) (scan_y hbn q).symm h14 h12 ho
      refine hgo [70] _ _ _ _ ?_
      refine cle ca (by show [aR 11 0 0, aI (upd g 14 (g 12) 12)] = _; rw [upd_n (by decide), g12]) eM ?_
      rw [if_pos hbn]
      refine brf (by
        intro z
        have h1 := congrArg Int32.toInt z
        have h2 := h256 b hbn
        have e : Int32.toInt (-1000000) = -1000000 := by decide
        rw [i3_n (by omega), e] at h1
        omega) ?_
      exact s70
    · rw [if_neg hbn] at htk
      refine hgo [70] _ _ _ _ ?_
      refine cle ca (by show [aR 11 0 0, aI (upd g 14 (g 12) 12)] = _; rw [upd_n (by decide), g12]) eM ?_
      rw [if_neg hbn]
      refine brt rfl ?_
      refine Jc (J := J) ?_ (fin b 0 (upd (upd g 14 (nI b)) 13 1) _ htk upd_s (by rw [upd_n (by decide)]; exact h14) (by rw [upd_n (by decide)]; exact h12) (fun j hj => by rw [upd_n (by omega)]; exact ho j hj))
      rw [sA_sA, sA_s]
  have loop : ∀ k i g, k = n - i → i ≤ n → scan n isBl t i = b → g 12 = nI i → (∀ i, (i < 12 ∨ 16 ≤ i) → g i = M 11 0 0 i) → J 0 [some (aR 11 0 0), none] [] (sA M 11 0 0 g) := by
    intro k
    induction k with
    | zero =>
      intro i g hk hi hsc g12 go
      have cb := c_byteAt n t i (sA M 11 0 0 g) (tT g (go 11 (by omega))) (by omega)
      rw [if_neg (by omega)] at cb
      rw [scan_e (by omega)] at hsc
      subst hsc
      refine hgo [39] _ _ _ _ ?_
      refine cle cb (by show [aR 11 0 0, aI (g 12)] = _; rw [g12]) rfl ?_
      refine brf (by decide) ?_
      refine cle cb (by show [aR 11 0 0, aI (g 12)] = _; rw [g12]) rfl ?_
      refine brf (by decide) ?_
      exact s39 g g12 go
    | succ k ih =>
      intro i g hk hi hsc g12 go
      have hilt : i < n := by omega
      have h256i := h256 i hilt
      have cb := c_byteAt n t i (sA M 11 0 0 g) (tT g (go 11 (by omega))) (by omega)
      rw [if_pos hilt] at cb
      have e1 : nI (t i) = 32 ↔ t i = 32 := nI_eq (b := 32) (by omega) (by omega)
      have e2 : nI (t i) = 10 ↔ t i = 10 := nI_eq (b := 10) (by omega) (by omega)
      have s26 : isBl (t i) = true → J 26 [some (aR 11 0 0), none] [] (sA M 11 0 0 g) := by
        intro q
        refine hgo [] _ _ _ _ ?_
        refine Jc (J := J) ?_ (ih (i + 1) (upd g 12 (nI (i + 1))) (by omega) (by omega) (by rw [← scan_y hilt q]; exact hsc) upd_s (fun j hj => by rw [upd_n (by omega)]; exact go j hj))
        rw [sA_sA, sA_s, g12, nI_1]
      refine hgo [26, 39] _ _ _ _ ?_
      refine cle cb (by show [aR 11 0 0, aI (g 12)] = _; rw [g12]) rfl ?_
      refine br_ (fun q => s26 (decide_eq_true (Or.inl (e1.mp q)))) (fun q => ?_)
      refine cle cb (by show [aR 11 0 0, aI (g 12)] = _; rw [g12]) rfl ?_
      refine br_ (fun q2 => s26 (decide_eq_true (Or.inr (e2.mp q2)))) (fun q2 => ?_)
      have hno : ¬ isBl (t i) = true := by
        intro z
        rcases of_decide_eq_true z with z | z
        · exact q (e1.mpr z)
        · exact q2 (e2.mpr z)
      rw [scan_f hno] at hsc
      subst hsc
      exact s39 g g12 go
  have := loop _ e0 (M 11 0 0) rfl hen hb0 r3 (fun _ _ => rfl)
  rw [sA_id] at this
  exact this
theorem c_next (n : Nat) (t : Nat → Nat) (S : PS) (M : am_M) (hT : TR n t M) (hS : WS n t S) (hR : RR S M) : ConP 2 mRef_nextToken [aR 11 0 0] M (fun r M2 => r = none ∧ KT M2 M ∧ RR (nx n t S) M2) := c_next0 n t (se S) (sf S) (sl S) M hT hS.1.2.1 hR.2.2.1 hR.2.2.2.2.1 hR.2.2.2.2.2
