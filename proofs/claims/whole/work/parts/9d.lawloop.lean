/-! the law's loop -/
set_option maxRecDepth 100000 in
theorem law_loop {d L : Nat} {xs : Nat → Int32} (hL : L ≤ 384) (hd : 100 ≤ d) (J : Nat → am_L → List am_V → am_M → Prop) (hgo : am_cl d (some (L, xs)) (some .boolean) kLaw_law J (fun r _ => r = some (aI 1))) : ∀ m i M, m = L - i → i ≤ L + 6 → Rel M → J 18 [some (aR 16 0 0), some (aR 0 0 0), some (aR 11 0 0), some (aI (nI i))] [] M := by
  intro m
  induction m using Nat.strongRecOn with
  | ind m ih =>
    intro i M hm hi hR
    by_cases hlt : i + 6 ≤ L
    · have e1 : ∀ k, k < 6 → nI i + nI k = nI (i + k) := fun k _ => nI_add i k
      have v1 : vp_in (nI i + 1) L := by rw [show (1 : Int32) = nI 1 from rfl, nI_add]; exact vp_in_nI (by omega) (by omega)
      have v2 : vp_in (nI i + 2) L := by rw [show (2 : Int32) = nI 2 from rfl, nI_add]; exact vp_in_nI (by omega) (by omega)
      have v3 : vp_in (nI i + 3) L := by rw [show (3 : Int32) = nI 3 from rfl, nI_add]; exact vp_in_nI (by omega) (by omega)
      have v4 : vp_in (nI i + 4) L := by rw [show (4 : Int32) = nI 4 from rfl, nI_add]; exact vp_in_nI (by omega) (by omega)
      have v5 : vp_in (nI i + 5) L := by rw [show (5 : Int32) = nI 5 from rfl, nI_add]; exact vp_in_nI (by omega) (by omega)
      have nxt : ∀ M2, Rel M2 → J 1132 [some (aR 16 0 0), some (aR 0 0 0), some (aR 11 0 0), some (aI (nI i))] [] M2 := by
        intro M2 hR2
        refine hgo [] _ _ _ _ ?_
        have := ih (L - (i + 6)) (by omega) (i + 6) M2 rfl (by omega) hR2
        rw [← nI_add i 6] at this
        exact this
      have q0 : J 176 [some (aR 16 0 0), some (aR 0 0 0), some (aR 11 0 0), some (aI (nI i))] [] M := by
        obtain ⟨v, d1, Po, hd1, h1, h2⟩ := op_row (xs (nI i + 1).toNatClampNeg) (xs (nI i + 2).toNatClampNeg) (xs (nI i + 3).toNatClampNeg) M hR
        refine hgo [] _ _ _ _ ?_
        refine ob_ v1 ?_
        refine ob_ v2 ?_
        refine ob_ v3 ?_
        refine clp h1 ?_ (by omega)
        intro r M1 hp
        obtain ⟨rfl, d2, Po2, hd2, h3, h4⟩ := h2 r M1 hp
        refine ob_ v1 ?_
        refine ob_ v2 ?_
        refine ob_ v3 ?_
        refine clp h3 ?_ (by omega)
        intro r2 M2 hp2
        obtain ⟨rfl, hR2⟩ := h4 r2 M2 hp2
        refine brt rfl ?_
        exact nxt M2 hR2
      have q1 : J 219 [some (aR 16 0 0), some (aR 0 0 0), some (aR 11 0 0), some (aI (nI i))] [] M := by
        obtain ⟨v, d1, Po, hd1, h1, h2⟩ := op_set (xs (nI i + 1).toNatClampNeg) (xs (nI i + 2).toNatClampNeg) (xs (nI i + 3).toNatClampNeg) M hR
        refine hgo [] _ _ _ _ ?_
        refine ob_ v1 ?_
        refine ob_ v2 ?_
        refine ob_ v3 ?_
        refine clp h1 ?_ (by omega)
        intro r M1 hp
        obtain ⟨rfl, d2, Po2, hd2, h3, h4⟩ := h2 r M1 hp
        refine ob_ v1 ?_
        refine ob_ v2 ?_
        refine ob_ v3 ?_
        refine clp h3 ?_ (by omega)
        intro r2 M2 hp2
        obtain ⟨rfl, hR2⟩ := h4 r2 M2 hp2
        refine brt rfl ?_
        exact nxt M2 hR2
      have q2 : J 262 [some (aR 16 0 0), some (aR 0 0 0), some (aR 11 0 0), some (aI (nI i))] [] M := by
        obtain ⟨v, d1, Po, hd1, h1, h2⟩ := op_copy (xs (nI i + 1).toNatClampNeg) (xs (nI i + 2).toNatClampNeg) (xs (nI i + 3).toNatClampNeg) (xs (nI i + 4).toNatClampNeg) (xs (nI i + 5).toNatClampNeg) M hR
        refine hgo [] _ _ _ _ ?_
        refine ob_ v1 ?_
        refine ob_ v2 ?_
        refine ob_ v3 ?_
        refine ob_ v4 ?_
        refine ob_ v5 ?_
        refine clp h1 ?_ (by omega)
        intro r M1 hp
        obtain ⟨rfl, d2, Po2, hd2, h3, h4⟩ := h2 r M1 hp
        refine ob_ v1 ?_
        refine ob_ v2 ?_
        refine ob_ v3 ?_
        refine ob_ v4 ?_
        refine ob_ v5 ?_
        refine clp h3 ?_ (by omega)
        intro r2 M2 hp2
        obtain ⟨rfl, hR2⟩ := h4 r2 M2 hp2
        refine brt rfl ?_
        exact nxt M2 hR2
      have q3 : J 325 [some (aR 16 0 0), some (aR 0 0 0), some (aR 11 0 0), some (aI (nI i))] [] M := by
        obtain ⟨v, d1, Po, hd1, h1, h2⟩ := op_drop (xs (nI i + 1).toNatClampNeg) M hR
        refine hgo [] _ _ _ _ ?_
        refine ob_ v1 ?_
        refine clp h1 ?_ (by omega)
        intro r M1 hp
        obtain ⟨rfl, d2, Po2, hd2, h3, h4⟩ := h2 r M1 hp
        refine ob_ v1 ?_
        refine clp h3 ?_ (by omega)
        intro r2 M2 hp2
        obtain ⟨rfl, hR2⟩ := h4 r2 M2 hp2
        refine brt rfl ?_
        exact nxt M2 hR2
      have q4 : J 348 [some (aR 16 0 0), some (aR 0 0 0), some (aR 11 0 0), some (aI (nI i))] [] M := by
        obtain ⟨v, d1, Po, hd1, h1, h2⟩ := op_feed ((xs (nI i + 1).toNatClampNeg).toInt64 <<< ((32 : Int32).toInt64 &&& 63) ||| ((xs (nI i + 2).toNatClampNeg).toInt64 &&& 4294967295)) (xs (nI i + 3).toNatClampNeg) M hR
        refine hgo [] _ _ _ _ ?_
        refine ob_ v1 ?_
        refine ob_ v2 ?_
        refine ob_ v3 ?_
        refine clp h1 ?_ (by omega)
        intro r M1 hp
        obtain ⟨rfl, d2, Po2, hd2, h3, h4⟩ := h2 r M1 hp
        refine ob_ v1 ?_
        refine ob_ v2 ?_
        refine ob_ v3 ?_
        refine clp h3 ?_ (by omega)
        intro r2 M2 hp2
        obtain ⟨rfl, hR2⟩ := h4 r2 M2 hp2
        refine brt rfl ?_
        exact nxt M2 hR2
      have q5 : J 411 [some (aR 16 0 0), some (aR 0 0 0), some (aR 11 0 0), some (aI (nI i))] [] M := by
        obtain ⟨v, d1, Po, hd1, h1, h2⟩ := op_house M hR
        refine hgo [] _ _ _ _ ?_
        refine clp h1 ?_ (by omega)
        intro r M1 hp
        obtain ⟨rfl, d2, Po2, hd2, h3, h4⟩ := h2 r M1 hp
        refine clp h3 ?_ (by omega)
        intro r2 M2 hp2
        obtain ⟨rfl, hR2⟩ := h4 r2 M2 hp2
        refine brt rfl ?_
        exact nxt M2 hR2
      have q6 : J 424 [some (aR 16 0 0), some (aR 0 0 0), some (aR 11 0 0), some (aI (nI i))] [] M := by
        obtain ⟨v, d1, Po, hd1, h1, h2⟩ := op_fault M hR
        refine hgo [] _ _ _ _ ?_
        refine clp h1 ?_ (by omega)
        intro r M1 hp
        obtain ⟨rfl, d2, Po2, hd2, h3, h4⟩ := h2 r M1 hp
        refine clp h3 ?_ (by omega)
        intro r2 M2 hp2
        obtain ⟨rfl, hR2⟩ := h4 r2 M2 hp2
        refine brt rfl ?_
        exact nxt M2 hR2
      have q7 : J 437 [some (aR 16 0 0), some (aR 0 0 0), some (aR 11 0 0), some (aI (nI i))] [] M := by
        obtain ⟨v, d1, Po, hd1, h1, h2⟩ := op_lift (xs (nI i + 1).toNatClampNeg) (xs (nI i + 2).toNatClampNeg) (xs (nI i + 3).toNatClampNeg) (xs (nI i + 4).toNatClampNeg) M hR
        refine hgo [] _ _ _ _ ?_
        refine ob_ v1 ?_
        refine ob_ v2 ?_
        refine ob_ v3 ?_
        refine ob_ v4 ?_
        refine clp h1 ?_ (by omega)
        intro r M1 hp
        obtain ⟨rfl, d2, Po2, hd2, h3, h4⟩ := h2 r M1 hp
        refine ob_ v1 ?_
        refine ob_ v2 ?_
        refine ob_ v3 ?_
        refine ob_ v4 ?_
        refine clp h3 ?_ (by omega)
        intro r2 M2 hp2
        obtain ⟨rfl, hR2⟩ := h4 r2 M2 hp2
        refine brt rfl ?_
        exact nxt M2 hR2
      have q8 : J 490 [some (aR 16 0 0), some (aR 0 0 0), some (aR 11 0 0), some (aI (nI i))] [] M := by
        obtain ⟨v, d1, Po, hd1, h1, h2⟩ := op_forget M hR
        refine hgo [] _ _ _ _ ?_
        refine clp h1 ?_ (by omega)
        intro r M1 hp
        obtain ⟨rfl, d2, Po2, hd2, h3, h4⟩ := h2 r M1 hp
        refine clp h3 ?_ (by omega)
        intro r2 M2 hp2
        obtain ⟨rfl, hR2⟩ := h4 r2 M2 hp2
        refine brt rfl ?_
        exact nxt M2 hR2
      have q9 : J 503 [some (aR 16 0 0), some (aR 0 0 0), some (aR 11 0 0), some (aI (nI i))] [] M := by
        obtain ⟨v, d1, Po, hd1, h1, h2⟩ := op_spot (xs (nI i + 1).toNatClampNeg) (xs (nI i + 2).toNatClampNeg) M hR
        refine hgo [] _ _ _ _ ?_
        refine ob_ v1 ?_
        refine ob_ v2 ?_
        refine clp h1 ?_ (by omega)
        intro r M1 hp
        obtain ⟨rfl, d2, Po2, hd2, h3, h4⟩ := h2 r M1 hp
        refine ob_ v1 ?_
        refine ob_ v2 ?_
        refine clp h3 ?_ (by omega)
        intro r2 M2 hp2
        obtain ⟨rfl, hR2⟩ := h4 r2 M2 hp2
        refine brt rfl ?_
        exact nxt M2 hR2
      have q10 : J 536 [some (aR 16 0 0), some (aR 0 0 0), some (aR 11 0 0), some (aI (nI i))] [] M := by
        obtain ⟨v, d1, Po, hd1, h1, h2⟩ := op_papers (xs (nI i + 1).toNatClampNeg) M hR
        refine hgo [] _ _ _ _ ?_
        refine ob_ v1 ?_
        refine clp h1 ?_ (by omega)
        intro r M1 hp
        obtain ⟨rfl, d2, Po2, hd2, h3, h4⟩ := h2 r M1 hp
        refine ob_ v1 ?_
        refine clp h3 ?_ (by omega)
        intro r2 M2 hp2
        obtain ⟨rfl, hR2⟩ := h4 r2 M2 hp2
        refine brt rfl ?_
        exact nxt M2 hR2
      have q11 : J 559 [some (aR 16 0 0), some (aR 0 0 0), some (aR 11 0 0), some (aI (nI i))] [] M := by
        obtain ⟨v, d1, Po, hd1, h1, h2⟩ := op_paper (xs (nI i + 1).toNatClampNeg) (xs (nI i + 2).toNatClampNeg) M hR
        refine hgo [] _ _ _ _ ?_
        refine ob_ v1 ?_
        refine ob_ v2 ?_
        refine clp h1 ?_ (by omega)
        intro r M1 hp
        obtain ⟨rfl, d2, Po2, hd2, h3, h4⟩ := h2 r M1 hp
        refine ob_ v1 ?_
        refine ob_ v2 ?_
        refine clp h3 ?_ (by omega)
        intro r2 M2 hp2
        obtain ⟨rfl, hR2⟩ := h4 r2 M2 hp2
        refine brt rfl ?_
        exact nxt M2 hR2
      have q12 : J 592 [some (aR 16 0 0), some (aR 0 0 0), some (aR 11 0 0), some (aI (nI i))] [] M := by
        obtain ⟨v, d1, Po, hd1, h1, h2⟩ := op_orders M hR
        refine hgo [] _ _ _ _ ?_
        refine clp h1 ?_ (by omega)
        intro r M1 hp
        obtain ⟨rfl, d2, Po2, hd2, h3, h4⟩ := h2 r M1 hp
        refine clp h3 ?_ (by omega)
        intro r2 M2 hp2
        obtain ⟨rfl, hR2⟩ := h4 r2 M2 hp2
        refine brt rfl ?_
        exact nxt M2 hR2
      have q13 : J 605 [some (aR 16 0 0), some (aR 0 0 0), some (aR 11 0 0), some (aI (nI i))] [] M := by
        obtain ⟨v, d1, Po, hd1, h1, h2⟩ := op_first (xs (nI i + 1).toNatClampNeg) M hR
        refine hgo [] _ _ _ _ ?_
        refine ob_ v1 ?_
        refine clp h1 ?_ (by omega)
        intro r M1 hp
        obtain ⟨rfl, d2, Po2, hd2, h3, h4⟩ := h2 r M1 hp
        refine ob_ v1 ?_
        refine clp h3 ?_ (by omega)
        intro r2 M2 hp2
        obtain ⟨rfl, hR2⟩ := h4 r2 M2 hp2
        refine brt rfl ?_
        exact nxt M2 hR2
      have q14 : J 628 [some (aR 16 0 0), some (aR 0 0 0), some (aR 11 0 0), some (aI (nI i))] [] M := by
        obtain ⟨v, d1, Po, hd1, h1, h2⟩ := op_odds (xs (nI i + 1).toNatClampNeg) (xs (nI i + 2).toNatClampNeg) (xs (nI i + 3).toNatClampNeg) M hR
        refine hgo [] _ _ _ _ ?_
        refine ob_ v1 ?_
        refine ob_ v2 ?_
        refine ob_ v3 ?_
        refine clp h1 ?_ (by omega)
        intro r M1 hp
        obtain ⟨rfl, d2, Po2, hd2, h3, h4⟩ := h2 r M1 hp
        refine ob_ v1 ?_
        refine ob_ v2 ?_
        refine ob_ v3 ?_
        refine clp h3 ?_ (by omega)
        intro r2 M2 hp2
        obtain ⟨rfl, hR2⟩ := h4 r2 M2 hp2
        refine brt rfl ?_
        exact nxt M2 hR2
      have q15 : J 671 [some (aR 16 0 0), some (aR 0 0 0), some (aR 11 0 0), some (aI (nI i))] [] M := by
        obtain ⟨v, d1, Po, hd1, h1, h2⟩ := op_next M hR
        refine hgo [] _ _ _ _ ?_
        refine clp h1 ?_ (by omega)
        intro r M1 hp
        obtain ⟨rfl, d2, Po2, hd2, h3, h4⟩ := h2 r M1 hp
        refine clp h3 ?_ (by omega)
        intro r2 M2 hp2
        obtain ⟨rfl, hR2⟩ := h4 r2 M2 hp2
        refine brt rfl ?_
        exact nxt M2 hR2
      have q16 : J 684 [some (aR 16 0 0), some (aR 0 0 0), some (aR 11 0 0), some (aI (nI i))] [] M := by
        obtain ⟨v, d1, Po, hd1, h1, h2⟩ := op_years (xs (nI i + 1).toNatClampNeg) (xs (nI i + 2).toNatClampNeg) M hR
        refine hgo [] _ _ _ _ ?_
        refine ob_ v1 ?_
        refine ob_ v2 ?_
        refine clp h1 ?_ (by omega)
        intro r M1 hp
        obtain ⟨rfl, d2, Po2, hd2, h3, h4⟩ := h2 r M1 hp
        refine ob_ v1 ?_
        refine ob_ v2 ?_
        refine clp h3 ?_ (by omega)
        intro r2 M2 hp2
        obtain ⟨rfl, hR2⟩ := h4 r2 M2 hp2
        refine brt rfl ?_
        exact nxt M2 hR2
      have q17 : J 717 [some (aR 16 0 0), some (aR 0 0 0), some (aR 11 0 0), some (aI (nI i))] [] M := by
        obtain ⟨v, d1, Po, hd1, h1, h2⟩ := op_younger (xs (nI i + 1).toNatClampNeg) (xs (nI i + 2).toNatClampNeg) M hR
        refine hgo [] _ _ _ _ ?_
        refine ob_ v1 ?_
        refine ob_ v2 ?_
        refine clp h1 ?_ (by omega)
        intro r M1 hp
        obtain ⟨rfl, d2, Po2, hd2, h3, h4⟩ := h2 r M1 hp
        refine ob_ v1 ?_
        refine ob_ v2 ?_
        refine clp h3 ?_ (by omega)
        intro r2 M2 hp2
        obtain ⟨rfl, hR2⟩ := h4 r2 M2 hp2
        refine brt rfl ?_
        exact nxt M2 hR2
      have q18 : J 750 [some (aR 16 0 0), some (aR 0 0 0), some (aR 11 0 0), some (aI (nI i))] [] M := by
        obtain ⟨v, d1, Po, hd1, h1, h2⟩ := op_lacks (xs (nI i + 1).toNatClampNeg) (xs (nI i + 2).toNatClampNeg) M hR
        refine hgo [] _ _ _ _ ?_
        refine ob_ v1 ?_
        refine ob_ v2 ?_
        refine clp h1 ?_ (by omega)
        intro r M1 hp
        obtain ⟨rfl, d2, Po2, hd2, h3, h4⟩ := h2 r M1 hp
        refine ob_ v1 ?_
        refine ob_ v2 ?_
        refine clp h3 ?_ (by omega)
        intro r2 M2 hp2
        obtain ⟨rfl, hR2⟩ := h4 r2 M2 hp2
        refine brt rfl ?_
        exact nxt M2 hR2
      have q19 : J 783 [some (aR 16 0 0), some (aR 0 0 0), some (aR 11 0 0), some (aI (nI i))] [] M := by
        obtain ⟨v, d1, Po, hd1, h1, h2⟩ := op_tenants (xs (nI i + 1).toNatClampNeg) M hR
        refine hgo [] _ _ _ _ ?_
        refine ob_ v1 ?_
        refine clp h1 ?_ (by omega)
        intro r M1 hp
        obtain ⟨rfl, d2, Po2, hd2, h3, h4⟩ := h2 r M1 hp
        refine ob_ v1 ?_
        refine clp h3 ?_ (by omega)
        intro r2 M2 hp2
        obtain ⟨rfl, hR2⟩ := h4 r2 M2 hp2
        refine brt rfl ?_
        exact nxt M2 hR2
      have q20 : J 806 [some (aR 16 0 0), some (aR 0 0 0), some (aR 11 0 0), some (aI (nI i))] [] M := by
        obtain ⟨v, d1, Po, hd1, h1, h2⟩ := op_cupboard (xs (nI i + 1).toNatClampNeg) (xs (nI i + 2).toNatClampNeg) M hR
        refine hgo [] _ _ _ _ ?_
        refine ob_ v1 ?_
        refine ob_ v2 ?_
        refine clp h1 ?_ (by omega)
        intro r M1 hp
        obtain ⟨rfl, d2, Po2, hd2, h3, h4⟩ := h2 r M1 hp
        refine ob_ v1 ?_
        refine ob_ v2 ?_
        refine clp h3 ?_ (by omega)
        intro r2 M2 hp2
        obtain ⟨rfl, hR2⟩ := h4 r2 M2 hp2
        refine brt rfl ?_
        exact nxt M2 hR2
      have q21 : J 839 [some (aR 16 0 0), some (aR 0 0 0), some (aR 11 0 0), some (aI (nI i))] [] M := by
        obtain ⟨v, d1, Po, hd1, h1, h2⟩ := op_scrap (xs (nI i + 1).toNatClampNeg) (xs (nI i + 2).toNatClampNeg) M hR
        refine hgo [] _ _ _ _ ?_
        refine ob_ v1 ?_
        refine ob_ v2 ?_
        refine clp h1 ?_ (by omega)
        intro r M1 hp
        obtain ⟨rfl, d2, Po2, hd2, h3, h4⟩ := h2 r M1 hp
        refine ob_ v1 ?_
        refine ob_ v2 ?_
        refine clp h3 ?_ (by omega)
        intro r2 M2 hp2
        obtain ⟨rfl, hR2⟩ := h4 r2 M2 hp2
        refine brt rfl ?_
        exact nxt M2 hR2
      have q22 : J 872 [some (aR 16 0 0), some (aR 0 0 0), some (aR 11 0 0), some (aI (nI i))] [] M := by
        obtain ⟨v, d1, Po, hd1, h1, h2⟩ := op_tells (xs (nI i + 1).toNatClampNeg) M hR
        refine hgo [] _ _ _ _ ?_
        refine ob_ v1 ?_
        refine clp h1 ?_ (by omega)
        intro r M1 hp
        obtain ⟨rfl, d2, Po2, hd2, h3, h4⟩ := h2 r M1 hp
        refine ob_ v1 ?_
        refine clp h3 ?_ (by omega)
        intro r2 M2 hp2
        obtain ⟨rfl, hR2⟩ := h4 r2 M2 hp2
        refine brt rfl ?_
        exact nxt M2 hR2
      have q23 : J 895 [some (aR 16 0 0), some (aR 0 0 0), some (aR 11 0 0), some (aI (nI i))] [] M := by
        obtain ⟨v, d1, Po, hd1, h1, h2⟩ := op_rolls (xs (nI i + 1).toNatClampNeg) (xs (nI i + 2).toNatClampNeg) (xs (nI i + 3).toNatClampNeg) M hR
        refine hgo [] _ _ _ _ ?_
        refine ob_ v1 ?_
        refine ob_ v2 ?_
        refine ob_ v3 ?_
        refine clp h1 ?_ (by omega)
        intro r M1 hp
        obtain ⟨rfl, d2, Po2, hd2, h3, h4⟩ := h2 r M1 hp
        refine ob_ v1 ?_
        refine ob_ v2 ?_
        refine ob_ v3 ?_
        refine clp h3 ?_ (by omega)
        intro r2 M2 hp2
        obtain ⟨rfl, hR2⟩ := h4 r2 M2 hp2
        refine brt rfl ?_
        exact nxt M2 hR2
      have q24 : J 938 [some (aR 16 0 0), some (aR 0 0 0), some (aR 11 0 0), some (aI (nI i))] [] M := by
        obtain ⟨v, d1, Po, hd1, h1, h2⟩ := op_image (xs (nI i + 1).toNatClampNeg) M hR
        refine hgo [] _ _ _ _ ?_
        refine ob_ v1 ?_
        refine clp h1 ?_ (by omega)
        intro r M1 hp
        obtain ⟨rfl, d2, Po2, hd2, h3, h4⟩ := h2 r M1 hp
        refine ob_ v1 ?_
        refine clp h3 ?_ (by omega)
        intro r2 M2 hp2
        obtain ⟨rfl, hR2⟩ := h4 r2 M2 hp2
        refine brt rfl ?_
        exact nxt M2 hR2
      have q25 : J 961 [some (aR 16 0 0), some (aR 0 0 0), some (aR 11 0 0), some (aI (nI i))] [] M := by
        obtain ⟨v, d1, Po, hd1, h1, h2⟩ := op_restore (xs (nI i + 1).toNatClampNeg) M hR
        refine hgo [] _ _ _ _ ?_
        refine ob_ v1 ?_
        refine clp h1 ?_ (by omega)
        intro r M1 hp
        obtain ⟨rfl, d2, Po2, hd2, h3, h4⟩ := h2 r M1 hp
        refine ob_ v1 ?_
        refine clp h3 ?_ (by omega)
        intro r2 M2 hp2
        obtain ⟨rfl, hR2⟩ := h4 r2 M2 hp2
        refine brt rfl ?_
        exact nxt M2 hR2
      have q26 : J 984 [some (aR 16 0 0), some (aR 0 0 0), some (aR 11 0 0), some (aI (nI i))] [] M := by
        obtain ⟨v, d1, Po, hd1, h1, h2⟩ := op_kind (xs (nI i + 1).toNatClampNeg) M hR
        refine hgo [] _ _ _ _ ?_
        refine ob_ v1 ?_
        refine clp h1 ?_ (by omega)
        intro r M1 hp
        obtain ⟨rfl, d2, Po2, hd2, h3, h4⟩ := h2 r M1 hp
        refine ob_ v1 ?_
        refine clp h3 ?_ (by omega)
        intro r2 M2 hp2
        obtain ⟨rfl, hR2⟩ := h4 r2 M2 hp2
        refine brt rfl ?_
        exact nxt M2 hR2
      have q27 : J 1007 [some (aR 16 0 0), some (aR 0 0 0), some (aR 11 0 0), some (aI (nI i))] [] M := by
        obtain ⟨v, d1, Po, hd1, h1, h2⟩ := op_as (xs (nI i + 1).toNatClampNeg) (xs (nI i + 2).toNatClampNeg) M hR
        refine hgo [] _ _ _ _ ?_
        refine ob_ v1 ?_
        refine ob_ v2 ?_
        refine clp h1 ?_ (by omega)
        intro r M1 hp
        obtain ⟨rfl, d2, Po2, hd2, h3, h4⟩ := h2 r M1 hp
        refine ob_ v1 ?_
        refine ob_ v2 ?_
        refine clp h3 ?_ (by omega)
        intro r2 M2 hp2
        obtain ⟨rfl, hR2⟩ := h4 r2 M2 hp2
        refine brt rfl ?_
        exact nxt M2 hR2
      have q28 : J 1040 [some (aR 16 0 0), some (aR 0 0 0), some (aR 11 0 0), some (aI (nI i))] [] M := by
        obtain ⟨v, d1, Po, hd1, h1, h2⟩ := op_ask (xs (nI i + 1).toNatClampNeg) (xs (nI i + 2).toNatClampNeg) M hR
        refine hgo [] _ _ _ _ ?_
        refine ob_ v1 ?_
        refine ob_ v2 ?_
        refine clp h1 ?_ (by omega)
        intro r M1 hp
        obtain ⟨rfl, d2, Po2, hd2, h3, h4⟩ := h2 r M1 hp
        refine ob_ v1 ?_
        refine ob_ v2 ?_
        refine clp h3 ?_ (by omega)
        intro r2 M2 hp2
        obtain ⟨rfl, hR2⟩ := h4 r2 M2 hp2
        refine brt rfl ?_
        exact nxt M2 hR2
      have q29 : J 1073 [some (aR 16 0 0), some (aR 0 0 0), some (aR 11 0 0), some (aI (nI i))] [] M := by
        obtain ⟨v, d1, Po, hd1, h1, h2⟩ := op_trace (xs (nI i + 1).toNatClampNeg) M hR
        refine hgo [] _ _ _ _ ?_
        refine ob_ v1 ?_
        refine clp h1 ?_ (by omega)
        intro r M1 hp
        obtain ⟨rfl, d2, Po2, hd2, h3, h4⟩ := h2 r M1 hp
        refine ob_ v1 ?_
        refine clp h3 ?_ (by omega)
        intro r2 M2 hp2
        obtain ⟨rfl, hR2⟩ := h4 r2 M2 hp2
        refine brt rfl ?_
        exact nxt M2 hR2
      have q30 : J 1096 [some (aR 16 0 0), some (aR 0 0 0), some (aR 11 0 0), some (aI (nI i))] [] M := by
        obtain ⟨v, d1, Po, hd1, h1, h2⟩ := op_count (xs (nI i + 1).toNatClampNeg) M hR
        refine hgo [] _ _ _ _ ?_
        refine ob_ v1 ?_
        refine clp h1 ?_ (by omega)
        intro r M1 hp
        obtain ⟨rfl, d2, Po2, hd2, h3, h4⟩ := h2 r M1 hp
        refine ob_ v1 ?_
        refine clp h3 ?_ (by omega)
        intro r2 M2 hp2
        obtain ⟨rfl, hR2⟩ := h4 r2 M2 hp2
        refine brt rfl ?_
        exact nxt M2 hR2
      have q31 : J 1119 [some (aR 16 0 0), some (aR 0 0 0), some (aR 11 0 0), some (aI (nI i))] [] M := by
        obtain ⟨v, d1, Po, hd1, h1, h2⟩ := op_status M hR
        refine hgo [] _ _ _ _ ?_
        refine clp h1 ?_ (by omega)
        intro r M1 hp
        obtain ⟨rfl, d2, Po2, hd2, h3, h4⟩ := h2 r M1 hp
        refine clp h3 ?_ (by omega)
        intro r2 M2 hp2
        obtain ⟨rfl, hR2⟩ := h4 r2 M2 hp2
        refine brt rfl ?_
        exact nxt M2 hR2
      have hb : J 27 [some (aR 16 0 0), some (aR 0 0 0), some (aR 11 0 0), some (aI (nI i))] [] M := by
        refine hgo [] _ _ _ _ ?_
        refine ob_ (vp_in_nI (by omega) (by omega)) ?_
        refine br_ (fun _ => q0) (fun _ => ?_)
        refine br_ (fun _ => q1) (fun _ => ?_)
        refine br_ (fun _ => q2) (fun _ => ?_)
        refine br_ (fun _ => q3) (fun _ => ?_)
        refine br_ (fun _ => q4) (fun _ => ?_)
        refine br_ (fun _ => q5) (fun _ => ?_)
        refine br_ (fun _ => q6) (fun _ => ?_)
        refine br_ (fun _ => q7) (fun _ => ?_)
        refine br_ (fun _ => q8) (fun _ => ?_)
        refine br_ (fun _ => q9) (fun _ => ?_)
        refine br_ (fun _ => q10) (fun _ => ?_)
        refine br_ (fun _ => q11) (fun _ => ?_)
        refine br_ (fun _ => q12) (fun _ => ?_)
        refine br_ (fun _ => q13) (fun _ => ?_)
        refine br_ (fun _ => q14) (fun _ => ?_)
        refine br_ (fun _ => q15) (fun _ => ?_)
        refine br_ (fun _ => q16) (fun _ => ?_)
        refine br_ (fun _ => q17) (fun _ => ?_)
        refine br_ (fun _ => q18) (fun _ => ?_)
        refine br_ (fun _ => q19) (fun _ => ?_)
        refine br_ (fun _ => q20) (fun _ => ?_)
        refine br_ (fun _ => q21) (fun _ => ?_)
        refine br_ (fun _ => q22) (fun _ => ?_)
        refine br_ (fun _ => q23) (fun _ => ?_)
        refine br_ (fun _ => q24) (fun _ => ?_)
        refine br_ (fun _ => q25) (fun _ => ?_)
        refine br_ (fun _ => q26) (fun _ => ?_)
        refine br_ (fun _ => q27) (fun _ => ?_)
        refine br_ (fun _ => q28) (fun _ => ?_)
        refine br_ (fun _ => q29) (fun _ => ?_)
        refine br_ (fun _ => q30) (fun _ => ?_)
        refine br_ (fun _ => q31) (fun _ => ?_)
        exact nxt M hR
      refine hgo [27] _ _ _ _ ?_
      refine brf (show ¬ Int32.ofNat L - 6 < nI i by
        rw [show Int32.ofNat L - 6 = nI (L - 6) from pk_sub (a := L) (b := 6) (by omega)]
        exact nI_nlt (by omega) (by omega)) ?_
      exact hb
    · refine hgo [] _ _ _ _ ?_
      refine brt (show Int32.ofNat L - 6 < nI i by
        rw [i3_lt, show Int32.ofNat L - 6 = nI L - nI 6 from rfl, pk_sub_toInt (by omega) (by omega), i3_n (by omega)]
        omega) ?_
      refine hgo [] _ _ _ _ ?_
      exact ob_ (by decide) rfl
