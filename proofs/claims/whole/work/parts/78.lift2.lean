/-! lift: both sides -/
theorem c_Main_lift_bad (nw : Nat) (w r i n : Int32) (M : am_M) (hn : M 4 0 0 0 = nI nw) (hnw : nw ≤ 8) (h : ¬ ((0 ≤ w.toInt ∧ w.toInt < nw) ∧ (0 ≤ r ∧ r < 8) ∧ (1 ≤ n ∧ n ≤ 8))) : Con 7 mMain_lift [aR 0 0 0, aI w, aI r, aI i, aI n] M (some (aI (-1000001))) M := by
  refine con_of okMain_lift [some (aR 0 0 0), some (aI w), some (aI r), some (aI i), some (aI n), none, none] (some .int) ?_
  intro J hgo
  have no : J 35 [some (aR 0 0 0), some (aI w), some (aI r), some (aI i), some (aI n), none, none] [] M := by
    refine hgo [] _ _ _ _ ?_
    exact ⟨rfl, rfl⟩
  refine hgo [35] _ _ _ _ ?_
  refine cl_ (c_House_isWall nw 0 w M hn (by omega)) ?_
  refine brb (fun _ => no) (fun g1 => ?_)
  refine cl_ (c_Rows_isRow r M) ?_
  refine brb (fun _ => no) (fun g2 => ?_)
  refine br_ (fun _ => no) (fun g3 => ?_)
  refine brf (fun g4 => h ⟨g1, g2, ?_, g4⟩) no
  simp only [i3_lt, i3_le, Int32.reduceToInt] at g3 ⊢
  omega
theorem c_Ref_lift_bad (nw : Nat) (w r i n : Int32) (M : am_M) (hn : M 11 0 4 0 = nI nw) (hnw : nw ≤ 8) (h : ¬ ((0 ≤ w.toInt ∧ w.toInt < nw) ∧ (0 ≤ r ∧ r < 8) ∧ (1 ≤ n ∧ n ≤ 8))) : Con 7 mRef_lift [aR 11 0 0, aI w, aI r, aI i, aI n] M (some (aI (-1000001))) (rT M) := by
  refine con_of okRef_lift [some (aR 11 0 0), some (aI w), some (aI r), some (aI i), some (aI n), none, none, none, none] (some .int) ?_
  intro J hgo
  have no : J 33 [some (aR 11 0 0), some (aI w), some (aI r), some (aI i), some (aI n), none, none, none, none] [] (rT M) := by
    refine hgo [] _ _ _ _ ?_
    exact ⟨rfl, rfl⟩
  refine hgo [33] _ _ _ _ ?_
  refine cl_ (c_Ref_isWall nw w _ (by exact hn) (by omega)) ?_
  refine brb (fun _ => no) (fun g1 => ?_)
  refine cl_ (c_Ref_isRow r _) ?_
  refine brb (fun _ => no) (fun g2 => ?_)
  refine cl_ (c_Ref_in n 1 8 _ _ _ rfl (by decide) (by decide) _) ?_
  refine brbf (fun g4 => h ⟨g1, g2, g4⟩) no
theorem c_Ref_lack1 (r : Nat) (i n : Int32) (M : am_M) (hr : r < 8) (h : M 11 0 1 r < 0) : Con 1 mRef_lack [aR 11 0 0, aI (nI r), aI i, aI n] M (some (aI 1)) M := by
  refine con_of okRef_lack [some (aR 11 0 0), some (aI (nI r)), some (aI i), some (aI n)] (some .int) ?_
  intro J hgo
  refine hgo [] _ _ _ _ ?_
  refine ob_ (vp_in_nI (by omega) (by omega)) ?_
  refine brf (show ¬ 0 ≤ M 11 0 1 (nI r).toNatClampNeg by rw [cl_nI (by omega)]; simp only [i3_lt, i3_le, Int32.reduceToInt] at h ⊢; omega) ?_
  refine hgo [] _ _ _ _ ?_
  exact ⟨rfl, rfl⟩
theorem c_Ref_lack2 (r m : Nat) (i n : Int32) (M : am_M) (hr : r < 8) (h : 0 ≤ M 11 0 1 r) (hm : M 11 0 2 r = nI m) (h40 : m ≤ 40) (x : Int32) (hx : x = if 0 ≤ i.toInt ∧ i.toInt + n.toInt ≤ m then 0 else 2) : Con 1 mRef_lack [aR 11 0 0, aI (nI r), aI i, aI n] M (some (aI x)) M := by
  have hrc : (nI r).toNatClampNeg = r := cl_nI (by omega)
  refine con_of okRef_lack [some (aR 11 0 0), some (aI (nI r)), some (aI i), some (aI n)] (some .int) ?_
  intro J hgo
  refine hgo [] _ _ _ _ ?_
  refine ob_ (vp_in_nI (by omega) (by omega)) ?_
  refine brt (show 0 ≤ M 11 0 1 (nI r).toNatClampNeg by rw [hrc]; exact h) ?_
  refine hgo [] _ _ _ _ ?_
  refine br_ (fun g1 => ?_) (fun g1 => ?_)
  · refine hgo [] _ _ _ _ ?_
    refine hgo [] _ _ _ _ ?_
    refine ⟨?_, rfl⟩
    simp only [i3_lt, Int32.reduceToInt] at g1
    rw [hx, if_neg (by omega)]
  · refine ob_ (vp_in_nI (by omega) (by omega)) ?_
    refine br_ (fun g2 => ?_) (fun g2 => ?_)
    · have g2 : lg_cmp (i.toInt64 + n.toInt64) (M 11 0 2 (nI r).toNatClampNeg).toInt64 ≤ 0 := g2
      rw [hrc, hm, l64sumle (by omega)] at g2
      refine hgo [] _ _ _ _ ?_
      refine ⟨?_, rfl⟩
      simp only [i3_lt, Int32.reduceToInt] at g1
      rw [hx, if_pos (by omega)]
    · have g2 : ¬ lg_cmp (i.toInt64 + n.toInt64) (M 11 0 2 (nI r).toNatClampNeg).toInt64 ≤ 0 := g2
      rw [hrc, hm, l64sumle (by omega)] at g2
      refine hgo [] _ _ _ _ ?_
      refine ⟨?_, rfl⟩
      rw [hx, if_neg (by omega)]
theorem c_Main_lift_full (nw w r n s : Nat) (i : Int32) (M : am_M) (hn : M 4 0 0 0 = nI nw) (hnw : nw ≤ 8) (hw : w < nw) (hr : r < 8) (h1 : 1 ≤ n) (h8 : n ≤ 8) (hs : M 5 0 0 0 = nI s) (hs9 : s ≤ 9) (h9 : s = 9) : Con 7 mMain_lift [aR 0 0 0, aI (nI w), aI (nI r), aI i, aI (nI n)] M (some (aI (-1000003))) M := by
  refine con_of okMain_lift [some (aR 0 0 0), some (aI (nI w)), some (aI (nI r)), some (aI i), some (aI (nI n)), none, none] (some .int) ?_
  intro J hgo
  refine hgo [] _ _ _ _ ?_
  refine cl_ (c_House_isWall nw 0 (nI w) M hn (by omega)) ?_
  refine brbt (by rw [i3_n (by omega)]; omega) ?_
  refine cl_ (c_Rows_isRow (nI r) M) ?_
  refine brbt (nin (n := 8) hr (by omega)) ?_
  refine brf (nI_nlt (b := 1) h1 (by omega)) ?_
  refine brt (nI_le (b := 8) h8 (by omega)) ?_
  refine hgo [] _ _ _ _ ?_
  refine cl_ (c_Spots_hasRoom s M hs (by omega)) ?_
  refine brbf (by omega) ?_
  exact ⟨rfl, rfl⟩
theorem c_Ref_lift_full (nw w r n s : Nat) (i : Int32) (M : am_M) (hn : M 11 0 4 0 = nI nw) (hnw : nw ≤ 8) (hw : w < nw) (hr : r < 8) (h1 : 1 ≤ n) (h8 : n ≤ 8) (hs : M 11 0 4 3 = nI s) (hs9 : s ≤ 9) (h9 : s = 9) : Con 7 mRef_lift [aR 11 0 0, aI (nI w), aI (nI r), aI i, aI (nI n)] M (some (aI (-1000003))) (rT M) := by
  have hrc : (nI r).toNatClampNeg = r := cl_nI (by omega)
  refine con_of okRef_lift [some (aR 11 0 0), some (aI (nI w)), some (aI (nI r)), some (aI i), some (aI (nI n)), none, none, none, none] (some .int) ?_
  intro J hgo
  refine hgo [] _ _ _ _ ?_
  refine cl_ (c_Ref_isWall nw (nI w) _ (by exact hn) (by omega)) ?_
  refine brbt (by rw [i3_n (by omega)]; omega) ?_
  refine cl_ (c_Ref_isRow (nI r) _) ?_
  refine brbt (nin (n := 8) hr (by omega)) ?_
  refine cl_ (c_Ref_in (nI n) 1 8 _ _ _ rfl (by decide) (by decide) _) ?_
  refine brbt ⟨nI_le (a := 1) h1 (by omega), nI_le (b := 8) h8 (by omega)⟩ ?_
  refine hgo [] _ _ _ _ ?_
  refine ob_ (vp_in_nI (n := 3) (N := 198) (by omega) (by omega)) ?_
  refine brt (show M 11 0 4 3 = nI 9 by rw [hs, h9]) ?_
  exact ⟨rfl, rfl⟩
theorem c_Main_lift_null (nw w r n s : Nat) (i : Int32) (M : am_M) (hn : M 4 0 0 0 = nI nw) (hnw : nw ≤ 8) (hw : w < nw) (hr : r < 8) (h1 : 1 ≤ n) (h8 : n ≤ 8) (hs : M 5 0 0 0 = nI s) (hs9 : s ≤ 9) (h9 : s < 9) (g : M 1 0 1 r = 0) : Con 7 mMain_lift [aR 0 0 0, aI (nI w), aI (nI r), aI i, aI (nI n)] M (some (aI (-1000011))) (mS M 1) := by
  refine con_of okMain_lift [some (aR 0 0 0), some (aI (nI w)), some (aI (nI r)), some (aI i), some (aI (nI n)), none, none] (some .int) ?_
  intro J hgo
  refine hgo [] _ _ _ _ ?_
  refine cl_ (c_House_isWall nw 0 (nI w) M hn (by omega)) ?_
  refine brbt (by rw [i3_n (by omega)]; omega) ?_
  refine cl_ (c_Rows_isRow (nI r) M) ?_
  refine brbt (nin (n := 8) hr (by omega)) ?_
  refine brf (nI_nlt (b := 1) h1 (by omega)) ?_
  refine brt (nI_le (b := 8) h8 (by omega)) ?_
  refine hgo [] _ _ _ _ ?_
  refine cl_ (c_Spots_hasRoom s M hs (by omega)) ?_
  refine brbt h9 ?_
  refine hgo [] _ _ _ _ ?_
  refine cl_ (c_Rows_isThereN r M hr) ?_
  refine brbf (fun q => q g) ?_
  refine cl_ (c_Main_found 1 M) ?_
  exact ⟨rfl, rfl⟩
theorem c_Ref_lift_null (nw w r n s : Nat) (i : Int32) (M : am_M) (hn : M 11 0 4 0 = nI nw) (hnw : nw ≤ 8) (hw : w < nw) (hr : r < 8) (h1 : 1 ≤ n) (h8 : n ≤ 8) (hs : M 11 0 4 3 = nI s) (hs9 : s ≤ 9) (h9 : s < 9) (g : M 11 0 1 r < 0) : Con 7 mRef_lift [aR 11 0 0, aI (nI w), aI (nI r), aI i, aI (nI n)] M (some (aI (-1000011))) (rS (rT M) 1) := by
  have hrc : (nI r).toNatClampNeg = r := cl_nI (by omega)
  refine con_of okRef_lift [some (aR 11 0 0), some (aI (nI w)), some (aI (nI r)), some (aI i), some (aI (nI n)), none, none, none, none] (some .int) ?_
  intro J hgo
  refine hgo [] _ _ _ _ ?_
  refine cl_ (c_Ref_isWall nw (nI w) _ (by exact hn) (by omega)) ?_
  refine brbt (by rw [i3_n (by omega)]; omega) ?_
  refine cl_ (c_Ref_isRow (nI r) _) ?_
  refine brbt (nin (n := 8) hr (by omega)) ?_
  refine cl_ (c_Ref_in (nI n) 1 8 _ _ _ rfl (by decide) (by decide) _) ?_
  refine brbt ⟨nI_le (a := 1) h1 (by omega), nI_le (b := 8) h8 (by omega)⟩ ?_
  refine hgo [] _ _ _ _ ?_
  refine ob_ (vp_in_nI (n := 3) (N := 198) (by omega) (by omega)) ?_
  refine brf (show ¬ M 11 0 4 3 = nI 9 by rw [hs, nI_eq (by omega) (by omega)]; omega) ?_
  refine hgo [] _ _ _ _ ?_
  refine cl_ (c_Ref_lack1 r i (nI n) _ hr (by exact g)) ?_
  refine brf (by decide) ?_
  refine cl_ (c_Ref_finding 1 _) ?_
  exact ⟨rfl, rfl⟩
theorem c_Main_lift_place (nw w r n s : Nat) (i : Int32) (M : am_M) (hn : M 4 0 0 0 = nI nw) (hnw : nw ≤ 8) (hw : w < nw) (hr : r < 8) (h1 : 1 ≤ n) (h8 : n ≤ 8) (hs : M 5 0 0 0 = nI s) (hs9 : s ≤ 9) (h9 : s < 9) (g : ¬ M 1 0 1 r = 0) (m : Nat) (hm : M 1 0 3 r = nI m) (h40 : m ≤ 40) (hp : ¬ (0 ≤ i.toInt ∧ i.toInt + n ≤ m)) : Con 7 mMain_lift [aR 0 0 0, aI (nI w), aI (nI r), aI i, aI (nI n)] M (some (aI (-1000012))) (mS M 2) := by
  refine con_of okMain_lift [some (aR 0 0 0), some (aI (nI w)), some (aI (nI r)), some (aI i), some (aI (nI n)), none, none] (some .int) ?_
  intro J hgo
  refine hgo [] _ _ _ _ ?_
  refine cl_ (c_House_isWall nw 0 (nI w) M hn (by omega)) ?_
  refine brbt (by rw [i3_n (by omega)]; omega) ?_
  refine cl_ (c_Rows_isRow (nI r) M) ?_
  refine brbt (nin (n := 8) hr (by omega)) ?_
  refine brf (nI_nlt (b := 1) h1 (by omega)) ?_
  refine brt (nI_le (b := 8) h8 (by omega)) ?_
  refine hgo [] _ _ _ _ ?_
  refine cl_ (c_Spots_hasRoom s M hs (by omega)) ?_
  refine brbt h9 ?_
  refine hgo [] _ _ _ _ ?_
  refine cl_ (c_Rows_isThereN r M hr) ?_
  refine brbt g ?_
  refine hgo [] _ _ _ _ ?_
  refine cl_ (c_Rows_holdsN r m i (nI n) M hr hm h40) ?_
  refine brbf (fun q => hp ?_) ?_
  · rw [i3_n (by omega)] at q
    exact ⟨q.1, q.2.2⟩
  refine cl_ (c_Main_found 2 M) ?_
  exact ⟨rfl, rfl⟩
theorem c_Ref_lift_place (nw w r n s : Nat) (i : Int32) (M : am_M) (hn : M 11 0 4 0 = nI nw) (hnw : nw ≤ 8) (hw : w < nw) (hr : r < 8) (h1 : 1 ≤ n) (h8 : n ≤ 8) (hs : M 11 0 4 3 = nI s) (hs9 : s ≤ 9) (h9 : s < 9) (g : 0 ≤ M 11 0 1 r) (m : Nat) (hm : M 11 0 2 r = nI m) (h40 : m ≤ 40) (hp : ¬ (0 ≤ i.toInt ∧ i.toInt + n ≤ m)) : Con 7 mRef_lift [aR 11 0 0, aI (nI w), aI (nI r), aI i, aI (nI n)] M (some (aI (-1000012))) (rS (rT M) 2) := by
  have hrc : (nI r).toNatClampNeg = r := cl_nI (by omega)
  refine con_of okRef_lift [some (aR 11 0 0), some (aI (nI w)), some (aI (nI r)), some (aI i), some (aI (nI n)), none, none, none, none] (some .int) ?_
  intro J hgo
  refine hgo [] _ _ _ _ ?_
  refine cl_ (c_Ref_isWall nw (nI w) _ (by exact hn) (by omega)) ?_
  refine brbt (by rw [i3_n (by omega)]; omega) ?_
  refine cl_ (c_Ref_isRow (nI r) _) ?_
  refine brbt (nin (n := 8) hr (by omega)) ?_
  refine cl_ (c_Ref_in (nI n) 1 8 _ _ _ rfl (by decide) (by decide) _) ?_
  refine brbt ⟨nI_le (a := 1) h1 (by omega), nI_le (b := 8) h8 (by omega)⟩ ?_
  refine hgo [] _ _ _ _ ?_
  refine ob_ (vp_in_nI (n := 3) (N := 198) (by omega) (by omega)) ?_
  refine brf (show ¬ M 11 0 4 3 = nI 9 by rw [hs, nI_eq (by omega) (by omega)]; omega) ?_
  refine hgo [] _ _ _ _ ?_
  refine cl_ (c_Ref_lack2 r m i (nI n) _ hr (by exact g) (by exact hm) h40 2 (by rw [i3_n (by omega), if_neg hp])) ?_
  refine brf (by decide) ?_
  refine cl_ (c_Ref_finding 2 _) ?_
  exact ⟨rfl, rfl⟩
theorem c_Main_lift_like (nw w r n s : Nat) (i : Int32) (M : am_M) (hn : M 4 0 0 0 = nI nw) (hnw : nw ≤ 8) (hw : w < nw) (hr : r < 8) (h1 : 1 ≤ n) (h8 : n ≤ 8) (hs : M 5 0 0 0 = nI s) (hs9 : s ≤ 9) (h9 : s < 9) (g : ¬ M 1 0 1 r = 0) (m i0 np : Nat) (hm : M 1 0 3 r = nI m) (h40 : m ≤ 40) (hi : i = nI i0) (hp : i0 + n ≤ m) (hnp : M 4 0 0 4 = nI np) (h10 : np ≤ 10) (f : Nat → Int32) (hf : ∀ k, k < n → M 1 0 4 (40 * r + (i0 + k)) = f k) (hu : ¬ unl f np n = true) : Con 7 mMain_lift [aR 0 0 0, aI (nI w), aI (nI r), aI i, aI (nI n)] M (some (aI (-1000001))) M := by
  subst hi
  refine con_of okMain_lift [some (aR 0 0 0), some (aI (nI w)), some (aI (nI r)), some (aI (nI i0)), some (aI (nI n)), none, none] (some .int) ?_
  intro J hgo
  refine hgo [] _ _ _ _ ?_
  refine cl_ (c_House_isWall nw 0 (nI w) M hn (by omega)) ?_
  refine brbt (by rw [i3_n (by omega)]; omega) ?_
  refine cl_ (c_Rows_isRow (nI r) M) ?_
  refine brbt (nin (n := 8) hr (by omega)) ?_
  refine brf (nI_nlt (b := 1) h1 (by omega)) ?_
  refine brt (nI_le (b := 8) h8 (by omega)) ?_
  refine hgo [] _ _ _ _ ?_
  refine cl_ (c_Spots_hasRoom s M hs (by omega)) ?_
  refine brbt h9 ?_
  refine hgo [] _ _ _ _ ?_
  refine cl_ (c_Rows_isThereN r M hr) ?_
  refine brbt g ?_
  refine hgo [] _ _ _ _ ?_
  refine cl_ (c_Rows_holdsN r m (nI i0) (nI n) M hr hm h40) ?_
  refine brbt (by rw [i3_n (by omega), i3_n (by omega)]; omega) ?_
  refine hgo [] _ _ _ _ ?_
  refine cl_ (c_Main_unlike r i0 n m np f M hr hm h40 hp hnp h10 hf) ?_
  refine brbf hu ?_
  exact ⟨rfl, rfl⟩
theorem c_Ref_lift_like (nw w r n s : Nat) (i : Int32) (M : am_M) (hn : M 11 0 4 0 = nI nw) (hnw : nw ≤ 8) (hw : w < nw) (hr : r < 8) (h1 : 1 ≤ n) (h8 : n ≤ 8) (hs : M 11 0 4 3 = nI s) (hs9 : s ≤ 9) (h9 : s < 9) (g : 0 ≤ M 11 0 1 r) (m i0 np : Nat) (hm : M 11 0 2 r = nI m) (h40 : m ≤ 40) (hi : i = nI i0) (hp : i0 + n ≤ m) (hnp : M 11 0 4 1 = nI np) (h10 : np ≤ 10) (f : Nat → Int32) (hf : ∀ k, k < n → M 11 0 3 (40 * r + (i0 + k)) = f k) (hu : ¬ unl f np n = true) : Con 7 mRef_lift [aR 11 0 0, aI (nI w), aI (nI r), aI i, aI (nI n)] M (some (aI (-1000001))) (rT M) := by
  have hrc : (nI r).toNatClampNeg = r := cl_nI (by omega)
  subst hi
  refine con_of okRef_lift [some (aR 11 0 0), some (aI (nI w)), some (aI (nI r)), some (aI (nI i0)), some (aI (nI n)), none, none, none, none] (some .int) ?_
  intro J hgo
  have loop : ∀ m k kv x (z8 : Option am_V), m = n - k → k ≤ n → kv = nI k → x = bs (told f k) → unl f np k = true → J 78 [some (aR 11 0 0), some (aI (nI w)), some (aI (nI r)), some (aI (nI i0)), some (aI (nI n)), some (aI 0), some (aI x), some (aI kv), z8] [] (rT M) := by
    intro m
    induction m with
    | zero =>
      intro k kv x z8 hm hk hv hx hu2
      obtain rfl : k = n := by omega
      subst hv
      exact absurd hu2 hu
    | succ m ih =>
      intro k kv x z8 hm hk hv hx hu2
      subst hv hx
      have hlt : k < n := by omega
      have ei : 40 * nI r + nI i0 + nI k = nI (40 * r + (i0 + k)) := by rw [show (40 : Int32) = nI 40 from rfl, pk_mul, nI_add, nI_add, Nat.add_assoc]
      have no : ¬ unl f np (k + 1) = true → J 120 [some (aR 11 0 0), some (aI (nI w)), some (aI (nI r)), some (aI (nI i0)), some (aI (nI n)), some (aI 0), some (aI (bs (told f k))), some (aI (nI k)), some (aI (f k))] [] (rT M) := by
        intro hu3
        refine hgo [] _ _ _ _ ?_
        exact ⟨rfl, rfl⟩
      have c98 : J 98 [some (aR 11 0 0), some (aI (nI w)), some (aI (nI r)), some (aI (nI i0)), some (aI (nI n)), some (aI 0), some (aI (bs (told f k))), some (aI (nI k)), z8] [aI (nI (40 * r + (i0 + k))), aR 11 0 3] (rT M) := by
        have ec : (nI (40 * r + (i0 + k))).toNatClampNeg = 40 * r + (i0 + k) := cl_nI (by omega)
        refine hgo [99] _ _ _ _ ?_
        refine ob_ (vp_in_nI (by omega) (by omega)) ?_
        show J 99 _ [aI (M 11 0 3 (nI (40 * r + (i0 + k))).toNatClampNeg)] (rT M)
        rw [ec, hf k hlt]
        refine hgo [120] _ _ _ _ ?_
        refine cl_ (c_Ref_isPaper np (f k) _ (by exact hnp) (by omega)) ?_
        refine brb (fun g1 => ?_) (fun g1 => ?_)
        · refine no (fun q => g1 ?_)
          exact unl_in q k (by omega)
        · have hx := i3_of g1.1
          have hc := i3_cl g1.1
          have hl : hN f k < 10 := by unfold hN; omega
          refine cle (c_Ref_isIn (told f k) (hN f k) _ hl) (by unfold hN; rw [← hx]) rfl ?_
          refine brb (fun g2 => ?_) (fun g2 => ?_)
          · refine hgo [] _ _ _ _ ?_
            refine ih (k + 1) _ _ _ (by omega) (by omega) (nI_1 k) ?_ ?_
            · rw [hx]
              show bs (told f k) ||| (1 : Int32) <<< (nI (hN f k) &&& 31) = _
              rw [bs_one hl, told_s]
            · rw [unl_s, hu2, decide_eq_true g1]
              show (true && (true && !told f k (hN f k))) = true
              rw [Bool.eq_false_iff.mpr g2]
              rfl
          · refine no (fun q => ?_)
            rw [unl_s, Bool.and_eq_true, Bool.and_eq_true] at q
            have q3 : (!told f k (hN f k)) = true := q.2.2
            rw [g2] at q3
            cases q3
      refine hgo [98] _ _ _ _ ?_
      refine brf (nI_ge hlt (by omega)) ?_
      rw [← ei] at c98
      exact c98
  refine hgo [] _ _ _ _ ?_
  refine cl_ (c_Ref_isWall nw (nI w) _ (by exact hn) (by omega)) ?_
  refine brbt (by rw [i3_n (by omega)]; omega) ?_
  refine cl_ (c_Ref_isRow (nI r) _) ?_
  refine brbt (nin (n := 8) hr (by omega)) ?_
  refine cl_ (c_Ref_in (nI n) 1 8 _ _ _ rfl (by decide) (by decide) _) ?_
  refine brbt ⟨nI_le (a := 1) h1 (by omega), nI_le (b := 8) h8 (by omega)⟩ ?_
  refine hgo [] _ _ _ _ ?_
  refine ob_ (vp_in_nI (n := 3) (N := 198) (by omega) (by omega)) ?_
  refine brf (show ¬ M 11 0 4 3 = nI 9 by rw [hs, nI_eq (by omega) (by omega)]; omega) ?_
  refine hgo [] _ _ _ _ ?_
  refine cl_ (c_Ref_lack2 r m (nI i0) (nI n) _ hr (by exact g) (by exact hm) h40 0 (by rw [i3_n (by omega), i3_n (by omega), if_pos (by omega)])) ?_
  refine brt (by decide) ?_
  refine hgo [78] _ _ _ _ ?_
  exact loop _ 0 _ _ _ rfl (by omega) rfl (by rw [← bs_0]; rfl) rfl
theorem c_Main_lift_ok (nw w r n s : Nat) (i : Int32) (M : am_M) (hn : M 4 0 0 0 = nI nw) (hnw : nw ≤ 8) (hw : w < nw) (hr : r < 8) (h1 : 1 ≤ n) (h8 : n ≤ 8) (hs : M 5 0 0 0 = nI s) (hs9 : s ≤ 9) (h9 : s < 9) (g : ¬ M 1 0 1 r = 0) (m i0 np : Nat) (hm : M 1 0 3 r = nI m) (h40 : m ≤ 40) (hi : i = nI i0) (hp : i0 + n ≤ m) (hnp : M 4 0 0 4 = nI np) (h10 : np ≤ 10) (f : Nat → Int32) (hf : ∀ k, k < n → M 1 0 4 (40 * r + (i0 + k)) = f k) (h : Nat → Int32) (hv : HV h) (hrh : RH (M 4 0) (M 5 0) h) (hnS : nS h = s) (ew : nW h = nw) (enp : nP h = np) (hu : unl f np n = true) : ConP 7 mMain_lift [aR 0 0 0, aI (nI w), aI (nI r), aI i, aI (nI n)] M (fun r M2 => r = some (aI (nI s)) ∧ (∀ k, k ≠ 0 → k ≠ 5 → k ≠ 7 → k ≠ 8 → M2 k = M k) ∧ M2 0 0 0 = upd (M 0 0 0) 12 0 ∧ RH (M2 4 0) (M2 5 0) (lfH h f s w n) ∧ (∀ i, i ≠ 0 → M2 5 i = M 5 i) ∧ FO (M2 7 0) (lfH h f s w n) ∧ FX (M2 7 0) (lfH h f s w n) ∧ M2 8 0 0 1 = 0) := by
  subst hi
  have hv2 : HV (lfH h f s w n) := HV_lf hv hnS h9 (by omega) h1 h8 (fun k hk => by rw [enp]; exact unl_in hu k hk)
  refine con_of okMain_lift [some (aR 0 0 0), some (aI (nI w)), some (aI (nI r)), some (aI (nI i0)), some (aI (nI n)), none, none] (some .int) ?_
  intro J hgo
  have loop : ∀ t k kv M2, t = n - k → k ≤ n → kv = nI k → SSame M M2 0 → M2 5 0 0 0 = nI (s + 1) → M2 5 0 1 = upd (M 5 0 1) s (nI w) → (∀ q, q ≠ s → M2 5 0 2 q = M 5 0 2 q) → M2 5 0 2 s = nI k → (∀ x, x < 8 * s → M2 5 0 3 x = M 5 0 3 x) → (∀ q, q < k → M2 5 0 3 (8 * s + q) = f q) → J 122 [some (aR 0 0 0), some (aI (nI w)), some (aI (nI r)), some (aI (nI i0)), some (aI (nI n)), some (aI (nI s)), some (aI kv)] [] M2 := by
    intro t
    induction t with
    | zero =>
      intro k kv M2 ht hk hkv a1 a2 a3 a4 a5 a6 a7
      obtain rfl : k = n := by omega
      subst hkv
      have hrb : RH (M2 4 0) (M2 5 0) (lfH h f s w k) := by
        rw [a1.1 4 (by decide)]
        exact RH_lf hv hnS h9 h1 h8 hrh a2 a3 a4 a5 a6 a7
      refine hgo [] _ _ _ _ ?_
      refine brt (nI_le (Nat.le_refl _) (by omega)) ?_
      refine hgo [] _ _ _ _ ?_
      refine clp (c_Main_learnAnew (lfH h f s w k) M2 hv2 hrb) ?_
      rintro r M3 ⟨rfl, d1, d2, d3, d4⟩
      refine cl_ (c_Main_clean (nI s) M3) ?_
      have e0 : M3 0 = M 0 := (d1 0 (by decide) (by decide)).trans (a1.1 0 (by decide))
      refine ⟨rfl, fun k g0 g5 g7 g8 => (sA_k g0).trans ((d1 k g7 g8).trans (a1.1 k g5)), ?_, ?_, fun i hi => ?_, d2, d3, d4⟩
      · show upd (M3 0 0 0) 12 0 = _
        rw [e0]
      · show RH (M3 4 0) (M3 5 0) _
        rw [d1 4 (by decide) (by decide), d1 5 (by decide) (by decide)]
        exact hrb
      · show M3 5 i = _
        rw [d1 5 (by decide) (by decide)]
        exact a1.2 i hi
    | succ t ih =>
      intro k kv M2 ht hk hkv a1 a2 a3 a4 a5 a6 a7
      subst hkv
      have hlt : k < n := by omega
      have e1 := a1.1 1 (by decide)
      have it : Con 3 mRows_item [aR 1 0 0, aI (nI r), aI (nI (i0 + k))] M2 (some (aI (f k))) M2 := by
        rw [← hf k hlt, ← e1]
        exact c_Rows_item r (i0 + k) m M2 hr (by rw [e1]; exact hm) h40 (by omega)
      refine hgo [] _ _ _ _ ?_
      refine brf (nI_ge hlt (by omega)) ?_
      refine cle it (by rw [nI_add]) rfl ?_
      refine clp (c_Spots_lay s (s + 1) k (f k) M2 a2 (by omega) (by omega) a5 (by omega)) ?_
      rintro r M3 ⟨rfl, b1, b2, b3, b4, b5⟩
      refine ih (k + 1) _ M3 (by omega) (by omega) (nI_1 k) (a1.tr b1) (by rw [b2]; exact a2) (by rw [b3]; exact a3) (fun q hq => by rw [b4, upd_n hq]; exact a4 q hq) (by rw [b4]; exact upd_s) (fun x hx => by rw [b5, upd_n (by omega)]; exact a6 x hx) (fun q hq => ?_)
      rw [b5]
      by_cases e : q = k
      · rw [e, upd_s]
      · rw [upd_n (by omega)]
        exact a7 q (by omega)
  refine hgo [122] _ _ _ _ ?_
  refine cl_ (c_House_isWall nw 0 (nI w) M hn (by omega)) ?_
  refine brbt (by rw [i3_n (by omega)]; omega) ?_
  refine cl_ (c_Rows_isRow (nI r) M) ?_
  refine brbt (nin (n := 8) hr (by omega)) ?_
  refine brf (nI_nlt (b := 1) h1 (by omega)) ?_
  refine brt (nI_le (b := 8) h8 (by omega)) ?_
  refine hgo [122] _ _ _ _ ?_
  refine cl_ (c_Spots_hasRoom s M hs (by omega)) ?_
  refine brbt h9 ?_
  refine hgo [122] _ _ _ _ ?_
  refine cl_ (c_Rows_isThereN r M hr) ?_
  refine brbt g ?_
  refine hgo [122] _ _ _ _ ?_
  refine cl_ (c_Rows_holdsN r m (nI i0) (nI n) M hr hm h40) ?_
  refine brbt (by rw [i3_n (by omega), i3_n (by omega)]; omega) ?_
  refine hgo [122] _ _ _ _ ?_
  refine cl_ (c_Main_unlike r i0 n m np f M hr hm h40 hp hnp h10 hf) ?_
  refine brbt hu ?_
  refine hgo [122] _ _ _ _ ?_
  refine clp (c_Spots_open s (nI w) M hs h9) ?_
  rintro r M2 ⟨rfl, b1, b2, b3, b4, b5⟩
  rw [hs]
  exact loop _ 0 _ M2 rfl (by omega) rfl b1 b2 b3 (fun q hq => by rw [b4, upd_n hq]) (by rw [b4]; exact upd_s) (fun x hx => by rw [b5]) (fun q hq => by omega)
theorem c_Ref_lift_ok (nw w r n s : Nat) (i : Int32) (M : am_M) (hn : M 11 0 4 0 = nI nw) (hnw : nw ≤ 8) (hw : w < nw) (hr : r < 8) (h1 : 1 ≤ n) (h8 : n ≤ 8) (hs : M 11 0 4 3 = nI s) (hs9 : s ≤ 9) (h9 : s < 9) (g : 0 ≤ M 11 0 1 r) (m i0 np : Nat) (hm : M 11 0 2 r = nI m) (h40 : m ≤ 40) (hi : i = nI i0) (hp : i0 + n ≤ m) (hnp : M 11 0 4 1 = nI np) (h10 : np ≤ 10) (f : Nat → Int32) (hf : ∀ k, k < n → M 11 0 3 (40 * r + (i0 + k)) = f k) (h : Nat → Int32) (h4 : M 11 0 4 = h) (hv : HV h) (hnS : nS h = s) (ew : nW h = nw) (enp : nP h = np) (hu : unl f np n = true) : ConP 7 mRef_lift [aR 11 0 0, aI (nI w), aI (nI r), aI i, aI (nI n)] M (fun r M2 => r = some (aI (nI s)) ∧ (∀ k, k ≠ 11 → M2 k = M k) ∧ M2 11 0 4 = lfH h f s w n ∧ (∀ o, o ≠ 0 → o ≠ 4 → o ≠ 7 → o ≠ 8 → o ≠ 9 → M2 11 0 o = M 11 0 o) ∧ (∀ i, i ≠ 0 → i ≠ 1 → i ≠ 18 → M2 11 0 0 i = M 11 0 0 i) ∧ M2 11 0 0 1 = 0 ∧ FR (M2 11 0 0 18) (M2 11 0 7) (M2 11 0 8) (M2 11 0 9) (lfH h f s w n)) := by
  have hrc : (nI r).toNatClampNeg = r := cl_nI (by omega)
  subst hi
  have hv2 : HV (lfH h f s w n) := HV_lf hv hnS h9 (by omega) h1 h8 (fun k hk => by rw [enp]; exact unl_in hu k hk)
  refine con_of okRef_lift [some (aR 11 0 0), some (aI (nI w)), some (aI (nI r)), some (aI (nI i0)), some (aI (nI n)), none, none, none, none] (some .int) ?_
  intro J hgo
  have loop2 : ∀ t k kv g, t = n - k → k ≤ n → kv = nI k → g 3 = nI s → g (108 + 10 * s) = nI w → g (109 + 10 * s) = nI n → (∀ q, q < k → g (110 + 10 * s + q) = f q) → (∀ x, x ≠ 3 → x ≠ 108 + 10 * s → x ≠ 109 + 10 * s → ¬ (110 + 10 * s ≤ x ∧ x < 110 + 10 * s + k) → g x = h x) → J 179 [some (aR 11 0 0), some (aI (nI w)), some (aI (nI r)), some (aI (nI i0)), some (aI (nI n)), some (aI 0), some (aI (bs (told f n))), some (aI (nI (108 + 10 * s))), some (aI kv)] [] (sA (rS (rT M) 0) 11 0 4 g) := by
    intro t
    induction t with
    | zero =>
      intro k kv g ht hk hkv a1 a2 a3 a4 a5
      obtain rfl : k = n := by omega
      subst hkv
      have eg : upd g 3 (nI (s + 1)) = lfH h f s w k := by
        funext x
        unfold lfH
        by_cases e3 : x = 3
        · subst e3
          rw [upd_s, if_pos rfl]
        · rw [upd_n e3, if_neg e3]
          by_cases e8 : x = 108 + 10 * s
          · rw [if_pos e8, e8, a2]
          · rw [if_neg e8]
            by_cases e9 : x = 109 + 10 * s
            · rw [if_pos e9, e9, a3]
            · rw [if_neg e9]
              by_cases el : 110 + 10 * s ≤ x ∧ x < 110 + 10 * s + k
              · rw [if_pos el, ← a4 (x - (110 + 10 * s)) (by omega)]
                congr 1
                omega
              · rw [if_neg el]
                exact a5 x e3 e8 e9 el
      refine hgo [] _ _ _ _ ?_
      refine brt (nI_le (Nat.le_refl _) (by omega)) ?_
      refine hgo [] _ _ _ _ ?_
      refine ob_ (vp_in_nI (n := 3) (N := 198) (by omega) (by omega)) ?_
      refine ob_ (vp_in_nI (n := 3) (N := 198) (by omega) (by omega)) ?_
      refine clpe (c_Ref_laySpots (lfH h f s w k) (sA (rS (rT M) 0) 11 0 4 (lfH h f s w k)) hv2 sA_s) rfl (by rw [sA_sA, sA_s, ← eg, ← nI_1, ← a1]; rfl) ?_
      rintro r M2 ⟨rfl, d1, d2, d3, d4⟩
      have e4 : M2 11 0 4 = lfH h f s w k := (d2 4 (by decide) (by decide) (by decide) (by decide)).trans sA_s
      refine ob_ (vp_in_nI (n := 3) (N := 198) (by omega) (by omega)) ?_
      refine ⟨?_, fun k hk => (d1 k hk).trans ((sA_k hk).trans ((sA_k hk).trans (sA_k hk))), e4, fun o g0 g4 g7 g8 g9 => (d2 o g0 g7 g8 g9).trans ((sA_o g4).trans ((sA_o g0).trans (sA_o g0))), fun i g0 g1 g18 => (d3 i g18).trans (show upd (upd (M 11 0 0) 0 0) 1 0 i = _ from (upd_n g1).trans (upd_n g0)), (d3 1 (by decide)).trans (show upd (upd (M 11 0 0) 0 0) 1 0 1 = 0 from upd_s), d4⟩
      show some (aI (M2 11 0 4 3 - 1)) = _
      rw [e4, lf_n]
      show some (aI (nI (s + 1) - nI 1)) = _
      rw [pk_sub (by omega)]
      rfl
    | succ t ih =>
      intro k kv g ht hk hkv a1 a2 a3 a4 a5
      subst hkv
      have hlt : k < n := by omega
      have ei : 40 * nI r + nI i0 + nI k = nI (40 * r + (i0 + k)) := by rw [show (40 : Int32) = nI 40 from rfl, pk_mul, nI_add, nI_add, Nat.add_assoc]
      have ec : (nI (40 * r + (i0 + k))).toNatClampNeg = 40 * r + (i0 + k) := cl_nI (by omega)
      have ej : nI (108 + 10 * s) + 2 + nI k = nI (110 + 10 * s + k) := by rw [show (2 : Int32) = nI 2 from rfl, nI_add, nI_add]; congr 1; omega
      have ed : (nI (110 + 10 * s + k)).toNatClampNeg = 110 + 10 * s + k := cl_nI (by omega)
      refine hgo [] _ _ _ _ ?_
      refine brf (nI_ge hlt (by omega)) ?_
      refine ob_ (by rw [ei]; exact vp_in_nI (by omega) (by omega)) ?_
      refine ob_ (by rw [ej]; exact vp_in_nI (by omega) (by omega)) ?_
      have := ih (k + 1) (nI k + 1) (upd g (110 + 10 * s + k) (f k)) (by omega) (by omega) (nI_1 k) (by rw [upd_n (by omega)]; exact a1) (by rw [upd_n (by omega)]; exact a2) (by rw [upd_n (by omega)]; exact a3) (fun q hq => ?_) (fun x x3 x8 x9 xl => ?_)
      · rw [ei, ej, ec, ed, sA_sA, sA_s]
        rw [← hf k hlt] at this
        exact this
      · by_cases e : q = k
        · rw [e, upd_s]
        · rw [upd_n (by omega)]
          exact a4 q (by omega)
      · rw [upd_n (by omega)]
        exact a5 x x3 x8 x9 (by omega)
  have loop : ∀ m k kv x (z8 : Option am_V), m = n - k → k ≤ n → kv = nI k → x = bs (told f k) → unl f np k = true → J 78 [some (aR 11 0 0), some (aI (nI w)), some (aI (nI r)), some (aI (nI i0)), some (aI (nI n)), some (aI 0), some (aI x), some (aI kv), z8] [] (rT M) := by
    intro m
    induction m with
    | zero =>
      intro k kv x z8 hm hk hv hx hu2
      obtain rfl : k = n := by omega
      subst hv
      subst hx
      have ev : (rS (rT M) 0) 11 0 4 = h := h4
      have e3 : (rS (rT M) 0) 11 0 4 3 = nI s := hs
      have eat : (108 : Int32) + 10 * nI s = nI (108 + 10 * s) := by rw [show (108 : Int32) = nI 108 from rfl, show (10 : Int32) = nI 10 from rfl, pk_mul, nI_add]
      have c1 : (nI (108 + 10 * s)).toNatClampNeg = 108 + 10 * s := cl_nI (by omega)
      have ea1 : nI (108 + 10 * s) + 1 = nI (109 + 10 * s) := by rw [nI_1]; congr 1; omega
      have c2 : (nI (109 + 10 * s)).toNatClampNeg = 109 + 10 * s := cl_nI (by omega)
      refine hgo [] _ _ _ _ ?_
      refine brt (nI_le (Nat.le_refl _) (by omega)) ?_
      refine hgo [157] _ _ _ _ ?_
      refine ob_ (vp_in_nI (n := 3) (N := 198) (by omega) (by omega)) ?_
      show J 157 [some (aR 11 0 0), some (aI (nI w)), some (aI (nI r)), some (aI (nI i0)), some (aI (nI k)), some (aI 0), some (aI (bs (told f k))), some (aI (108 + 10 * M 11 0 4 3)), z8] [] (rS (rT M) 0)
      rw [hs, eat]
      refine hgo [179] _ _ _ _ ?_
      refine ob_ (vp_in_nI (by omega) (by omega)) ?_
      refine ob_ (by rw [ea1]; exact vp_in_nI (by omega) (by omega)) ?_
      rw [ea1, c1, c2, sA_sA, sA_s]
      refine loop2 _ 0 _ _ rfl (by omega) rfl ?_ ?_ ?_ (fun q hq => by omega) (fun x x3 x8 x9 xl => ?_)
      · rw [upd_n (by omega), upd_n (by omega)]
        exact e3
      · rw [upd_n (by omega), upd_s]
      · rw [upd_s]
      · rw [upd_n x9, upd_n x8, ev]
    | succ m ih =>
      intro k kv x z8 hm hk hv hx hu2
      subst hv hx
      have hlt : k < n := by omega
      have ei : 40 * nI r + nI i0 + nI k = nI (40 * r + (i0 + k)) := by rw [show (40 : Int32) = nI 40 from rfl, pk_mul, nI_add, nI_add, Nat.add_assoc]
      have no : ¬ unl f np (k + 1) = true → J 120 [some (aR 11 0 0), some (aI (nI w)), some (aI (nI r)), some (aI (nI i0)), some (aI (nI n)), some (aI 0), some (aI (bs (told f k))), some (aI (nI k)), some (aI (f k))] [] (rT M) := by
        intro hu3
        exact absurd (unl_f (n := n) (k := k + 1) (by omega) (Bool.eq_false_iff.mpr hu3)) (by rw [hu]; decide)
      have c98 : J 98 [some (aR 11 0 0), some (aI (nI w)), some (aI (nI r)), some (aI (nI i0)), some (aI (nI n)), some (aI 0), some (aI (bs (told f k))), some (aI (nI k)), z8] [aI (nI (40 * r + (i0 + k))), aR 11 0 3] (rT M) := by
        have ec : (nI (40 * r + (i0 + k))).toNatClampNeg = 40 * r + (i0 + k) := cl_nI (by omega)
        refine hgo [99] _ _ _ _ ?_
        refine ob_ (vp_in_nI (by omega) (by omega)) ?_
        show J 99 _ [aI (M 11 0 3 (nI (40 * r + (i0 + k))).toNatClampNeg)] (rT M)
        rw [ec, hf k hlt]
        refine hgo [120] _ _ _ _ ?_
        refine cl_ (c_Ref_isPaper np (f k) _ (by exact hnp) (by omega)) ?_
        refine brb (fun g1 => ?_) (fun g1 => ?_)
        · refine no (fun q => g1 ?_)
          exact unl_in q k (by omega)
        · have hx := i3_of g1.1
          have hc := i3_cl g1.1
          have hl : hN f k < 10 := by unfold hN; omega
          refine cle (c_Ref_isIn (told f k) (hN f k) _ hl) (by unfold hN; rw [← hx]) rfl ?_
          refine brb (fun g2 => ?_) (fun g2 => ?_)
          · refine hgo [] _ _ _ _ ?_
            refine ih (k + 1) _ _ _ (by omega) (by omega) (nI_1 k) ?_ ?_
            · rw [hx]
              show bs (told f k) ||| (1 : Int32) <<< (nI (hN f k) &&& 31) = _
              rw [bs_one hl, told_s]
            · rw [unl_s, hu2, decide_eq_true g1]
              show (true && (true && !told f k (hN f k))) = true
              rw [Bool.eq_false_iff.mpr g2]
              rfl
          · refine no (fun q => ?_)
            rw [unl_s, Bool.and_eq_true, Bool.and_eq_true] at q
            have q3 : (!told f k (hN f k)) = true := q.2.2
            rw [g2] at q3
            cases q3
      refine hgo [98] _ _ _ _ ?_
      refine brf (nI_ge hlt (by omega)) ?_
      rw [← ei] at c98
      exact c98
  refine hgo [78] _ _ _ _ ?_
  refine cl_ (c_Ref_isWall nw (nI w) _ (by exact hn) (by omega)) ?_
  refine brbt (by rw [i3_n (by omega)]; omega) ?_
  refine cl_ (c_Ref_isRow (nI r) _) ?_
  refine brbt (nin (n := 8) hr (by omega)) ?_
  refine cl_ (c_Ref_in (nI n) 1 8 _ _ _ rfl (by decide) (by decide) _) ?_
  refine brbt ⟨nI_le (a := 1) h1 (by omega), nI_le (b := 8) h8 (by omega)⟩ ?_
  refine hgo [78] _ _ _ _ ?_
  refine ob_ (vp_in_nI (n := 3) (N := 198) (by omega) (by omega)) ?_
  refine brf (show ¬ M 11 0 4 3 = nI 9 by rw [hs, nI_eq (by omega) (by omega)]; omega) ?_
  refine hgo [78] _ _ _ _ ?_
  refine cl_ (c_Ref_lack2 r m (nI i0) (nI n) _ hr (by exact g) (by exact hm) h40 0 (by rw [i3_n (by omega), i3_n (by omega), if_pos (by omega)])) ?_
  refine brt (by decide) ?_
  refine hgo [78] _ _ _ _ ?_
  exact loop _ 0 _ _ _ rfl (by omega) rfl (by rw [← bs_0]; rfl) rfl
theorem Rel_find1 {M : am_M} (hR : Rel M) (x : Int32) : Rel (rS (rT (mS M x)) x) := by
  refine Rel_keep hR rfl rfl rfl rfl rfl rfl rfl ?_ ?_ rfl rfl
  · intro o ho
    simp only [rS, rT, mS, sA_o ho, sA_k (show (11 : Nat) ≠ 0 by decide)]
  · intro i hi; rcases hi with rfl | rfl | rfl | rfl | rfl <;> rfl
theorem op_lift (w r i n : Int32) (M : am_M) (hR : Rel M) : OpAt mMain_lift mRef_lift [aI w, aI r, aI i, aI n] M := by
  obtain ⟨w1, w2, w3⟩ := Rel_nw hR
  obtain ⟨p1, p2, p3⟩ := Rel_np hR
  obtain ⟨s1, s2, s3⟩ := Rel_ns hR
  obtain ⟨q1, q2, q3, ⟨hv, hr, hth, hfr⟩, q5, q6, q7⟩ := id hR
  by_cases hb : (0 ≤ w.toInt ∧ w.toInt < nW (M 11 0 4)) ∧ (0 ≤ r ∧ r < 8) ∧ (1 ≤ n ∧ n ≤ 8)
  · obtain ⟨b1, b2, b3⟩ := hb
    obtain ⟨rr, hrr, rfl⟩ := rowN b2
    have hw := i3_of b1.1
    have hwc := i3_cl b1.1
    simp only [i3_le, Int32.reduceToInt] at b3
    have hn := i3_of (x := n) (by omega)
    have hnc := i3_cl (x := n) (by omega)
    generalize w.toNatClampNeg = ww at hw hwc
    generalize n.toNatClampNeg = nn at hn hnc
    subst hw hn
    by_cases h9 : nS (M 11 0 4) = 9
    · exact op_mk (c_Main_lift_full _ ww rr nn _ i M w1 w3 (by omega) hrr (by omega) (by omega) s1 s3 h9) (c_Ref_lift_full _ ww rr nn _ i M w2 w3 (by omega) hrr (by omega) (by omega) s2 s3 h9) (Rel_bad hR)
    · have h9 : nS (M 11 0 4) < 9 := by omega
      rcases q1 rr hrr with ⟨t1, t2, t3⟩ | ⟨t1, t2, t3, m, t4, t5, t6, t7⟩
      · exact op_mk (c_Main_lift_null _ ww rr nn _ i M w1 w3 (by omega) hrr (by omega) (by omega) s1 s3 h9 t1) (c_Ref_lift_null _ ww rr nn _ i (mS M 1) (by exact w2) w3 (by omega) hrr (by omega) (by omega) (by exact s2) s3 h9 (show M 11 0 1 rr < 0 by rw [t2]; decide)) (Rel_find1 hR 1)
      · have g1 : ¬ M 1 0 1 rr = 0 := by rw [t1]; decide
        have g2 : 0 ≤ M 11 0 1 rr := by rw [t3]; exact t2.1
        by_cases hp : 0 ≤ i.toInt ∧ i.toInt + nn ≤ m
        · have hi := i3_of hp.1
          have hic := i3_cl hp.1
          generalize i.toNatClampNeg = i0 at hi hic
          have hp2 : i0 + nn ≤ m := by omega
          have hf1 : ∀ k, k < nn → M 1 0 4 (40 * rr + (i0 + k)) = (fun k => M 11 0 3 (40 * rr + (i0 + k))) k := fun k hk => t7 (i0 + k) (by omega)
          by_cases hu : unl (fun k => M 11 0 3 (40 * rr + (i0 + k))) (nP (M 11 0 4)) nn = true
          · refine op_mkP (v := nI (nS (M 11 0 4))) (d2 := 7) (c_Main_lift_ok _ ww rr nn _ i M w1 w3 (by omega) hrr (by omega) (by omega) s1 s3 h9 g1 m i0 _ t5 t4 hi hp2 p1 p3 _ hf1 (M 11 0 4) hv hr rfl rfl rfl hu) ?_
            rintro r M1 ⟨rfl, a1, a2, a3, a4, a5, a6, a7⟩
            have h11 := a1 11 (by decide) (by decide) (by decide) (by decide)
            refine ⟨rfl, _, c_Ref_lift_ok _ ww rr nn _ i M1 (by rw [h11]; exact w2) w3 (by omega) hrr (by omega) (by omega) (by rw [h11]; exact s2) s3 h9 (by rw [h11]; exact g2) m i0 _ (by rw [h11]; exact t6) t4 hi hp2 (by rw [h11]; exact p2) p3 (fun k => M 11 0 3 (40 * rr + (i0 + k))) (fun k hk => by rw [h11]) (M 11 0 4) (by rw [h11]) hv rfl rfl rfl hu, ?_⟩
            rintro r2 M2 ⟨rfl, b1, b2, b3, b4, b5, b6⟩
            have e0 : nW (lfH (M 11 0 4) (fun k => M 11 0 3 (40 * rr + (i0 + k))) (nS (M 11 0 4)) ww nn) = nW (M 11 0 4) := by unfold nW hN; rw [lf_old (by omega) (by omega)]
            have e7 : M2 11 0 0 7 = M 11 0 0 7 := by rw [b4 7 (by decide) (by decide) (by decide), h11]
            have hv2 : HV (lfH (M 11 0 4) (fun k => M 11 0 3 (40 * rr + (i0 + k))) (nS (M 11 0 4)) ww nn) := HV_lf hv rfl h9 (by omega) (by omega) (by omega) (fun k hk => unl_in hu k hk)
            refine ⟨rfl, Rel_new hR ?_ ?_ ?_ (by rw [b2]; exact hv2) ?_ ?_ (fun q => by rw [e7]; exact q) (by rw [b2]; exact b6) ?_ ?_ ?_ ?_ ?_ ?_ ?_ ?_ ?_ ?_⟩
            · rw [b1 1 (by decide), a1 1 (by decide) (by decide) (by decide) (by decide)]
            · rw [b1 2 (by decide), a1 2 (by decide) (by decide) (by decide) (by decide), b4 9 (by decide) (by decide) (by decide), b3 6 (by decide) (by decide) (by decide) (by decide) (by decide), h11]
              exact q2
            · unfold RelA
              rw [b1 0 (by decide), a2, b4 10 (by decide) (by decide) (by decide), b5, h11, upd_n (by decide), upd_s]
              exact ⟨q3.1, rfl⟩
            · rw [b1 4 (by decide), b1 5 (by decide), b2]
              exact a3
            · rw [e7, b2, e0]
              exact hth
            · rw [b1 7 (by decide), b2]
              exact a5
            · rw [b1 7 (by decide), b2]
              exact a6
            · rw [b1 8 (by decide)]
              exact a7
            · rw [b1 4 (by decide), a1 4 (by decide) (by decide) (by decide) (by decide)]
            · rw [b1 4 (by decide), a1 4 (by decide) (by decide) (by decide) (by decide)]
            · rw [b1 5 (by decide), a4 1 (by decide)]
            · rw [b1 5 (by decide), a4 2 (by decide)]
            · rw [b1 10 (by decide), a1 10 (by decide) (by decide) (by decide) (by decide)]
            · intro o ho
              rw [b3 o (by omega) (by omega) (by omega) (by omega) (by omega), h11]
            · rw [b4 28 (by decide) (by decide) (by decide), h11]
          · exact op_mk (c_Main_lift_like _ ww rr nn _ i M w1 w3 (by omega) hrr (by omega) (by omega) s1 s3 h9 g1 m i0 _ t5 t4 hi hp2 p1 p3 _ hf1 hu) (c_Ref_lift_like _ ww rr nn _ i M w2 w3 (by omega) hrr (by omega) (by omega) s2 s3 h9 g2 m i0 _ t6 t4 hi hp2 p2 p3 (fun k => M 11 0 3 (40 * rr + (i0 + k))) (fun k hk => rfl) hu) (Rel_bad hR)
        · exact op_mk (c_Main_lift_place _ ww rr nn _ i M w1 w3 (by omega) hrr (by omega) (by omega) s1 s3 h9 g1 m t5 t4 hp) (c_Ref_lift_place _ ww rr nn _ i (mS M 2) (by exact w2) w3 (by omega) hrr (by omega) (by omega) (by exact s2) s3 h9 (by exact g2) m (by exact t6) t4 hp) (Rel_find1 hR 2)
  · exact op_mk (c_Main_lift_bad _ w r i n M w1 w3 hb) (c_Ref_lift_bad _ w r i n M w2 w3 hb) (Rel_bad hR)
