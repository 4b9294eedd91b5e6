/-! years, younger -/
def CF (h : Nat → Int32) (M : am_M) : Prop := HV h ∧ RH (M 4 0) (M 5 0) h ∧ FO (M 7 0) h ∧ FX (M 7 0) h
def CR (h : Nat → Int32) (M : am_M) : Prop := HV h ∧ M 11 0 4 = h ∧ FR (M 11 0 0 18) (M 11 0 7) (M 11 0 8) (M 11 0 9) h
theorem Rel_CF {M : am_M} (hR : Rel M) : CF (M 11 0 4) M ∧ CR (M 11 0 4) M :=
  ⟨⟨hR.2.2.2.1.1, hR.2.2.2.1.2.1, hR.2.2.2.2.1.1, hR.2.2.2.2.1.2.1⟩, ⟨hR.2.2.2.1.1, rfl, hR.2.2.2.1.2.2.2⟩⟩
theorem CR_T {h : Nat → Int32} {M : am_M} (c : CR h M) : CR h (rT M) := c
theorem ring_iff {h : Nat → Int32} : bs (Ring h) = 0 ↔ NoRing h := bs_zero
theorem CF_ring {h : Nat → Int32} {M : am_M} (c : CF h M) : (¬ M 7 0 0 3 = 0) ↔ ¬ NoRing h := by
  rw [c.2.2.1.2.1, ring_iff]
theorem c_hasRing (h : Nat → Int32) (M : am_M) (c : CF h M) (x : Int32) (hx : (NoRing h ∧ x = 0) ∨ (¬ NoRing h ∧ x = 1)) : Con 1 mFacts_hasRing [aR 7 0 0] M (some (aI x)) M := by
  have := c_Facts_hasRing M
  have e : b2i (¬ M 7 0 0 3 = 0) = x := by
    rcases hx with ⟨g, rfl⟩ | ⟨g, rfl⟩
    · rw [b2i_f (fun q => (CF_ring c).mp q g)]
    · rw [b2i_t ((CF_ring c).mpr g)]
  rw [e] at this
  exact this
theorem c_inRings (h : Nat → Int32) (M : am_M) (c : CR h M) : Con 1 mRef_inRings [aR 11 0 0] M (some (aI (bs (Ring h)))) M := c_Ref_inRings (Su h) M c.2.2.2.2.2
def sn (h : Nat → Int32) (x : Int32) : Prop := (0 ≤ x.toInt ∧ x.toInt < nP h) ∧ Seen h x.toNatClampNeg = true
theorem c_Main_isSeen (h : Nat → Int32) (x : Int32) (M : am_M) (c : CF h M) (y : Int32) (hy : (sn h x ∧ y = 1) ∨ (¬ sn h x ∧ y = 0)) : Con 2 mMain_isSeen [aR 0 0 0, aI x] M (some (aI y)) M := by
  obtain ⟨hv, hr, hf, -⟩ := c
  have p10 := hv.2.1.2
  have en : M 4 0 0 4 = nI (nP h) := by rw [hr.2.1.1, hv.2.1.1]
  refine con_of okMain_isSeen [some (aR 0 0 0), some (aI x)] (some .boolean) ?_
  intro J hgo
  have no : ¬ sn h x → J 29 [some (aR 0 0 0), some (aI x)] [] M := by
    intro g
    refine hgo [] _ _ _ _ ?_
    refine ob_ (by decide) ⟨?_, rfl⟩
    rcases hy with ⟨g2, -⟩ | ⟨-, rfl⟩
    · exact absurd g2 g
    · rfl
  refine hgo [29] _ _ _ _ ?_
  refine cl_ (c_House_isPaper (nP h) 0 x M en (by omega)) ?_
  refine brb (fun g => no (fun q => g q.1)) (fun g => ?_)
  have hx := i3_of g.1
  have hc := i3_cl g.1
  refine cle (c_Main_has (Seen h) x.toNatClampNeg M (by omega)) (by show [aI (M 7 0 0 2), aI x] = _; rw [hf.1, ← hx]) rfl ?_
  refine brb (fun g2 => no (fun q => g2 q.2)) (fun g2 => ?_)
  refine hgo [] _ _ _ _ ?_
  refine ob_ (by decide) ⟨?_, rfl⟩
  rcases hy with ⟨-, rfl⟩ | ⟨g3, -⟩
  · rfl
  · exact absurd ⟨g, g2⟩ g3
theorem c_Ref_isSeen (h : Nat → Int32) (x : Int32) (M : am_M) (c : CR h M) (y : Int32) (hy : (sn h x ∧ y = 1) ∨ (¬ sn h x ∧ y = 0)) : Con 3 mRef_isSeen [aR 11 0 0, aI x] M (some (aI y)) M := by
  obtain ⟨hv, h4, hf⟩ := c
  have p10 := hv.2.1.2
  have en : M 11 0 4 1 = nI (nP h) := by rw [h4, hv.2.1.1]
  refine con_of okRef_isSeen [some (aR 11 0 0), some (aI x)] (some .boolean) ?_
  intro J hgo
  have no : ¬ sn h x → J 23 [some (aR 11 0 0), some (aI x)] [] M := by
    intro g
    refine hgo [] _ _ _ _ ?_
    refine ob_ (by decide) ⟨?_, rfl⟩
    rcases hy with ⟨g2, -⟩ | ⟨-, rfl⟩
    · exact absurd g2 g
    · rfl
  refine hgo [23] _ _ _ _ ?_
  refine cl_ (c_Ref_isPaper (nP h) x M en (by omega)) ?_
  refine brb (fun g => no (fun q => g q.1)) (fun g => ?_)
  have hx := i3_of g.1
  have hc := i3_cl g.1
  refine cle (c_Ref_isIn (Seen h) x.toNatClampNeg M (by omega)) (by show [aI (M 11 0 0 18), aI x] = _; rw [hf.1, ← hx]) rfl ?_
  refine brb (fun g2 => no (fun q => g2 q.2)) (fun g2 => ?_)
  refine hgo [] _ _ _ _ ?_
  refine ob_ (by decide) ⟨?_, rfl⟩
  rcases hy with ⟨-, rfl⟩ | ⟨g3, -⟩
  · rfl
  · exact absurd ⟨g, g2⟩ g3
theorem i3_val {x : Int32} {z : Int} (h : x.toInt = z) : x = Int32.ofInt z := by rw [← h, Int32.ofInt_toInt]
theorem Rel_lay {M M2 : am_M} (h : Rel M) (hk : ∀ k, k ≠ 11 → M2 k = M k) (hr : ∀ o, o ≠ 0 → o ≠ 10 → o ≠ 11 → o ≠ 12 → M2 11 0 o = M 11 0 o) (hs : ∀ i, i ≠ 0 → M2 11 0 0 i = M 11 0 0 i) : Rel M2 := by
  obtain ⟨g1, g2, g3, g4, g5, g6, g7⟩ := h
  unfold Rel RelH RelI RelA
  rw [hk 0 (by decide), hk 1 (by decide), hk 2 (by decide), hk 4 (by decide), hk 5 (by decide), hk 7 (by decide), hk 8 (by decide), hk 10 (by decide), hr 1 (by decide) (by decide) (by decide) (by decide), hr 2 (by decide) (by decide) (by decide) (by decide), hr 3 (by decide) (by decide) (by decide) (by decide), hr 4 (by decide) (by decide) (by decide) (by decide), hr 6 (by decide) (by decide) (by decide) (by decide), hr 7 (by decide) (by decide) (by decide) (by decide), hr 8 (by decide) (by decide) (by decide) (by decide), hr 9 (by decide) (by decide) (by decide) (by decide), hr 13 (by decide) (by decide) (by decide) (by decide), hr 14 (by decide) (by decide) (by decide) (by decide), hr 15 (by decide) (by decide) (by decide) (by decide), hs 1 (by decide), hs 7 (by decide), hs 9 (by decide), hs 10 (by decide), hs 18 (by decide), hs 28 (by decide)]
  exact ⟨g1, g2, g3, g4, g5, g6, g7⟩
theorem Rel_KY {M M2 : am_M} (h : Rel M) (hK : KY M2 (rT M)) : Rel M2 := by
  refine Rel_lay h (fun k hk => (hK.1 k hk).trans (sA_k hk)) (fun o h0 _ h1 h2 => (hK.2 o h1 h2).trans (sA_o h0)) (fun i hi => ?_)
  rw [hK.2 0 (by decide) (by decide)]
  show upd (M 11 0 0) 0 0 i = _
  exact upd_n hi
/-- the reference's years, as what follows uses them -/
def YR (h : Nat → Int32) (M : am_M) : Prop := ∀ p, p < nP h → (M 11 0 11 p).toInt = YL h p ∧ (M 11 0 12 p).toInt = YU h p
theorem CR_KY {h : Nat → Int32} {M M2 : am_M} (c : CR h M) (hK : KY M2 M) : CR h M2 := by
  obtain ⟨hv, h4, hf⟩ := c
  refine ⟨hv, (hK.2 4 (by decide) (by decide)).trans h4, ?_⟩
  rw [hK.2 0 (by decide) (by decide), hK.2 7 (by decide) (by decide), hK.2 8 (by decide) (by decide), hK.2 9 (by decide) (by decide)]
  exact hf
theorem c_lay (h : Nat → Int32) (M : am_M) (c : CR h M) (hn : NoRing h) : ConP 3 mRef_layYears [aR 11 0 0] M (fun r M2 => r = none ∧ KY M2 M ∧ YR h M2) := c_Ref_layYears h M c.1 c.2.1 hn c.2.2.2.1 c.2.2.2.2.1
def yv (h : Nat → Int32) (p k : Nat) : Int32 := match k with
  | 0 => Int32.ofInt (YL h p)
  | 1 => Int32.ofInt (YU h p)
  | _ => if YL h p ≤ YU h p then 0 else 1
theorem CF_y {h : Nat → Int32} {M : am_M} (c : CF h M) (hn : NoRing h) {p : Nat} (hp : p < 10) (hs : Seen h p = true) : (M 7 0 5 p).toInt = YL h p ∧ (M 7 0 6 p).toInt = YU h p := (c.2.2.2.1 hn).2 p hp hs
theorem c_Main_years_bad (h : Nat → Int32) (x k : Int32) (M : am_M) (c : CF h M) (hb : ¬ (sn h x ∧ 0 ≤ k.toInt ∧ k.toInt ≤ 2)) : Con 3 mMain_years [aR 0 0 0, aI x, aI k] M (some (aI (-1000001))) M := by
  refine con_of okMain_years [some (aR 0 0 0), some (aI x), some (aI k)] (some .int) ?_
  intro J hgo
  have no : J 17 [some (aR 0 0 0), some (aI x), some (aI k)] [] M := by
    refine hgo [] _ _ _ _ ?_
    exact ⟨rfl, rfl⟩
  refine hgo [17] _ _ _ _ ?_
  by_cases g : sn h x
  · refine cl_ (c_Main_isSeen h x M c 1 (Or.inl ⟨g, rfl⟩)) ?_
    refine brf (by decide) ?_
    refine br_ (fun _ => no) (fun g2 => ?_)
    refine brf (fun g3 => hb ⟨g, ?_, ?_⟩) no
    · simp only [i3_lt, Int32.reduceToInt] at g2
      omega
    · simp only [i3_le, Int32.reduceToInt] at g3
      exact g3
  · refine cl_ (c_Main_isSeen h x M c 0 (Or.inr ⟨g, rfl⟩)) ?_
    exact brt rfl no
theorem c_Main_years_ring (h : Nat → Int32) (x : Int32) (k : Nat) (M : am_M) (c : CF h M) (g : sn h x) (hk : k ≤ 2) (hn : ¬ NoRing h) : Con 3 mMain_years [aR 0 0 0, aI x, aI (nI k)] M (some (aI (-1000002))) M := by
  refine con_of okMain_years [some (aR 0 0 0), some (aI x), some (aI (nI k))] (some .int) ?_
  intro J hgo
  refine hgo [] _ _ _ _ ?_
  refine cl_ (c_Main_isSeen h x M c 1 (Or.inl ⟨g, rfl⟩)) ?_
  refine brf (by decide) ?_
  refine brf (nI_pos (by omega)) ?_
  refine brt (nI_le (b := 2) hk (by omega)) ?_
  refine hgo [] _ _ _ _ ?_
  refine cl_ (c_hasRing h M c 1 (Or.inr ⟨hn, rfl⟩)) ?_
  refine brf (by decide) ?_
  exact ⟨rfl, rfl⟩
theorem c_Main_years_ok (h : Nat → Int32) (p k : Nat) (M : am_M) (c : CF h M) (hp : p < nP h) (hs : Seen h p = true) (hk : k ≤ 2) (hn : NoRing h) : Con 3 mMain_years [aR 0 0 0, aI (nI p), aI (nI k)] M (some (aI (yv h p k))) M := by
  have p10 := c.1.2.1.2
  have hpc : (nI p).toNatClampNeg = p := cl_nI (by omega)
  obtain ⟨y1, y2⟩ := CF_y c hn (by omega) hs
  refine con_of okMain_years [some (aR 0 0 0), some (aI (nI p)), some (aI (nI k))] (some .int) ?_
  intro J hgo
  refine hgo [] _ _ _ _ ?_
  refine cl_ (c_Main_isSeen h (nI p) M c 1 (Or.inl ⟨⟨by rw [i3_n (by omega)]; omega, by rw [hpc]; exact hs⟩, rfl⟩)) ?_
  refine brf (by decide) ?_
  refine brf (nI_pos (by omega)) ?_
  refine brt (nI_le (b := 2) hk (by omega)) ?_
  refine hgo [] _ _ _ _ ?_
  refine cl_ (c_hasRing h M c 0 (Or.inl ⟨hn, rfl⟩)) ?_
  refine brt rfl ?_
  refine hgo [] _ _ _ _ ?_
  match k, hk with
  | 0, _ =>
    refine brt rfl ?_
    refine ob_ (vp_in_nI (by omega) (by omega)) ⟨?_, rfl⟩
    rw [hpc, i3_val y1]
    rfl
  | 1, _ =>
    refine brf (by decide) ?_
    refine hgo [] _ _ _ _ ?_
    refine brt rfl ?_
    refine ob_ (vp_in_nI (by omega) (by omega)) ⟨?_, rfl⟩
    rw [hpc, i3_val y2]
    rfl
  | 2, _ =>
    refine brf (by decide) ?_
    refine hgo [] _ _ _ _ ?_
    refine brf (by decide) ?_
    refine hgo [] _ _ _ _ ?_
    refine ob_ (vp_in_nI (by omega) (by omega)) ?_
    refine ob_ (vp_in_nI (by omega) (by omega)) ?_
    refine br_ (fun g => ?_) (fun g => ?_)
    · have g : M 7 0 5 (nI p).toNatClampNeg ≤ M 7 0 6 (nI p).toNatClampNeg := g
      rw [hpc, i3_le, y1, y2] at g
      refine hgo [] _ _ _ _ ?_
      refine ⟨?_, rfl⟩
      show _ = some (aI (if YL h p ≤ YU h p then 0 else 1))
      rw [if_pos g]
    · have g : ¬ M 7 0 5 (nI p).toNatClampNeg ≤ M 7 0 6 (nI p).toNatClampNeg := g
      rw [hpc, i3_le, y1, y2] at g
      refine hgo [] _ _ _ _ ?_
      refine ⟨?_, rfl⟩
      show _ = some (aI (if YL h p ≤ YU h p then 0 else 1))
      rw [if_neg g]
theorem c_Ref_years_bad (h : Nat → Int32) (x k : Int32) (M : am_M) (c : CR h M) (hb : ¬ (sn h x ∧ 0 ≤ k.toInt ∧ k.toInt ≤ 2)) : Con 4 mRef_years [aR 11 0 0, aI x, aI k] M (some (aI (-1000001))) (rT M) := by
  refine con_of okRef_years [some (aR 11 0 0), some (aI x), some (aI k)] (some .int) ?_
  intro J hgo
  have no : J 25 [some (aR 11 0 0), some (aI x), some (aI k)] [] (rT M) := by
    refine hgo [] _ _ _ _ ?_
    exact ⟨rfl, rfl⟩
  refine hgo [25] _ _ _ _ ?_
  by_cases g : sn h x
  · refine cl_ (c_Ref_isSeen h x _ (CR_T c) 1 (Or.inl ⟨g, rfl⟩)) ?_
    refine brf (by decide) ?_
    refine cl_ (c_Ref_in k 0 2 _ _ _ rfl (by decide) (by decide) _) ?_
    refine brbf (fun g3 => hb ⟨g, ?_⟩) no
    simp only [i3_le, Int32.reduceToInt] at g3
    exact g3
  · refine cl_ (c_Ref_isSeen h x _ (CR_T c) 0 (Or.inr ⟨g, rfl⟩)) ?_
    exact brt rfl no
theorem c_Ref_years_ring (h : Nat → Int32) (x : Int32) (k : Nat) (M : am_M) (c : CR h M) (g : sn h x) (hk : k ≤ 2) (hn : ¬ NoRing h) : Con 4 mRef_years [aR 11 0 0, aI x, aI (nI k)] M (some (aI (-1000002))) (rT M) := by
  refine con_of okRef_years [some (aR 11 0 0), some (aI x), some (aI (nI k))] (some .int) ?_
  intro J hgo
  refine hgo [] _ _ _ _ ?_
  refine cl_ (c_Ref_isSeen h x _ (CR_T c) 1 (Or.inl ⟨g, rfl⟩)) ?_
  refine brf (by decide) ?_
  refine cl_ (c_Ref_in (nI k) 0 2 _ _ _ rfl (by decide) (by decide) _) ?_
  refine brbt ⟨nI_pos' (by omega), nI_le (b := 2) hk (by omega)⟩ ?_
  refine hgo [] _ _ _ _ ?_
  refine cl_ (c_inRings h _ (CR_T c)) ?_
  refine brf (fun q => hn (ring_iff.mp q)) ?_
  exact ⟨rfl, rfl⟩
theorem c_Ref_years_ok (h : Nat → Int32) (p k : Nat) (M : am_M) (c : CR h M) (hp : p < nP h) (hs : Seen h p = true) (hk : k ≤ 2) (hn : NoRing h) : ConP 4 mRef_years [aR 11 0 0, aI (nI p), aI (nI k)] M (fun r M2 => r = some (aI (yv h p k)) ∧ KY M2 (rT M)) := by
  have p10 := c.1.2.1.2
  have hpc : (nI p).toNatClampNeg = p := cl_nI (by omega)
  refine con_of okRef_years [some (aR 11 0 0), some (aI (nI p)), some (aI (nI k))] (some .int) ?_
  intro J hgo
  refine hgo [] _ _ _ _ ?_
  refine cl_ (c_Ref_isSeen h (nI p) _ (CR_T c) 1 (Or.inl ⟨⟨by rw [i3_n (by omega)]; omega, by rw [hpc]; exact hs⟩, rfl⟩)) ?_
  refine brf (by decide) ?_
  refine cl_ (c_Ref_in (nI k) 0 2 _ _ _ rfl (by decide) (by decide) _) ?_
  refine brbt ⟨nI_pos' (by omega), nI_le (b := 2) hk (by omega)⟩ ?_
  refine hgo [] _ _ _ _ ?_
  refine cl_ (c_inRings h _ (CR_T c)) ?_
  refine brt (ring_iff.mpr hn) ?_
  refine hgo [] _ _ _ _ ?_
  refine clp (c_lay h _ (CR_T c) hn) ?_
  rintro r M2 ⟨rfl, hK, hY⟩
  obtain ⟨y1, y2⟩ := hY p hp
  match k, hk with
  | 0, _ =>
    refine brt rfl ?_
    refine ob_ (vp_in_nI (by omega) (by omega)) ?_
    refine hgo [] _ _ _ _ ?_
    refine ⟨?_, hK⟩
    rw [hpc, i3_val y1]
    rfl
  | 1, _ =>
    refine brf (by decide) ?_
    refine hgo [] _ _ _ _ ?_
    refine brt rfl ?_
    refine ob_ (vp_in_nI (by omega) (by omega)) ?_
    refine hgo [] _ _ _ _ ?_
    refine ⟨?_, hK⟩
    rw [hpc, i3_val y2]
    rfl
  | 2, _ =>
    refine brf (by decide) ?_
    refine hgo [] _ _ _ _ ?_
    refine brf (by decide) ?_
    refine hgo [] _ _ _ _ ?_
    refine ob_ (vp_in_nI (by omega) (by omega)) ?_
    refine ob_ (vp_in_nI (by omega) (by omega)) ?_
    refine br_ (fun g => ?_) (fun g => ?_)
    · have g : M2 11 0 11 (nI p).toNatClampNeg ≤ M2 11 0 12 (nI p).toNatClampNeg := g
      rw [hpc, i3_le, y1, y2] at g
      refine hgo [] _ _ _ _ ?_
      refine ⟨?_, hK⟩
      show _ = some (aI (if YL h p ≤ YU h p then 0 else 1))
      rw [if_pos g]
    · have g : ¬ M2 11 0 11 (nI p).toNatClampNeg ≤ M2 11 0 12 (nI p).toNatClampNeg := g
      rw [hpc, i3_le, y1, y2] at g
      refine hgo [] _ _ _ _ ?_
      refine ⟨?_, hK⟩
      show _ = some (aI (if YL h p ≤ YU h p then 0 else 1))
      rw [if_neg g]
theorem op_KY {nc nr : Nat} {as : List am_V} {M : am_M} {v : Int32} {d1 d2 : Nat} (hR : Rel M) (h1 : Con d1 nc (aR 0 0 0 :: as) M (some (aI v)) M) (h2 : ConP d2 nr (aR 11 0 0 :: as) M (fun r M2 => r = some (aI v) ∧ KY M2 (rT M))) (hd1 : d1 < 100 := by decide) (hd2 : d2 < 100 := by decide) : OpAt nc nr as M := by
  refine op_mkP (v := v) (d2 := d2) h1 ?_ hd1 hd2
  rintro r M1 ⟨rfl, rfl⟩
  refine ⟨rfl, _, h2, ?_⟩
  rintro r2 M2 ⟨rfl, hK⟩
  exact ⟨rfl, Rel_KY hR hK⟩
theorem i3_nat {x : Int32} {n : Nat} (h0 : 0 ≤ x.toInt) (hn : x.toInt ≤ n) : ∃ k : Nat, k ≤ n ∧ x = nI k := ⟨x.toNatClampNeg, by have := i3_cl h0; omega, i3_of h0⟩
theorem sn_nat {h : Nat → Int32} {x : Int32} (g : sn h x) : ∃ p : Nat, p < nP h ∧ Seen h p = true ∧ x = nI p := ⟨x.toNatClampNeg, by have := i3_cl g.1.1; have := g.1.2; omega, g.2, i3_of g.1.1⟩
theorem op_years (x k : Int32) (M : am_M) (hR : Rel M) : OpAt mMain_years mRef_years [aI x, aI k] M := by
  obtain ⟨c1, c2⟩ := Rel_CF hR
  by_cases hb : sn (M 11 0 4) x ∧ 0 ≤ k.toInt ∧ k.toInt ≤ 2
  · obtain ⟨b1, b2, b3⟩ := hb
    obtain ⟨n, hn, rfl⟩ := i3_nat (n := 2) b2 b3
    by_cases hr : NoRing (M 11 0 4)
    · obtain ⟨p, hp, hs, rfl⟩ := sn_nat b1
      exact op_KY hR (c_Main_years_ok _ p n M c1 hp hs hn hr) (c_Ref_years_ok _ p n M c2 hp hs hn hr)
    · exact op_mk (c_Main_years_ring _ x n M c1 b1 hn hr) (c_Ref_years_ring _ x n M c2 b1 hn hr) (Rel_bad hR)
  · exact op_mk (c_Main_years_bad _ x k M c1 hb) (c_Ref_years_bad _ x k M c2 hb) (Rel_bad hR)
/-! younger -/
def ygB (h : Nat → Int32) (a b s : Nat) : Bool := (wl h s == b) && decide (YU h (ly h s 0) < (hN h (4 + 3 * a) : Int))
theorem On_Seen {h : Nat → Int32} {w p : Nat} (g : On h w p = true) : Seen h p = true := by
  obtain ⟨s, hs, h1⟩ := exB_iff.mp g
  rw [Bool.and_eq_true] at h1
  exact exB_iff.mpr ⟨s, hs, h1.2⟩
theorem ly_Seen {h : Nat → Int32} {s k : Nat} (hs : s < nS h) (hk : k < dp h s) : Seen h (ly h s k) = true := exB_iff.mpr ⟨s, hs, exB_iff.mpr ⟨k, hk, by simp⟩⟩
theorem HV_b {h : Nat → Int32} (hv : HV h) {w : Nat} (hw : w < nW h) : h (4 + 3 * w) = nI (hN h (4 + 3 * w)) ∧ hN h (4 + 3 * w) ≤ 1999 := by
  obtain ⟨b, wd, hg, b1, b2, b3, -⟩ := hv.2.2.2.2.1 w hw
  have e : hN h (4 + 3 * w) = b := by unfold hN; rw [b1, cl_nI (by omega)]
  rw [e]
  exact ⟨b1, b3⟩
theorem c_isYounger (h : Nat → Int32) (a b : Nat) (M : am_M) (c : CF h M) (ha : a < nW h) (hb : b < nW h) (hn : NoRing h) : Con 3 mFacts_isYounger [aR 7 0 0, aI (nI a), aI (nI b)] M (some (aI (b2i (exB (ygB h a b) (nS h) = true)))) M := by
  obtain ⟨hv, hr, hf, hx⟩ := id c
  have w8 := hv.1.2
  have s9 := hv.2.2.2.1.2
  have en : M 5 0 0 0 = nI (nS h) := by rw [hr.2.2.2.1, hv.2.2.2.1.1]
  have hac : (nI a).toNatClampNeg = a := cl_nI (by omega)
  obtain ⟨eb1, eb2⟩ := HV_b hv ha
  have p10 := hv.2.1.2
  refine con_of okFacts_isYounger [some (aR 7 0 0), some (aI (nI a)), some (aI (nI b)), none, none, none] (some .boolean) ?_
  intro J hgo
  have loop : ∀ m s sv (z z5 : Option am_V), m = nS h - s → s ≤ nS h → sv = nI s → exB (ygB h a b) s = false → J 2 [some (aR 7 0 0), some (aI (nI a)), some (aI (nI b)), some (aI sv), z, z5] [] M := by
    intro m
    induction m with
    | zero =>
      intro s sv z z5 hm hs hv2 hf
      have hs : s = nS h := by omega
      subst hv2
      refine hgo [] _ _ _ _ ?_
      refine brt (by show M 5 0 0 0 ≤ nI s; rw [en, hs]; exact nI_le (Nat.le_refl _) (by omega)) ?_
      refine hgo [] _ _ _ _ ?_
      refine ob_ (by decide) ⟨?_, rfl⟩
      rw [hs] at hf
      rw [b2i_f (by rw [hf]; decide)]
    | succ m ih =>
      intro s sv z z5 hm hs hv2 hf
      subst hv2
      have hlt : s < nS h := by omega
      obtain ⟨a1, a2, a3, a4, a5, a6⟩ := HV_sp hv hlt
      have q6 := (HV_sq hv hlt).2
      have l10 := (a6 0 (by omega)).2
      have lc : (nI (ly h s 0)).toNatClampNeg = ly h s 0 := cl_nI (by omega)
      have y2 := (CF_y c hn l10 (ly_Seen hlt (by omega))).2
      have nx : ∀ z z5 : Option am_V, ygB h a b s = false → J 81 [some (aR 7 0 0), some (aI (nI a)), some (aI (nI b)), some (aI (nI s)), z, z5] [] M := by
        intro z z5 g
        refine hgo [] _ _ _ _ ?_
        refine ih (s + 1) _ _ _ (by omega) (by omega) (nI_1 s) ?_
        show (exB (ygB h a b) s || ygB h a b s) = false
        rw [hf, g]
        rfl
      have nw : nI (wl h s) = nI b ↔ wl h s = b := nI_eq (by omega) (by omega)
      refine hgo [] _ _ _ _ ?_
      refine brf (by show ¬ M 5 0 0 0 ≤ nI s; rw [en]; exact nI_ge hlt (by omega)) ?_
      refine cl_ (c_layer h M hv hr.2.2.2 s 0 hlt (by omega)) ?_
      refine cl_ (c_wall h M hv hr.2.2.2 s hlt) ?_
      refine br_ (fun g => ?_) (fun g => ?_)
      · have g := nw.mp g
        refine cl_ (c_isPap h M hv hr.2.1 _) ?_
        refine brbt (nI_bd (q6 0 (by omega)) (by omega)) ?_
        refine hgo [] _ _ _ _ ?_
        refine brf (by decide) ?_
        refine ob_ (vp_in_nI (by omega) (by omega)) ?_
        refine ob_ (vp_in_nI (by omega) (by omega)) ?_
        rw [lc, hac]
        refine br_ (fun g2 => ?_) (fun g2 => ?_)
        · have g2 : M 4 0 1 a ≤ M 7 0 6 (ly h s 0) := g2
          rw [(hr.1.2 a ha).1, eb1, i3_le, y2, i3_n (by omega)] at g2
          refine nx _ _ ?_
          unfold ygB
          rw [decide_eq_false (by omega)]
          simp
        · have g2 : ¬ M 4 0 1 a ≤ M 7 0 6 (ly h s 0) := g2
          rw [(hr.1.2 a ha).1, eb1, i3_le, y2, i3_n (by omega)] at g2
          refine ob_ (by decide) ⟨?_, rfl⟩
          rw [b2i_t]
          refine exB_iff.mpr ⟨s, hlt, ?_⟩
          unfold ygB
          rw [decide_eq_true (by omega), g]
          simp
      · have g : ¬ wl h s = b := fun q => g (nw.mpr q)
        refine hgo [] _ _ _ _ ?_
        refine brt rfl ?_
        refine nx _ _ ?_
        unfold ygB
        simp [g]
  refine hgo [2] _ _ _ _ ?_
  exact loop _ 0 _ _ _ rfl (by omega) rfl rfl
