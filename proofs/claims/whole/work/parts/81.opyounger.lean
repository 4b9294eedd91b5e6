/-! younger -/
def wa (h : Nat → Int32) (x : Int32) : Prop := 0 ≤ x.toInt ∧ x.toInt < nW h
theorem wa_nat {h : Nat → Int32} {x : Int32} (g : wa h x) : ∃ p : Nat, p < nW h ∧ x = nI p := ⟨x.toNatClampNeg, by have := i3_cl g.1; have := g.2; omega, i3_of g.1⟩
theorem c_isWall (h : Nat → Int32) (x : Int32) (M : am_M) (c : CF h M) : Con 1 mHouse_isWall [aR 4 0 0, aI x] M (some (aI (b2i (0 ≤ x.toInt ∧ x.toInt < nW h)))) M :=
  c_House_isWall (nW h) 0 x M (by rw [c.2.1.1.1, c.1.1.1]) (by have := c.1.1.2; omega)
theorem c_RisWall (h : Nat → Int32) (x : Int32) (M : am_M) (c : CR h M) : Con 2 mRef_isWall [aR 11 0 0, aI x] M (some (aI (b2i (0 ≤ x.toInt ∧ x.toInt < nW h)))) M :=
  c_Ref_isWall (nW h) x M (by rw [c.2.1, c.1.1.1]) (by have := c.1.1.2; omega)
theorem c_Main_younger_bad (h : Nat → Int32) (x y : Int32) (M : am_M) (c : CF h M) (hb : ¬ (wa h x ∧ wa h y ∧ ¬ x = y)) : Con 4 mMain_younger [aR 0 0 0, aI x, aI y] M (some (aI (-1000001))) M := by
  refine con_of okMain_younger [some (aR 0 0 0), some (aI x), some (aI y)] (some .int) ?_
  intro J hgo
  have no : J 27 [some (aR 0 0 0), some (aI x), some (aI y)] [] M := by
    refine hgo [] _ _ _ _ ?_
    exact ⟨rfl, rfl⟩
  refine hgo [27] _ _ _ _ ?_
  refine cl_ (c_isWall h x M c) ?_
  refine brb (fun _ => no) (fun g1 => ?_)
  refine cl_ (c_isWall h y M c) ?_
  refine brb (fun _ => no) (fun g2 => ?_)
  refine br_ (fun _ => no) (fun g3 => absurd ⟨g1, g2, g3⟩ hb)
theorem c_Ref_younger_bad (h : Nat → Int32) (x y : Int32) (M : am_M) (c : CR h M) (hb : ¬ (wa h x ∧ wa h y ∧ ¬ x = y)) : Con 4 mRef_younger [aR 11 0 0, aI x, aI y] M (some (aI (-1000001))) (rT M) := by
  refine con_of okRef_younger [some (aR 11 0 0), some (aI x), some (aI y), none, none] (some .int) ?_
  intro J hgo
  have no : J 26 [some (aR 11 0 0), some (aI x), some (aI y), none, none] [] (rT M) := by
    refine hgo [] _ _ _ _ ?_
    exact ⟨rfl, rfl⟩
  refine hgo [26] _ _ _ _ ?_
  refine cl_ (c_RisWall h x _ (CR_T c)) ?_
  refine brb (fun _ => no) (fun g1 => ?_)
  refine cl_ (c_RisWall h y _ (CR_T c)) ?_
  refine brb (fun _ => no) (fun g2 => ?_)
  refine br_ (fun _ => no) (fun g3 => absurd ⟨g1, g2, g3⟩ hb)
theorem c_Main_younger_ring (h : Nat → Int32) (x y : Int32) (M : am_M) (c : CF h M) (g1 : wa h x) (g2 : wa h y) (g3 : ¬ x = y) (hn : ¬ NoRing h) : Con 4 mMain_younger [aR 0 0 0, aI x, aI y] M (some (aI (-1000002))) M := by
  refine con_of okMain_younger [some (aR 0 0 0), some (aI x), some (aI y)] (some .int) ?_
  intro J hgo
  refine hgo [] _ _ _ _ ?_
  refine cl_ (c_isWall h x M c) ?_
  refine brbt g1 ?_
  refine cl_ (c_isWall h y M c) ?_
  refine brbt g2 ?_
  refine brf g3 ?_
  refine hgo [] _ _ _ _ ?_
  refine cl_ (c_hasRing h M c 1 (Or.inr ⟨hn, rfl⟩)) ?_
  refine brf (by decide) ?_
  exact ⟨rfl, rfl⟩
theorem c_Ref_younger_ring (h : Nat → Int32) (x y : Int32) (M : am_M) (c : CR h M) (g1 : wa h x) (g2 : wa h y) (g3 : ¬ x = y) (hn : ¬ NoRing h) : Con 4 mRef_younger [aR 11 0 0, aI x, aI y] M (some (aI (-1000002))) (rT M) := by
  refine con_of okRef_younger [some (aR 11 0 0), some (aI x), some (aI y), none, none] (some .int) ?_
  intro J hgo
  refine hgo [] _ _ _ _ ?_
  refine cl_ (c_RisWall h x _ (CR_T c)) ?_
  refine brbt g1 ?_
  refine cl_ (c_RisWall h y _ (CR_T c)) ?_
  refine brbt g2 ?_
  refine brf g3 ?_
  refine hgo [] _ _ _ _ ?_
  refine cl_ (c_inRings h _ (CR_T c)) ?_
  refine brf (fun q => hn (ring_iff.mp q)) ?_
  exact ⟨rfl, rfl⟩
theorem c_Main_younger_ok (h : Nat → Int32) (a b : Nat) (M : am_M) (c : CF h M) (ha : a < nW h) (hb : b < nW h) (hab : a ≠ b) (hn : NoRing h) : Con 4 mMain_younger [aR 0 0 0, aI (nI a), aI (nI b)] M (some (aI (b2i (exB (ygB h a b) (nS h) = true)))) M := by
  have w8 := c.1.1.2
  refine con_of okMain_younger [some (aR 0 0 0), some (aI (nI a)), some (aI (nI b))] (some .int) ?_
  intro J hgo
  refine hgo [] _ _ _ _ ?_
  refine cl_ (c_isWall h (nI a) M c) ?_
  refine brbt (by rw [i3_n (by omega)]; omega) ?_
  refine cl_ (c_isWall h (nI b) M c) ?_
  refine brbt (by rw [i3_n (by omega)]; omega) ?_
  refine brf (fun q => hab ((nI_eq (by omega) (by omega)).mp q)) ?_
  refine hgo [] _ _ _ _ ?_
  refine cl_ (c_hasRing h M c 0 (Or.inl ⟨hn, rfl⟩)) ?_
  refine brt rfl ?_
  refine hgo [] _ _ _ _ ?_
  refine cl_ (c_isYounger h a b M c ha hb hn) ?_
  refine brb (fun g => ?_) (fun g => ?_)
  · refine hgo [] _ _ _ _ ?_
    refine ⟨?_, rfl⟩
    rw [b2i_f g]
  · refine hgo [] _ _ _ _ ?_
    refine ⟨?_, rfl⟩
    rw [b2i_t g]
theorem c_Ref_younger_ok (h : Nat → Int32) (a b : Nat) (M : am_M) (c : CR h M) (ha : a < nW h) (hb : b < nW h) (hab : a ≠ b) (hn : NoRing h) : ConP 4 mRef_younger [aR 11 0 0, aI (nI a), aI (nI b)] M (fun r M2 => r = some (aI (b2i (exB (ygB h a b) (nS h) = true))) ∧ KY M2 (rT M)) := by
  have w8 := c.1.1.2
  have s9 := c.1.2.2.2.1.2
  have hv := c.1
  obtain ⟨eb1, eb2⟩ := HV_b hv ha
  refine con_of okRef_younger [some (aR 11 0 0), some (aI (nI a)), some (aI (nI b)), none, none] (some .int) ?_
  intro J hgo
  have loop : ∀ M2, KY M2 (rT M) → CR h M2 → YR h M2 → ∀ m s sv x, m = nS h - s → s ≤ nS h → sv = nI s → x = b2i (exB (ygB h a b) s = true) → J 48 [some (aR 11 0 0), some (aI (nI a)), some (aI (nI b)), some (aI x), some (aI sv)] [] M2 := by
    intro M2 hK c2 hY m
    have h4 := c2.2.1
    have cwall : Con 1 mRef_wall [aR 11 0 0, aI (nI a), aI 0] M2 (some (aI (nI (hN h (4 + 3 * a))))) M2 := by
      rw [← eb1, ← h4]
      exact c_Ref_wall a 0 M2 (by omega) (by omega)
    induction m with
    | zero =>
      intro s sv x hm hs hv2 hx
      have hs : s = nS h := by omega
      subst hv2
      refine hgo [] _ _ _ _ ?_
      refine ob_ (vp_in_nI (n := 3) (N := 198) (by omega) (by omega)) ?_
      refine brt (by show M2 11 0 4 3 ≤ nI s; rw [h4, hv.2.2.2.1.1, hs]; exact nI_le (Nat.le_refl _) (by omega)) ?_
      refine hgo [] _ _ _ _ ?_
      rw [hx, hs]
      refine brb (fun g => ?_) (fun g => ?_)
      · refine hgo [] _ _ _ _ ?_
        refine ⟨?_, hK⟩
        rw [b2i_f g]
      · refine hgo [] _ _ _ _ ?_
        refine ⟨?_, hK⟩
        rw [b2i_t g]
    | succ m ih =>
      intro s sv x hm hs hv2 hx
      subst hv2 hx
      have hlt : s < nS h := by omega
      obtain ⟨a1, a2, a3, a4, a5, a6⟩ := HV_sp hv hlt
      have l10 := (a6 0 (by omega)).2
      have lp := ((hv.2.2.2.2.2.2.2 s hlt).2.2.2.2.2 0 (by omega)).2
      have lc : (nI (ly h s 0)).toNatClampNeg = ly h s 0 := cl_nI (by omega)
      have y2 := (hY _ lp).2
      have nw : nI (wl h s) = nI b ↔ wl h s = b := nI_eq (by omega) (by omega)
      have s99 : ∀ x, x = b2i (exB (ygB h a b) (s + 1) = true) → J 99 [some (aR 11 0 0), some (aI (nI a)), some (aI (nI b)), some (aI (b2i (exB (ygB h a b) s = true))), some (aI (nI s))] [aI x] M2 := by
        intro x hx
        refine hgo [] _ _ _ _ ?_
        exact ih (s + 1) _ _ (by omega) (by omega) (nI_1 s) hx
      have s94 : exB (ygB h a b) (s + 1) = true → J 94 [some (aR 11 0 0), some (aI (nI a)), some (aI (nI b)), some (aI (b2i (exB (ygB h a b) s = true))), some (aI (nI s))] [] M2 := by
        intro g
        refine hgo [] _ _ _ _ ?_
        refine s99 _ ?_
        rw [b2i_t g]
      have s98 : exB (ygB h a b) (s + 1) = false → J 98 [some (aR 11 0 0), some (aI (nI a)), some (aI (nI b)), some (aI (b2i (exB (ygB h a b) s = true))), some (aI (nI s))] [] M2 := by
        intro g
        refine hgo [99] _ _ _ _ ?_
        refine s99 _ ?_
        rw [b2i_f (by rw [g]; decide)]
      have es : exB (ygB h a b) (s + 1) = (exB (ygB h a b) s || ygB h a b s) := rfl
      refine hgo [94] _ _ _ _ ?_
      refine ob_ (vp_in_nI (n := 3) (N := 198) (by omega) (by omega)) ?_
      refine brf (by show ¬ M2 11 0 4 3 ≤ nI s; rw [h4, hv.2.2.2.1.1]; exact nI_ge hlt (by omega)) ?_
      refine brb (fun g => ?_) (fun g => ?_)
      · refine cl_ (c_wallOf h M2 hv h4 s hlt) ?_
        refine br_ (fun g2 => ?_) (fun g2 => ?_)
        · have g2 := nw.mp g2
          refine cl_ (c_lies h M2 hv h4 s 0 hlt (by omega)) ?_
          refine ob_ (vp_in_nI (by omega) (by omega)) ?_
          refine cl_ cwall ?_
          rw [lc]
          refine br_ (fun g3 => ?_) (fun g3 => ?_)
          · have g3 : nI (hN h (4 + 3 * a)) ≤ M2 11 0 12 (ly h s 0) := g3
            rw [i3_le, y2, i3_n (by omega)] at g3
            refine s98 ?_
            rw [es, Bool.eq_false_iff.mpr g]
            unfold ygB
            rw [decide_eq_false (by omega)]
            simp
          · have g3 : ¬ nI (hN h (4 + 3 * a)) ≤ M2 11 0 12 (ly h s 0) := g3
            rw [i3_le, y2, i3_n (by omega)] at g3
            refine s94 ?_
            rw [es]
            unfold ygB
            rw [decide_eq_true (by omega), g2]
            simp
        · have g2 : ¬ wl h s = b := fun q => g2 (nw.mpr q)
          refine s98 ?_
          rw [es, Bool.eq_false_iff.mpr g]
          unfold ygB
          simp [g2]
      · refine s94 ?_
        rw [es, g]
        rfl
  refine hgo [] _ _ _ _ ?_
  refine cl_ (c_RisWall h (nI a) _ (CR_T c)) ?_
  refine brbt (by rw [i3_n (by omega)]; omega) ?_
  refine cl_ (c_RisWall h (nI b) _ (CR_T c)) ?_
  refine brbt (by rw [i3_n (by omega)]; omega) ?_
  refine brf (fun q => hab ((nI_eq (by omega) (by omega)).mp q)) ?_
  refine hgo [] _ _ _ _ ?_
  refine cl_ (c_inRings h _ (CR_T c)) ?_
  refine brt (ring_iff.mpr hn) ?_
  refine hgo [48] _ _ _ _ ?_
  refine clp (c_lay h _ (CR_T c) hn) ?_
  rintro r M2 ⟨rfl, hK, hY⟩
  exact loop M2 hK (CR_KY (CR_T c) hK) hY _ 0 _ _ rfl (by omega) rfl rfl
theorem op_younger (x y : Int32) (M : am_M) (hR : Rel M) : OpAt mMain_younger mRef_younger [aI x, aI y] M := by
  obtain ⟨c1, c2⟩ := Rel_CF hR
  by_cases hb : wa (M 11 0 4) x ∧ wa (M 11 0 4) y ∧ ¬ x = y
  · obtain ⟨b1, b2, b3⟩ := hb
    by_cases hr : NoRing (M 11 0 4)
    · obtain ⟨p, hp, rfl⟩ := wa_nat b1
      obtain ⟨q, hq, rfl⟩ := wa_nat b2
      exact op_KY hR (c_Main_younger_ok _ p q M c1 hp hq (fun e => b3 (by rw [e])) hr) (c_Ref_younger_ok _ p q M c2 hp hq (fun e => b3 (by rw [e])) hr)
    · exact op_mk (c_Main_younger_ring _ x y M c1 b1 b2 b3 hr) (c_Ref_younger_ring _ x y M c2 b1 b2 b3 hr) (Rel_bad hR)
  · exact op_mk (c_Main_younger_bad _ x y M c1 hb) (c_Ref_younger_bad _ x y M c2 hb) (Rel_bad hR)
/-! lacks -/
def lk0 (h : Nat → Int32) (w p : Nat) : Bool := ((Seen h p && !On h w p) && exB (fun q => On h w q && Su h q p) 10) && exB (fun q => Su h p q && On h w q) 10
def lk1 (h : Nat → Int32) (w p : Nat) : Bool := (Seen h p && !On h w p) && decide (YU h p < (hN h (4 + 3 * w) : Int))
def upto (f : Nat → Bool) (n p : Nat) : Bool := decide (p < n) && f p
theorem upto_s {f : Nat → Bool} {n : Nat} : (f n = true → bs (upto f n) ||| bs (fun i => decide (i = n)) = bs (upto f (n + 1))) ∧ (¬ f n = true → bs (upto f n) = bs (upto f (n + 1))) := by
  constructor
  · intro g
    rw [bs_or]
    apply bs_cong
    intro i hi
    unfold upto
    by_cases e : i = n
    · subst e
      simp [g]
    · have h2 : decide (i < n + 1) = decide (i < n) := by
        apply decide_eq_decide.mpr
        omega
      simp [e, h2]
  · intro g
    apply bs_cong
    intro i hi
    unfold upto
    by_cases e : i = n
    · subst e
      simp [g]
    · have h2 : decide (i < n + 1) = decide (i < n) := by
        apply decide_eq_decide.mpr
        omega
      simp [h2]
theorem upto_0 {f : Nat → Bool} : bs (upto f 0) = 0 := by
  rw [← bs_0]
  apply bs_cong
  intro i hi
  unfold upto
  simp
theorem upto_10 {f : Nat → Bool} : bs (upto f 10) = bs f := by
  apply bs_cong
  intro i hi
  unfold upto
  simp [hi]
theorem Su_Seen {h : Nat → Int32} (hv : HV h) {p q : Nat} (g : Su h p q = true) : Seen h q = true := wsh_min (R := Ah h) (T := fun _ b => Seen h b) (fun a b ha => (Ah_in hv ha).2.2.2) (fun a k b _ h2 => h2) 10 p q g
theorem bs_ne {f : Nat → Bool} : (¬ bs f = 0) ↔ exB f 10 = true := by
  rw [bs_zero]
  constructor
  · intro g
    rw [← Bool.not_eq_false]
    intro hx
    apply g
    intro q hq
    rw [← Bool.not_eq_true]
    intro hy
    rw [exB_iff.mpr ⟨q, hq, hy⟩] at hx
    cases hx
  · intro g g2
    obtain ⟨q, hq, hx⟩ := exB_iff.mp g
    rw [g2 q hq] at hx
    cases hx
theorem c_scrapedOff (h : Nat → Int32) (w : Nat) (M : am_M) (c : CF h M) (hw : w < nW h) : Con 2 mFacts_scrapedOff [aR 7 0 0, aI (nI w)] M (some (aI (bs (lk0 h w)))) M := by
  obtain ⟨hv, hr, ⟨f1, f2, f3, f4, f5⟩, hx⟩ := id c
  have w8 := hv.1.2
  have hwc : (nI w).toNatClampNeg = w := cl_nI (by omega)
  have eo : M 7 0 1 (nI w).toNatClampNeg = bs (On h w) := by rw [hwc, f3 w (by omega)]
  refine con_of okFacts_scrapedOff [some (aR 7 0 0), some (aI (nI w)), none, none, none, none] (some .int) ?_
  intro J hgo
  have two : ∀ m p pv y (z : Option am_V), m = 10 - p → p ≤ 10 → pv = nI p → y = bs (upto (lk0 h w) p) → J 43 [some (aR 7 0 0), some (aI (nI w)), some (aI (bs (fun a => exB (fun q => On h w q && Su h q a) 10))), some (aI y), some (aI pv), z] [] M := by
    intro m
    induction m with
    | zero =>
      intro p pv y z hm hp hv2 hy
      obtain rfl : p = 10 := by omega
      subst hv2
      refine hgo [] _ _ _ _ ?_
      refine brt (by decide) ?_
      refine hgo [] _ _ _ _ ?_
      refine ⟨?_, rfl⟩
      rw [hy, upto_10]
    | succ m ih =>
      intro p pv y z hm hp hv2 hy
      subst hv2 hy
      have hp10 : p < 10 := by omega
      have hpc : (nI p).toNatClampNeg = p := cl_nI (by omega)
      have nx : ∀ (y : Int32) (z : Option am_V), y = bs (upto (lk0 h w) (p + 1)) → J 109 [some (aR 7 0 0), some (aI (nI w)), some (aI (bs (fun a => exB (fun q => On h w q && Su h q a) 10))), some (aI y), some (aI (nI p)), z] [] M := by
        intro y z hy
        refine hgo [] _ _ _ _ ?_
        exact ih (p + 1) _ _ _ (by omega) (by omega) (nI_1 p) hy
      have s81 : ∀ z : Option am_V, J 81 [some (aR 7 0 0), some (aI (nI w)), some (aI (bs (fun a => exB (fun q => On h w q && Su h q a) 10))), some (aI (bs (upto (lk0 h w) p))), some (aI (nI p)), z] [aI (b2i (exB (fun q => On h w q && Su h q p) 10 = true ∧ exB (fun q => Su h p q && On h w q) 10 = true))] M := by
        intro z
        refine hgo [109] _ _ _ _ ?_
        refine brb (fun g => ?_) (fun g => ?_)
        · refine nx _ _ ((upto_s).2 (fun q => g ?_))
          unfold lk0 at q
          rw [Bool.and_eq_true, Bool.and_eq_true] at q
          exact ⟨q.1.2, q.2⟩
        · refine ob_ (vp_in_nI (by omega) (by omega)) ?_
          refine cle (c_Main_has (On h w) p M hp10) (by rw [eo]) rfl ?_
          obtain ⟨q, hq, g3⟩ := exB_iff.mp g.1
          rw [Bool.and_eq_true] at g3
          have hse := Su_Seen hv g3.2
          refine brb (fun g2 => ?_) (fun g2 => ?_)
          · refine nx _ _ ?_
            rw [bs_one hp10]
            refine (upto_s).1 ?_
            unfold lk0
            rw [hse, Bool.eq_false_iff.mpr g2, g.1, g.2]
            rfl
          · refine nx _ _ ((upto_s).2 (fun q => ?_))
            unfold lk0 at q
            rw [g2] at q
            simp at q
      have s80 : ¬ (exB (fun q => On h w q && Su h q p) 10 = true ∧ exB (fun q => Su h p q && On h w q) 10 = true) → J 80 [some (aR 7 0 0), some (aI (nI w)), some (aI (bs (fun a => exB (fun q => On h w q && Su h q a) 10))), some (aI (bs (upto (lk0 h w) p))), some (aI (nI p)), z] [] M := by
        intro g
        refine hgo [81] _ _ _ _ ?_
        have := s81 z
        rw [b2i_f g] at this
        exact this
      refine hgo [80, 81] _ _ _ _ ?_
      refine brf (nI_ge (b := 10) hp10 (by omega)) ?_
      refine cl_ (c_Main_has (fun a => exB (fun q => On h w q && Su h q a) 10) p M hp10) ?_
      refine brb (fun g => s80 (fun q => g q.1)) (fun g => ?_)
      refine ob_ (vp_in_nI (by omega) (by omega)) ?_
      refine ob_ (vp_in_nI (by omega) (by omega)) ?_
      rw [eo, hpc, f5 p hp10]
      refine br_ (fun g2 => s80 (fun q => (bs_ne.mpr q.2) (by rw [← bs_and]; exact g2))) (fun g2 => ?_)
      have g2 : ¬ bs (Su h p) &&& bs (On h w) = 0 := g2
      rw [bs_and] at g2
      have := s81 z
      rw [b2i_t ⟨g, bs_ne.mp g2⟩] at this
      exact this
  have one : ∀ m p pv y, m = 10 - p → p ≤ 10 → pv = nI p → y = bs (fun a => exB (fun q => On h w q && Su h q a) p) → J 4 [some (aR 7 0 0), some (aI (nI w)), some (aI y), some (aI pv), none, none] [] M := by
    intro m
    induction m with
    | zero =>
      intro p pv y hm hp hv2 hy
      obtain rfl : p = 10 := by omega
      subst hv2 hy
      refine hgo [] _ _ _ _ ?_
      refine brt (by decide) ?_
      refine hgo [43] _ _ _ _ ?_
      exact two _ 0 _ _ _ rfl (by omega) rfl upto_0.symm
    | succ m ih =>
      intro p pv y hm hp hv2 hy
      subst hv2 hy
      have hp10 : p < 10 := by omega
      have hpc : (nI p).toNatClampNeg = p := cl_nI (by omega)
      have nx : ∀ y : Int32, y = bs (fun a => exB (fun q => On h w q && Su h q a) (p + 1)) → J 32 [some (aR 7 0 0), some (aI (nI w)), some (aI y), some (aI (nI p)), none, none] [] M := by
        intro y hy
        refine hgo [] _ _ _ _ ?_
        exact ih (p + 1) _ _ (by omega) (by omega) (nI_1 p) hy
      refine hgo [32] _ _ _ _ ?_
      refine brf (nI_ge (b := 10) hp10 (by omega)) ?_
      refine ob_ (vp_in_nI (by omega) (by omega)) ?_
      refine cle (c_Main_has (On h w) p M hp10) (by rw [eo]) rfl ?_
      refine brb (fun g => ?_) (fun g => ?_)
      · refine nx _ (bs_cong (fun a ha => ?_))
        show _ = (exB (fun q => On h w q && Su h q a) p || (On h w p && Su h p a))
        rw [Bool.eq_false_iff.mpr g]
        simp
      · refine ob_ (vp_in_nI (by omega) (by omega)) ?_
        refine nx _ ?_
        rw [hpc, f5 p hp10, bs_or]
        apply bs_cong
        intro a ha
        show _ = (exB (fun q => On h w q && Su h q a) p || (On h w p && Su h p a))
        rw [g]
        simp
  refine hgo [4] _ _ _ _ ?_
  exact one _ 0 _ _ rfl (by omega) rfl (by rw [← bs_0]; rfl)
theorem c_neverThere (h : Nat → Int32) (w : Nat) (M : am_M) (c : CF h M) (hw : w < nW h) (hn : NoRing h) : Con 2 mFacts_neverThere [aR 7 0 0, aI (nI w)] M (some (aI (bs (lk1 h w)))) M := by
  obtain ⟨hv, hr, ⟨f1, f2, f3, f4, f5⟩, hx⟩ := id c
  have w8 := hv.1.2
  have hwc : (nI w).toNatClampNeg = w := cl_nI (by omega)
  have eo : M 7 0 1 (nI w).toNatClampNeg = bs (On h w) := by rw [hwc, f3 w (by omega)]
  obtain ⟨eb1, eb2⟩ := HV_b hv hw
  refine con_of okFacts_neverThere [some (aR 7 0 0), some (aI (nI w)), none, none] (some .int) ?_
  intro J hgo
  have one : ∀ m p pv y, m = 10 - p → p ≤ 10 → pv = nI p → y = bs (upto (lk1 h w) p) → J 4 [some (aR 7 0 0), some (aI (nI w)), some (aI y), some (aI pv)] [] M := by
    intro m
    induction m with
    | zero =>
      intro p pv y hm hp hv2 hy
      obtain rfl : p = 10 := by omega
      subst hv2
      refine hgo [] _ _ _ _ ?_
      refine brt (by decide) ?_
      refine hgo [] _ _ _ _ ?_
      refine ⟨?_, rfl⟩
      rw [hy, upto_10]
    | succ m ih =>
      intro p pv y hm hp hv2 hy
      subst hv2 hy
      have hp10 : p < 10 := by omega
      have hpc : (nI p).toNatClampNeg = p := cl_nI (by omega)
      have nx : ∀ y : Int32, y = bs (upto (lk1 h w) (p + 1)) → J 54 [some (aR 7 0 0), some (aI (nI w)), some (aI y), some (aI (nI p))] [] M := by
        intro y hy
        refine hgo [] _ _ _ _ ?_
        exact ih (p + 1) _ _ (by omega) (by omega) (nI_1 p) hy
      refine hgo [54] _ _ _ _ ?_
      refine brf (nI_ge (b := 10) hp10 (by omega)) ?_
      refine ob_ (vp_in_nI (by omega) (by omega)) ?_
      refine cle (c_Main_has (fun i => Seen h i && !On h w i) p M hp10) (by show [aI (M 7 0 0 2 &&& (M 7 0 1 (nI w).toNatClampNeg ^^^ -1)), aI (nI p)] = _; rw [eo, f1, bs_andn]) rfl ?_
      refine brb (fun g => ?_) (fun g => ?_)
      · refine nx _ ((upto_s).2 (fun q => g ?_))
        unfold lk1 at q
        rw [Bool.and_eq_true] at q
        exact q.1
      · have g' := g
        rw [Bool.and_eq_true] at g'
        have y2 := (CF_y c hn hp10 g'.1).2
        refine ob_ (vp_in_nI (by omega) (by omega)) ?_
        refine ob_ (vp_in_nI (by omega) (by omega)) ?_
        rw [hpc, hwc]
        refine br_ (fun g2 => ?_) (fun g2 => ?_)
        · have g2 : M 4 0 1 w ≤ M 7 0 6 p := g2
          rw [(hr.1.2 w hw).1, eb1, i3_le, y2, i3_n (by omega)] at g2
          refine nx _ ((upto_s).2 (fun q => ?_))
          unfold lk1 at q
          rw [Bool.and_eq_true] at q
          have := of_decide_eq_true q.2
          omega
        · have g2 : ¬ M 4 0 1 w ≤ M 7 0 6 p := g2
          rw [(hr.1.2 w hw).1, eb1, i3_le, y2, i3_n (by omega)] at g2
          refine nx _ ?_
          rw [bs_one hp10]
          refine (upto_s).1 ?_
          unfold lk1
          rw [g, decide_eq_true (by omega)]
          rfl
  refine hgo [4] _ _ _ _ ?_
  exact one _ 0 _ _ rfl (by omega) rfl upto_0.symm
