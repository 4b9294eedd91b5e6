/-! lacks: both sides -/
theorem c_Main_lacks_bad (h : Nat → Int32) (x k : Int32) (M : am_M) (c : CF h M) (hb : ¬ (wa h x ∧ (k = 0 ∨ k = 1))) : Con 4 mMain_lacks [aR 0 0 0, aI x, aI k] M (some (aI (-1000001))) M := by
  refine con_of okMain_lacks [some (aR 0 0 0), some (aI x), some (aI k)] (some .int) ?_
  intro J hgo
  have no : J 18 [some (aR 0 0 0), some (aI x), some (aI k)] [] M := by
    refine hgo [] _ _ _ _ ?_
    exact ⟨rfl, rfl⟩
  refine hgo [18] _ _ _ _ ?_
  refine cl_ (c_isWall h x M c) ?_
  refine brb (fun _ => no) (fun g1 => ?_)
  refine cl_ (c_Main_isSwitch k M) ?_
  exact brbf (fun q => hb ⟨g1, q⟩) no
theorem c_Ref_lacks_bad (h : Nat → Int32) (x k : Int32) (M : am_M) (c : CR h M) (hb : ¬ (wa h x ∧ (k = 0 ∨ k = 1))) : Con 4 mRef_lacks [aR 11 0 0, aI x, aI k] M (some (aI (-1000001))) (rT M) := by
  refine con_of okRef_lacks [some (aR 11 0 0), some (aI x), some (aI k), none, none, none, none, none] (some .int) ?_
  intro J hgo
  have no : J 23 [some (aR 11 0 0), some (aI x), some (aI k), none, none, none, none, none] [] (rT M) := by
    refine hgo [] _ _ _ _ ?_
    exact ⟨rfl, rfl⟩
  refine hgo [23] _ _ _ _ ?_
  refine cl_ (c_RisWall h x _ (CR_T c)) ?_
  refine brb (fun _ => no) (fun g1 => ?_)
  refine cl_ (c_Ref_in k 0 1 _ _ _ rfl (by decide) (by decide) _) ?_
  exact brbf (fun q => hb ⟨g1, swIn.mp q⟩) no
theorem c_Main_lacks_ring (h : Nat → Int32) (x k : Int32) (M : am_M) (c : CF h M) (g1 : wa h x) (g2 : k = 0 ∨ k = 1) (hn : ¬ NoRing h) : Con 4 mMain_lacks [aR 0 0 0, aI x, aI k] M (some (aI (-1000002))) M := by
  refine con_of okMain_lacks [some (aR 0 0 0), some (aI x), some (aI k)] (some .int) ?_
  intro J hgo
  refine hgo [] _ _ _ _ ?_
  refine cl_ (c_isWall h x M c) ?_
  refine brbt g1 ?_
  refine cl_ (c_Main_isSwitch k M) ?_
  refine brbt g2 ?_
  refine hgo [] _ _ _ _ ?_
  refine cl_ (c_hasRing h M c 1 (Or.inr ⟨hn, rfl⟩)) ?_
  refine brf (by decide) ?_
  exact ⟨rfl, rfl⟩
theorem c_Ref_lacks_ring (h : Nat → Int32) (x k : Int32) (M : am_M) (c : CR h M) (g1 : wa h x) (g2 : k = 0 ∨ k = 1) (hn : ¬ NoRing h) : Con 4 mRef_lacks [aR 11 0 0, aI x, aI k] M (some (aI (-1000002))) (rT M) := by
  refine con_of okRef_lacks [some (aR 11 0 0), some (aI x), some (aI k), none, none, none, none, none] (some .int) ?_
  intro J hgo
  refine hgo [] _ _ _ _ ?_
  refine cl_ (c_RisWall h x _ (CR_T c)) ?_
  refine brbt g1 ?_
  refine cl_ (c_Ref_in k 0 1 _ _ _ rfl (by decide) (by decide) _) ?_
  refine brbt (swIn.mpr g2) ?_
  refine hgo [] _ _ _ _ ?_
  refine cl_ (c_inRings h _ (CR_T c)) ?_
  refine brf (fun q => hn (ring_iff.mp q)) ?_
  exact ⟨rfl, rfl⟩
def lkV (h : Nat → Int32) (w k p : Nat) : Bool := if k = 0 then lk0 h w p else lk1 h w p
theorem c_Main_lacks_ok (h : Nat → Int32) (w k : Nat) (M : am_M) (c : CF h M) (hw : w < nW h) (hk : k ≤ 1) (hn : NoRing h) : Con 4 mMain_lacks [aR 0 0 0, aI (nI w), aI (nI k)] M (some (aI (bs (lkV h w k)))) M := by
  have w8 := c.1.1.2
  refine con_of okMain_lacks [some (aR 0 0 0), some (aI (nI w)), some (aI (nI k))] (some .int) ?_
  intro J hgo
  refine hgo [] _ _ _ _ ?_
  refine cl_ (c_isWall h (nI w) M c) ?_
  refine brbt (by rw [i3_n (by omega)]; omega) ?_
  refine cl_ (c_Main_isSwitch (nI k) M) ?_
  match k, hk with
  | 0, _ =>
    refine brbt (Or.inl rfl) ?_
    refine hgo [] _ _ _ _ ?_
    refine cl_ (c_hasRing h M c 0 (Or.inl ⟨hn, rfl⟩)) ?_
    refine brt rfl ?_
    refine hgo [] _ _ _ _ ?_
    refine brt rfl ?_
    refine cl_ (c_scrapedOff h w M c hw) ?_
    refine hgo [] _ _ _ _ ?_
    exact ⟨rfl, rfl⟩
  | 1, _ =>
    refine brbt (Or.inr rfl) ?_
    refine hgo [] _ _ _ _ ?_
    refine cl_ (c_hasRing h M c 0 (Or.inl ⟨hn, rfl⟩)) ?_
    refine brt rfl ?_
    refine hgo [] _ _ _ _ ?_
    refine brf (by decide) ?_
    refine hgo [] _ _ _ _ ?_
    refine cl_ (c_neverThere h w M c hw hn) ?_
    exact ⟨rfl, rfl⟩
theorem c_Ref_lacks_ok (h : Nat → Int32) (w k : Nat) (M : am_M) (c : CR h M) (hw : w < nW h) (hk : k ≤ 1) (hn : NoRing h) : ConP 4 mRef_lacks [aR 11 0 0, aI (nI w), aI (nI k)] M (fun r M2 => r = some (aI (bs (lkV h w k))) ∧ KY M2 (rT M)) := by
  have hv := c.1
  have w8 := hv.1.2
  have hwc : (nI w).toNatClampNeg = w := cl_nI (by omega)
  obtain ⟨eb1, eb2⟩ := HV_b hv hw
  refine con_of okRef_lacks [some (aR 11 0 0), some (aI (nI w)), some (aI (nI k)), none, none, none, none, none] (some .int) ?_
  intro J hgo
  have loop : ∀ M2, KY M2 (rT M) → CR h M2 → YR h M2 → ∀ m p pv y (z5 z6 z7 : Option am_V), m = 10 - p → p ≤ 10 → pv = nI p → y = bs (upto (lkV h w k) p) → J 45 [some (aR 11 0 0), some (aI (nI w)), some (aI (nI k)), some (aI y), some (aI pv), z5, z6, z7] [] M2 := by
    intro M2 hK c2 hY m
    obtain ⟨-, h4, f1, f3, f4, f5⟩ := id c2
    have eo : M2 11 0 7 (nI w).toNatClampNeg = bs (On h w) := by rw [hwc, f3 w (by omega)]
    have cwall : Con 1 mRef_wall [aR 11 0 0, aI (nI w), aI 0] M2 (some (aI (nI (hN h (4 + 3 * w))))) M2 := by
      rw [← eb1, ← h4]
      exact c_Ref_wall w 0 M2 (by omega) (by omega)
    induction m with
    | zero =>
      intro p pv y z5 z6 z7 hm hp hv2 hy
      obtain rfl : p = 10 := by omega
      subst hv2
      refine hgo [] _ _ _ _ ?_
      refine brt (by decide) ?_
      refine hgo [] _ _ _ _ ?_
      refine ⟨?_, hK⟩
      rw [hy, upto_10]
    | succ m ih =>
      intro p pv y z5 z6 z7 hm hp hv2 hy
      subst hv2
      have hp10 : p < 10 := by omega
      have hpc : (nI p).toNatClampNeg = p := cl_nI (by omega)
      have s208 : ∀ (x v6 v7 : Int32), y ||| x = bs (upto (lkV h w k) (p + 1)) → J 208 [some (aR 11 0 0), some (aI (nI w)), some (aI (nI k)), some (aI y), some (aI (nI p)), some (aI (b2i ((Seen h p && !On h w p) = true))), some (aI v6), some (aI v7)] [aI x, aI y] M2 := by
        intro x v6 v7 hx
        refine hgo [] _ _ _ _ ?_
        exact ih (p + 1) _ _ _ _ _ (by omega) (by omega) (nI_1 p) hx
      have s187 : ∀ (v6 v7 : Int32) (P : Prop) [Decidable P], (lkV h w k p = true ↔ ((Seen h p && !On h w p) = true ∧ P)) → J 187 [some (aR 11 0 0), some (aI (nI w)), some (aI (nI k)), some (aI y), some (aI (nI p)), some (aI (b2i ((Seen h p && !On h w p) = true))), some (aI v6), some (aI v7)] [aI (b2i P)] M2 := by
        intro v6 v7 P _ hP
        have s207 : ¬ lkV h w k p = true → J 207 [some (aR 11 0 0), some (aI (nI w)), some (aI (nI k)), some (aI y), some (aI (nI p)), some (aI (b2i ((Seen h p && !On h w p) = true))), some (aI v6), some (aI (b2i P))] [aI y] M2 := by
          intro g
          refine hgo [208] _ _ _ _ ?_
          refine s208 _ _ _ ?_
          rw [hy, ← (upto_s).2 g, ← bs_0, bs_or]
          exact bs_cong (fun i hi => by simp)
        refine hgo [207] _ _ _ _ ?_
        refine brb (fun g => s207 (fun q => g (hP.mp q).1)) (fun g => ?_)
        refine brb (fun g2 => s207 (fun q => g2 (hP.mp q).2)) (fun g2 => ?_)
        refine s208 _ _ _ ?_
        rw [hy, bs_one hp10]
        exact (upto_s).1 (hP.mpr ⟨g, g2⟩)
      have inner : ∀ m q qv x, m = 10 - q → q ≤ 10 → qv = nI q → x = b2i (exB (fun q => On h w q && Su h q p) q = true) → J 78 [some (aR 11 0 0), some (aI (nI w)), some (aI (nI k)), some (aI y), some (aI (nI p)), some (aI (b2i ((Seen h p && !On h w p) = true))), some (aI x), some (aI qv)] [] M2 := by
        intro m
        induction m with
        | zero =>
          intro q qv x hm hq hv2 hx
          obtain rfl : q = 10 := by omega
          subst hv2 hx
          refine hgo [] _ _ _ _ ?_
          refine brt (by decide) ?_
          match k, hk with
          | 0, _ =>
            have s162 : ¬ (exB (fun q => On h w q && Su h q p) 10 = true ∧ exB (fun q => Su h p q && On h w q) 10 = true) → J 162 [some (aR 11 0 0), some (aI (nI w)), some (aI (nI 0)), some (aI y), some (aI (nI p)), some (aI (b2i ((Seen h p && !On h w p) = true))), some (aI (b2i (exB (fun q => On h w q && Su h q p) 10 = true))), some (aI (nI 10))] [] M2 := by
              intro g
              refine hgo [] _ _ _ _ ?_
              have := s187 (b2i (exB (fun q => On h w q && Su h q p) 10 = true)) (nI 10) (exB (fun q => On h w q && Su h q p) 10 = true ∧ exB (fun q => Su h p q && On h w q) 10 = true) (by
                show lk0 h w p = true ↔ _
                unfold lk0
                rw [Bool.and_eq_true, Bool.and_eq_true, and_assoc])
              rw [b2i_f g] at this
              exact this
            refine hgo [162] _ _ _ _ ?_
            refine brt rfl ?_
            refine brb (fun g => s162 (fun q => g q.1)) (fun g => ?_)
            refine ob_ (vp_in_nI (by omega) (by omega)) ?_
            refine ob_ (vp_in_nI (by omega) (by omega)) ?_
            rw [eo, hpc, f5 p hp10]
            refine br_ (fun g2 => s162 (fun q => (bs_ne.mpr q.2) (by rw [← bs_and]; exact g2))) (fun g2 => ?_)
            have g2 : ¬ bs (Su h p) &&& bs (On h w) = 0 := g2
            rw [bs_and] at g2
            have := s187 (b2i (exB (fun q => On h w q && Su h q p) 10 = true)) (nI 10) (exB (fun q => On h w q && Su h q p) 10 = true ∧ exB (fun q => Su h p q && On h w q) 10 = true) (by
              show lk0 h w p = true ↔ _
              unfold lk0
              rw [Bool.and_eq_true, Bool.and_eq_true, and_assoc])
            have gg : exB (fun q => On h w q && Su h q p) 10 = true ∧ exB (fun q => Su h p q && On h w q) 10 = true := ⟨g, bs_ne.mp g2⟩
            rw [b2i_t gg] at this
            exact this
          | 1, _ =>
            have key : ∀ P : Prop, (Seen h p = true → (P ↔ YU h p < (hN h (4 + 3 * w) : Int))) → (lkV h w 1 p = true ↔ ((Seen h p && !On h w p) = true ∧ P)) := by
              intro P hP
              show lk1 h w p = true ↔ _
              unfold lk1
              rw [Bool.and_eq_true, decide_eq_true_iff]
              constructor
              · rintro ⟨g1, g2⟩
                refine ⟨g1, ?_⟩
                rw [Bool.and_eq_true] at g1
                exact (hP g1.1).mpr g2
              · rintro ⟨g1, g2⟩
                refine ⟨g1, ?_⟩
                rw [Bool.and_eq_true] at g1
                exact (hP g1.1).mp g2
            have yy : Seen h p = true → (M2 11 0 12 p).toInt = YU h p := fun g => (hY p (Seen_in hv g)).2
            refine hgo [] _ _ _ _ ?_
            refine brf (by decide) ?_
            refine hgo [187] _ _ _ _ ?_
            refine ob_ (vp_in_nI (by omega) (by omega)) ?_
            refine cl_ cwall ?_
            rw [hpc]
            refine br_ (fun g => ?_) (fun g => ?_)
            · have g : nI (hN h (4 + 3 * w)) ≤ M2 11 0 12 p := g
              rw [i3_le, i3_n (by omega)] at g
              have := s187 (b2i (exB (fun q => On h w q && Su h q p) 10 = true)) (nI 10) False (key False (fun q => by
                have := yy q
                constructor
                · intro f
                  exact f.elim
                · intro f
                  omega))
              rw [b2i_f id] at this
              refine hgo [187] _ _ _ _ ?_
              exact this
            · have g : ¬ nI (hN h (4 + 3 * w)) ≤ M2 11 0 12 p := g
              rw [i3_le, i3_n (by omega)] at g
              have := s187 (b2i (exB (fun q => On h w q && Su h q p) 10 = true)) (nI 10) True (key True (fun q => by
                have := yy q
                constructor
                · intro _
                  omega
                · intro _
                  trivial))
              rw [b2i_t trivial] at this
              exact this
        | succ m ih2 =>
          intro q qv x hm hq hv2 hx
          subst hv2 hx
          have hq10 : q < 10 := by omega
          have hqc : (nI q).toNatClampNeg = q := cl_nI (by omega)
          have es : exB (fun q => On h w q && Su h q p) (q + 1) = (exB (fun q => On h w q && Su h q p) q || (On h w q && Su h q p)) := rfl
          have s124 : ∀ x, x = b2i (exB (fun q => On h w q && Su h q p) (q + 1) = true) → J 124 [some (aR 11 0 0), some (aI (nI w)), some (aI (nI k)), some (aI y), some (aI (nI p)), some (aI (b2i ((Seen h p && !On h w p) = true))), some (aI (b2i (exB (fun q => On h w q && Su h q p) q = true))), some (aI (nI q))] [aI x] M2 := by
            intro x hx
            refine hgo [] _ _ _ _ ?_
            exact ih2 (q + 1) _ _ (by omega) (by omega) (nI_1 q) hx
          have s119 : exB (fun q => On h w q && Su h q p) (q + 1) = true → J 119 [some (aR 11 0 0), some (aI (nI w)), some (aI (nI k)), some (aI y), some (aI (nI p)), some (aI (b2i ((Seen h p && !On h w p) = true))), some (aI (b2i (exB (fun q => On h w q && Su h q p) q = true))), some (aI (nI q))] [] M2 := by
            intro g
            refine hgo [] _ _ _ _ ?_
            refine s124 _ ?_
            rw [b2i_t g]
          have s123 : exB (fun q => On h w q && Su h q p) (q + 1) = false → J 123 [some (aR 11 0 0), some (aI (nI w)), some (aI (nI k)), some (aI y), some (aI (nI p)), some (aI (b2i ((Seen h p && !On h w p) = true))), some (aI (b2i (exB (fun q => On h w q && Su h q p) q = true))), some (aI (nI q))] [] M2 := by
            intro g
            refine hgo [124] _ _ _ _ ?_
            refine s124 _ ?_
            rw [b2i_f (by rw [g]; decide)]
          refine hgo [119] _ _ _ _ ?_
          refine brf (nI_ge (b := 10) hq10 (by omega)) ?_
          refine brb (fun g => ?_) (fun g => ?_)
          · refine ob_ (vp_in_nI (by omega) (by omega)) ?_
            refine cle (c_Ref_isIn (On h w) q M2 hq10) (by rw [eo]) rfl ?_
            refine brb (fun g2 => ?_) (fun g2 => ?_)
            · refine s123 ?_
              rw [es, Bool.eq_false_iff.mpr g, Bool.eq_false_iff.mpr g2]
              rfl
            · refine ob_ (vp_in_nI (by omega) (by omega)) ?_
              refine cle (c_Ref_isIn (Su h q) p M2 hp10) (by rw [hqc, f5 q hq10]) rfl ?_
              refine brb (fun g3 => ?_) (fun g3 => ?_)
              · refine s123 ?_
                rw [es, Bool.eq_false_iff.mpr g, Bool.eq_false_iff.mpr g3]
                simp
              · refine s119 ?_
                rw [es, g2, g3]
                simp
          · refine s119 ?_
            rw [es, g]
            rfl
      refine hgo [78] _ _ _ _ ?_
      refine brf (nI_ge (b := 10) hp10 (by omega)) ?_
      refine ob_ (vp_in_nI (by omega) (by omega)) ?_
      refine cle (c_Ref_isIn (fun i => Seen h i && !On h w i) p M2 hp10) (by show [aI (M2 11 0 0 18 &&& (M2 11 0 7 (nI w).toNatClampNeg ^^^ -1)), aI (nI p)] = _; rw [eo, f1, bs_andn]) rfl ?_
      exact inner _ 0 _ _ rfl (by omega) rfl rfl
  refine hgo [] _ _ _ _ ?_
  refine cl_ (c_RisWall h (nI w) _ (CR_T c)) ?_
  refine brbt (by rw [i3_n (by omega)]; omega) ?_
  refine cl_ (c_Ref_in (nI k) 0 1 _ _ _ rfl (by decide) (by decide) _) ?_
  refine brbt ⟨nI_pos' (by omega), nI_le (b := 1) hk (by omega)⟩ ?_
  refine hgo [] _ _ _ _ ?_
  refine cl_ (c_inRings h _ (CR_T c)) ?_
  refine brt (ring_iff.mpr hn) ?_
  refine hgo [45] _ _ _ _ ?_
  refine clp (c_lay h _ (CR_T c) hn) ?_
  rintro r M2 ⟨rfl, hK, hY⟩
  exact loop M2 hK (CR_KY (CR_T c) hK) hY _ 0 _ _ _ _ _ rfl (by omega) rfl upto_0.symm
theorem op_lacks (x k : Int32) (M : am_M) (hR : Rel M) : OpAt mMain_lacks mRef_lacks [aI x, aI k] M := by
  obtain ⟨c1, c2⟩ := Rel_CF hR
  by_cases hb : wa (M 11 0 4) x ∧ (k = 0 ∨ k = 1)
  · obtain ⟨b1, b2⟩ := hb
    by_cases hr : NoRing (M 11 0 4)
    · obtain ⟨p, hp, rfl⟩ := wa_nat b1
      rcases b2 with rfl | rfl
      · exact op_KY hR (c_Main_lacks_ok _ p 0 M c1 hp (by omega) hr) (c_Ref_lacks_ok _ p 0 M c2 hp (by omega) hr)
      · exact op_KY hR (c_Main_lacks_ok _ p 1 M c1 hp (by omega) hr) (c_Ref_lacks_ok _ p 1 M c2 hp (by omega) hr)
    · exact op_mk (c_Main_lacks_ring _ x k M c1 b1 b2 hr) (c_Ref_lacks_ring _ x k M c2 b1 b2 hr) (Rel_bad hR)
  · exact op_mk (c_Main_lacks_bad _ x k M c1 hb) (c_Ref_lacks_bad _ x k M c2 hb) (Rel_bad hR)
