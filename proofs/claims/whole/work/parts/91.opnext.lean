/-! next -/
def rowS (op : Nat → Nat → Bool) (pt : Nat → Nat → Nat) (a : Nat) (i : Nat × Nat) : Nat → Nat × Nat
  | 0 => i
  | b + 1 => if ((decide (a < b) && op a b) && (decide ((rowS op pt a i b).1 = 0) || decide (pt a b < (rowS op pt a i b).2))) = true then (10 * a + b + 1, pt a b) else rowS op pt a i b
def colS (op : Nat → Nat → Bool) (pt : Nat → Nat → Nat) : Nat → Nat × Nat
  | 0 => (0, 0)
  | a + 1 => rowS op pt a (colS op pt a) 10
theorem rowS_low {op : Nat → Nat → Bool} {pt : Nat → Nat → Nat} {a : Nat} {i : Nat × Nat} : ∀ b, b ≤ a + 1 → rowS op pt a i b = i := by
  intro b
  induction b with
  | zero => intro _; rfl
  | succ b ih =>
    intro hb
    show (if _ then _ else _) = _
    rw [if_neg, ih (by omega)]
    rw [decide_eq_false (show ¬ a < b by omega)]
    simp
def opn (h : Nat → Int32) (a b : Nat) : Bool := ((Seen h a && Seen h b) && !Su h a b) && !Su h b a
def ptn (u : Nat → Nat → Nat) (w a b : Nat) : Nat := max (u a b) (w - u a b)
/-- the class's two numbers -/
def csR (w : Nat) (st : Nat × Nat) (best bp : Int32) : Prop := (st.1 = 0 ∧ best = -1 ∧ bp = nI (w + 1)) ∨ ∃ c, st.1 = c + 1 ∧ c < 100 ∧ best = nI c ∧ bp = nI st.2 ∧ st.2 ≤ w
def rsR (w : Nat) (st : Nat × Nat) (best ls : Int32) : Prop := (st.1 = 0 ∧ best = -1000000) ∨ ∃ c, st.1 = c + 1 ∧ c < 100 ∧ best = nI c ∧ ls = nI st.2 ∧ st.2 ≤ w
def nxV (st : Nat × Nat) : Int32 := match st.1 with
  | 0 => -1000000
  | c + 1 => nI c
theorem c_isOpen (h : Nat → Int32) (a b : Nat) (M : am_M) (c : CF h M) (ha : a < 10) (hb : b < 10) : Con 2 mOrders_isOpen [aR 8 0 0, aI (nI a), aI (nI b)] M (some (aI (b2i (opn h a b = true)))) M := by
  obtain ⟨hv, hr, ⟨f1, f2, f3, f4, f5⟩, hx⟩ := id c
  have hac : (nI a).toNatClampNeg = a := cl_nI (by omega)
  have hbc : (nI b).toNatClampNeg = b := cl_nI (by omega)
  refine con_of okOrders_isOpen [some (aR 8 0 0), some (aI (nI a)), some (aI (nI b)), none] (some .boolean) ?_
  intro J hgo
  have s74 : ∀ e : Int32, ¬ opn h a b = true → J 74 [some (aR 8 0 0), some (aI (nI a)), some (aI (nI b)), some (aI e)] [] M := by
    intro e g
    refine hgo [] _ _ _ _ ?_
    refine ob_ (by decide) ⟨?_, rfl⟩
    rw [b2i_f g]
  have s33 : J 33 [some (aR 8 0 0), some (aI (nI a)), some (aI (nI b)), none] [aI (b2i ((Seen h a && Seen h b) = true))] M := by
    refine hgo [74] _ _ _ _ ?_
    refine brb (fun g => s74 _ (fun q => ?_)) (fun g => ?_)
    · unfold opn at q
      rw [Bool.and_eq_true, Bool.and_eq_true] at q
      exact g q.1.1
    · refine ob_ (vp_in_nI (by omega) (by omega)) ?_
      refine cle (c_Main_has (Su h a) b M hb) (by rw [hac, f5 a ha]) rfl ?_
      refine brb (fun g2 => ?_) (fun g2 => s74 _ (fun q => ?_))
      · refine ob_ (vp_in_nI (by omega) (by omega)) ?_
        refine cle (c_Main_has (Su h b) a M ha) (by rw [hbc, f5 b hb]) rfl ?_
        refine brb (fun g3 => ?_) (fun g3 => s74 _ (fun q => ?_))
        · refine hgo [] _ _ _ _ ?_
          refine ob_ (by decide) ⟨?_, rfl⟩
          rw [b2i_t]
          unfold opn
          rw [g, Bool.eq_false_iff.mpr g2, Bool.eq_false_iff.mpr g3]
          rfl
        · unfold opn at q
          rw [g3] at q
          simp at q
      · unfold opn at q
        rw [g2] at q
        simp at q
  have s32 : ¬ (Seen h a && Seen h b) = true → J 32 [some (aR 8 0 0), some (aI (nI a)), some (aI (nI b)), none] [] M := by
    intro g
    refine hgo [33] _ _ _ _ ?_
    rw [b2i_f g] at s33
    exact s33
  refine hgo [32, 33] _ _ _ _ ?_
  refine cle (c_Main_has (Seen h) a M ha) (by show [aI (M 7 0 0 2), aI (nI a)] = _; rw [f1]) rfl ?_
  refine brb (fun g => s32 (fun q => ?_)) (fun g => ?_)
  · rw [Bool.and_eq_true] at q
    exact g q.1
  refine cle (c_Main_has (Seen h) b M hb) (by show [aI (M 7 0 0 2), aI (nI b)] = _; rw [f1]) rfl ?_
  refine brb (fun g2 => s32 (fun q => ?_)) (fun g2 => ?_)
  · rw [Bool.and_eq_true] at q
    exact g2 q.2
  rw [b2i_t (by rw [g, g2]; rfl)] at s33
  exact s33
theorem maxN {x y : Nat} (hx : x < 2 ^ 31) (hy : y < 2 ^ 31) : (if nI x < nI y then nI y else nI x) = nI (max x y) := by
  by_cases e : nI x < nI y
  · rw [if_pos e]
    rw [nI_ltI hx hy] at e
    congr 1
    omega
  · rw [if_neg e]
    rw [nI_ltI hx hy] at e
    congr 1
    omega
theorem c_mostEven (h : Nat → Int32) (u : Nat → Nat → Nat) (w : Nat) (M : am_M) (c : CF h M) (ho : OC (M 8 0) h) (hw : Wy h (Ah h) (sN h) = w) (hu : ∀ a b, a < 10 → Wy h (mu2 h a b) (sN h) = u a b) (hw2 : w < 2 ^ 22) (hul : ∀ a b, a < 10 → u a b ≤ w) : ConP 6 mOrders_mostEvenPair [aR 8 0 0] M (fun r M2 => (∃ best bp, r = some (aI best) ∧ csR w (colS (opn h) (ptn u w) 10) best bp) ∧ (∀ k, k ≠ 8 → M2 k = M k) ∧ OCd (M2 8 0) h) := by
  refine con_of okOrders_mostEvenPair [some (aR 8 0 0), none, none, none, none, none, none] (some .int) ?_
  intro J hgo
  have outer : ∀ t a av best bp (z5 z6 : Option am_V) M2, t = 10 - a → a ≤ 10 → av = nI a → csR w (colS (opn h) (ptn u w) a) best bp → (∀ k, k ≠ 8 → M2 k = M k) → OCd (M2 8 0) h → J 14 [some (aR 8 0 0), some (aI (nI w)), some (aI best), some (aI bp), some (aI av), z5, z6] [] M2 := by
    intro t
    induction t with
    | zero =>
      intro a av best bp z5 z6 M2 ht ha hv hc hk hd
      obtain rfl : a = 10 := by omega
      subst hv
      refine hgo [] _ _ _ _ ?_
      refine brt (by decide) ?_
      refine hgo [] _ _ _ _ ?_
      exact ⟨⟨best, bp, rfl, hc⟩, hk, hd⟩
    | succ t ih =>
      intro a av best bp z5 z6 M2 ht ha hv hc hk hd
      subst hv
      have ha10 : a < 10 := by omega
      have inner : ∀ t b bv best bp (z6 : Option am_V) M2, t = 10 - b → a < b → b ≤ 10 → bv = nI b → csR w (rowS (opn h) (ptn u w) a (colS (opn h) (ptn u w) a) b) best bp → (∀ k, k ≠ 8 → M2 k = M k) → OCd (M2 8 0) h → J 27 [some (aR 8 0 0), some (aI (nI w)), some (aI best), some (aI bp), some (aI (nI a)), some (aI bv), z6] [] M2 := by
        intro t
        induction t with
        | zero =>
          intro b bv best bp z6 M2 ht hab hb hv hc hk hd
          obtain rfl : b = 10 := by omega
          subst hv
          refine hgo [] _ _ _ _ ?_
          refine brt (by decide) ?_
          refine hgo [] _ _ _ _ ?_
          exact ih (a + 1) _ _ _ _ _ M2 (by omega) (by omega) (nI_1 a) hc hk hd
        | succ t ih2 =>
          intro b bv best bp z6 M2 ht hab hb hv hc hk hd
          subst hv
          have hb10 : b < 10 := by omega
          have e10 : (10 : Int32) * nI a + nI b = nI (10 * a + b) := by rw [show (10 : Int32) = nI 10 from rfl, pk_mul, nI_add]
          have rs : rowS (opn h) (ptn u w) a (colS (opn h) (ptn u w) a) (b + 1) = if ((decide (a < b) && opn h a b) && (decide ((rowS (opn h) (ptn u w) a (colS (opn h) (ptn u w) a) b).1 = 0) || decide (ptn u w a b < (rowS (opn h) (ptn u w) a (colS (opn h) (ptn u w) a) b).2))) = true then (10 * a + b + 1, ptn u w a b) else rowS (opn h) (ptn u w) a (colS (opn h) (ptn u w) a) b := rfl
          generalize hst : rowS (opn h) (ptn u w) a (colS (opn h) (ptn u w) a) b = st at hc rs
          have nx : ∀ (best bp part : Int32) M2, csR w (rowS (opn h) (ptn u w) a (colS (opn h) (ptn u w) a) (b + 1)) best bp → (∀ k, k ≠ 8 → M2 k = M k) → OCd (M2 8 0) h → J 86 [some (aR 8 0 0), some (aI (nI w)), some (aI best), some (aI bp), some (aI (nI a)), some (aI (nI b)), some (aI part)] [] M2 := by
            intro best bp part M2 hc hk hd
            refine hgo [] _ _ _ _ ?_
            exact ih2 (b + 1) _ _ _ _ M2 (by omega) (by omega) (by omega) (nI_1 b) hc hk hd
          refine hgo [86] _ _ _ _ ?_
          refine brf (nI_ge (b := 10) hb10 (by omega)) ?_
          refine clp (c_withAhead h a b M2 (CF_8 c hk) (Or.inr hd) ha10 hb10) ?_
          rintro r M3 ⟨rfl, a1, a2⟩
          have hk3 : ∀ k, k ≠ 8 → M3 k = M k := fun k k8 => (a1 k k8).trans (hk k k8)
          refine clp (c_withAhead h a b M3 (CF_8 c hk3) (Or.inr a2) ha10 hb10) ?_
          rintro r M4 ⟨rfl, b1, b2⟩
          have hk4 : ∀ k, k ≠ 8 → M4 k = M k := fun k k8 => (b1 k k8).trans (hk3 k k8)
          refine cl_ (c_Math_max _ _ M4) ?_
          refine cl_ (c_isOpen h a b M4 (CF_8 c hk4) ha10 hb10) ?_
          refine brb (fun g => ?_) (fun g => ?_)
          · refine nx _ _ _ M4 ?_ hk4 b2
            rw [rs, if_neg]
            · exact hc
            · rw [Bool.eq_false_iff.mpr g]
              simp
          · have g' := g
            unfold opn at g'
            rw [Bool.and_eq_true, Bool.and_eq_true, Bool.and_eq_true] at g'
            have e3 := a2.2.2 a b ha10 hb10 (by omega) g'.1.1.1 g'.1.1.2
            have e4 := b2.2.2 a b ha10 hb10 (by omega) g'.1.1.1 g'.1.1.2
            rw [hu a b ha10] at e3 e4
            have hul' := hul a b ha10
            have ep : (if M3 8 0 3 (10 * a + b) < nI w - M4 8 0 3 (10 * a + b) then nI w - M4 8 0 3 (10 * a + b) else M3 8 0 3 (10 * a + b)) = nI (ptn u w a b) := by
              rw [e3, e4, pk_sub hul', maxN (by omega) (by omega)]
              rfl
            have hpl : ptn u w a b ≤ w := by
              unfold ptn
              omega
            rw [ep]
            rcases hc with ⟨c1, c2, c3⟩ | ⟨cc, c1, c2, c3, c4, c5⟩
            · subst c2 c3
              refine brf (nI_ge (by omega) (by omega)) ?_
              refine nx _ _ _ M4 ?_ hk4 b2
              rw [rs, if_pos (by rw [g, decide_eq_true hab, decide_eq_true c1]; rfl)]
              exact Or.inr ⟨10 * a + b, rfl, by omega, e10, rfl, hpl⟩
            · subst c3 c4
              refine br_ (fun g2 => ?_) (fun g2 => ?_)
              · rw [nI_leI (by omega) (by omega)] at g2
                refine nx _ _ _ M4 ?_ hk4 b2
                rw [rs, if_neg]
                · exact Or.inr ⟨cc, c1, c2, rfl, rfl, c5⟩
                · rw [g, decide_eq_false (show ¬ st.1 = 0 by omega), decide_eq_false (show ¬ ptn u w a b < st.2 by omega)]
                  simp
              · rw [nI_leI (by omega) (by omega)] at g2
                refine nx _ _ _ M4 ?_ hk4 b2
                rw [rs, if_pos (by rw [g, decide_eq_true hab, decide_eq_true (show ptn u w a b < st.2 by omega)]; simp)]
                exact Or.inr ⟨10 * a + b, rfl, by omega, e10, rfl, hpl⟩
      refine hgo [27] _ _ _ _ ?_
      refine brf (nI_ge (b := 10) ha10 (by omega)) ?_
      refine inner _ (a + 1) _ _ _ _ M2 rfl (by omega) (by omega) (nI_1 a) ?_ hk hd
      rw [rowS_low _ (Nat.le_refl _)]
      exact hc
  refine hgo [14] _ _ _ _ ?_
  refine clp (c_Orders_all h M c ho) ?_
  rintro r M2 ⟨rfl, a1, a2⟩
  rw [hw]
  exact outer _ 0 _ _ _ _ _ M2 rfl (by omega) rfl (Or.inl ⟨rfl, rfl, nI_1 w⟩) a1 a2
theorem c_Main_next_state (h : Nat → Int32) (M : am_M) (c : CF h M) (hb : ¬ (0 < nW h ∧ NoRing h)) : Con 7 mMain_next [aR 0 0 0] M (some (aI (-1000002))) M := by
  refine con_of okMain_next [some (aR 0 0 0), none] (some .int) ?_
  intro J hgo
  have no : J 20 [some (aR 0 0 0), none] [] M := by
    refine hgo [] _ _ _ _ ?_
    exact ⟨rfl, rfl⟩
  refine hgo [20] _ _ _ _ ?_
  refine cl_ (c_stands h M c) ?_
  refine brb (fun _ => no) (fun g => ?_)
  refine cl_ (c_hasRing h M c 1 (Or.inr ⟨fun q => hb ⟨g, q⟩, rfl⟩)) ?_
  exact brf (by decide) no
theorem c_Main_next_ok (h : Nat → Int32) (u : Nat → Nat → Nat) (w : Nat) (M : am_M) (c : CF h M) (ho : OC (M 8 0) h) (hs : 0 < nW h) (hn : NoRing h) (hw : Wy h (Ah h) (sN h) = w) (hu : ∀ a b, a < 10 → Wy h (mu2 h a b) (sN h) = u a b) (hw2 : w < 2 ^ 22) (hul : ∀ a b, a < 10 → u a b ≤ w) : ConP 7 mMain_next [aR 0 0 0] M (fun r M2 => r = some (aI (nxV (colS (opn h) (ptn u w) 10))) ∧ (∀ k, k ≠ 8 → M2 k = M k) ∧ OCd (M2 8 0) h) := by
  refine con_of okMain_next [some (aR 0 0 0), none] (some .int) ?_
  intro J hgo
  refine hgo [] _ _ _ _ ?_
  refine cl_ (c_stands h M c) ?_
  refine brbt hs ?_
  refine cl_ (c_hasRing h M c 0 (Or.inl ⟨hn, rfl⟩)) ?_
  refine brt rfl ?_
  refine hgo [] _ _ _ _ ?_
  refine clp (c_mostEven h u w M c ho hw hu hw2 hul) ?_
  rintro r M2 ⟨⟨best, bp, rfl, hc⟩, a1, a2⟩
  rcases hc with ⟨c1, c2, c3⟩ | ⟨cc, c1, c2, c3, c4, c5⟩
  · subst c2
    refine brf (by decide) ?_
    refine hgo [] _ _ _ _ ?_
    refine ⟨?_, a1, a2⟩
    unfold nxV
    rw [c1]
  · subst c3
    refine brt (nI_pos' (by omega)) ?_
    refine hgo [] _ _ _ _ ?_
    refine ⟨?_, a1, a2⟩
    unfold nxV
    rw [c1]
theorem c_Ref_next_state (h : Nat → Int32) (M : am_M) (c : CR h M) (ht : M 11 0 0 7 = b2i (0 < nW h)) (hb : ¬ (0 < nW h ∧ NoRing h)) : Con 4 mRef_next [aR 11 0 0] M (some (aI (-1000002))) (rT M) := by
  refine con_of okRef_next [some (aR 11 0 0), none, none, none, none, none, none, none, none] (some .int) ?_
  intro J hgo
  have no : J 19 [some (aR 11 0 0), none, none, none, none, none, none, none, none] [] (rT M) := by
    refine hgo [] _ _ _ _ ?_
    exact ⟨rfl, rfl⟩
  have e7 : (rT M) 11 0 0 7 = b2i (0 < nW h) := ht
  refine hgo [19] _ _ _ _ ?_
  by_cases g : 0 < nW h
  · refine brf (show ¬ (rT M) 11 0 0 7 = 0 by rw [e7, b2i_t g]; decide) ?_
    refine cl_ (c_inRings h _ (CR_T c)) ?_
    exact brf (fun q => hb ⟨g, ring_iff.mp q⟩) no
  · exact brt (show (rT M) 11 0 0 7 = 0 by rw [e7, b2i_f g]) no
theorem c_Ref_next_ok (h : Nat → Int32) (u : Nat → Nat → Nat) (w : Nat) (M : am_M) (c : CR h M) (ht : M 11 0 0 7 = 1) (hn : NoRing h) (hw : Wy h (Ah h) (sN h) = w) (hu : ∀ a b, a < 10 → Wy h (mu2 h a b) (sN h) = u a b) (hw2 : w < 2 ^ 22) (hul : ∀ a b, a < 10 → u a b ≤ w) : ConP 4 mRef_next [aR 11 0 0] M (fun r M2 => r = some (aI (nxV (colS (opn h) (ptn u w) 10))) ∧ KW M2 (rT M)) := by
  refine con_of okRef_next [some (aR 11 0 0), none, none, none, none, none, none, none, none] (some .int) ?_
  intro J hgo
  have outer : ∀ t a av best ls (z5 z6 z7 z8 : Option am_V) M2, t = 10 - a → a ≤ 10 → av = nI a → rsR w (colS (opn h) (ptn u w) a) best ls → KW M2 (rT M) → J 37 [some (aR 11 0 0), some (aI (nI w)), some (aI best), some (aI ls), some (aI av), z5, z6, z7, z8] [] M2 := by
    intro t
    induction t with
    | zero =>
      intro a av best ls z5 z6 z7 z8 M2 ht ha hv hc hK
      obtain rfl : a = 10 := by omega
      subst hv
      refine hgo [] _ _ _ _ ?_
      refine brt (by decide) ?_
      refine hgo [] _ _ _ _ ?_
      refine ⟨?_, hK⟩
      unfold nxV
      rcases hc with ⟨c1, c2⟩ | ⟨cc, c1, c2, c3, c4, c5⟩
      · rw [c1, c2]
      · rw [c1, c3]
    | succ t ih =>
      intro a av best ls z5 z6 z7 z8 M2 ht ha hv hc hK
      subst hv
      have ha10 : a < 10 := by omega
      have hac : (nI a).toNatClampNeg = a := cl_nI (by omega)
      have inner : ∀ t b bv best ls (z6 z7 z8 : Option am_V) M2, t = 10 - b → a < b → b ≤ 10 → bv = nI b → rsR w (rowS (opn h) (ptn u w) a (colS (opn h) (ptn u w) a) b) best ls → KW M2 (rT M) → J 50 [some (aR 11 0 0), some (aI (nI w)), some (aI best), some (aI ls), some (aI (nI a)), some (aI bv), z6, z7, z8] [] M2 := by
        intro t
        induction t with
        | zero =>
          intro b bv best ls z6 z7 z8 M2 ht hab hb hv hc hK
          obtain rfl : b = 10 := by omega
          subst hv
          refine hgo [] _ _ _ _ ?_
          refine brt (by decide) ?_
          refine hgo [] _ _ _ _ ?_
          exact ih (a + 1) _ _ _ _ _ _ _ M2 (by omega) (by omega) (nI_1 a) hc hK
        | succ t ih2 =>
          intro b bv best ls z6 z7 z8 M2 ht hab hb hv hc hK
          subst hv
          have hb10 : b < 10 := by omega
          have hbc : (nI b).toNatClampNeg = b := cl_nI (by omega)
          have c2 := CR_KW (CR_T c) hK
          obtain ⟨hvv, h4, f1, f3, f4, f5⟩ := id c2
          have e10 : (10 : Int32) * nI a + nI b = nI (10 * a + b) := by rw [show (10 : Int32) = nI 10 from rfl, pk_mul, nI_add]
          have rs : rowS (opn h) (ptn u w) a (colS (opn h) (ptn u w) a) (b + 1) = if ((decide (a < b) && opn h a b) && (decide ((rowS (opn h) (ptn u w) a (colS (opn h) (ptn u w) a) b).1 = 0) || decide (ptn u w a b < (rowS (opn h) (ptn u w) a (colS (opn h) (ptn u w) a) b).2))) = true then (10 * a + b + 1, ptn u w a b) else rowS (opn h) (ptn u w) a (colS (opn h) (ptn u w) a) b := rfl
          generalize hst : rowS (opn h) (ptn u w) a (colS (opn h) (ptn u w) a) b = st at hc rs
          have nx : ∀ (best ls : Int32) (z6 z7 z8 : Option am_V) M2, rsR w (rowS (opn h) (ptn u w) a (colS (opn h) (ptn u w) a) (b + 1)) best ls → KW M2 (rT M) → J 190 [some (aR 11 0 0), some (aI (nI w)), some (aI best), some (aI ls), some (aI (nI a)), some (aI (nI b)), z6, z7, z8] [] M2 := by
            intro best ls z6 z7 z8 M2 hc hK
            refine hgo [] _ _ _ _ ?_
            exact ih2 (b + 1) _ _ _ _ _ _ M2 (by omega) (by omega) (by omega) (nI_1 b) hc hK
          have no : ¬ opn h a b = true → J 190 [some (aR 11 0 0), some (aI (nI w)), some (aI best), some (aI ls), some (aI (nI a)), some (aI (nI b)), z6, z7, z8] [] M2 := by
            intro g
            refine nx _ _ _ _ _ M2 ?_ hK
            rw [rs, if_neg]
            · exact hc
            · rw [Bool.eq_false_iff.mpr g]
              simp
          refine hgo [190] _ _ _ _ ?_
          refine brf (nI_ge (b := 10) hb10 (by omega)) ?_
          refine cle (c_Ref_isIn (Seen h) a M2 ha10) (by show [aI (M2 11 0 0 18), aI (nI a)] = _; rw [f1]) rfl ?_
          refine brb (fun g => no (fun q => ?_)) (fun g1 => ?_)
          · unfold opn at q
            rw [Bool.eq_false_iff.mpr g] at q
            simp at q
          refine cle (c_Ref_isIn (Seen h) b M2 hb10) (by show [aI (M2 11 0 0 18), aI (nI b)] = _; rw [f1]) rfl ?_
          refine brb (fun g => no (fun q => ?_)) (fun g2 => ?_)
          · unfold opn at q
            rw [Bool.eq_false_iff.mpr g] at q
            simp at q
          refine ob_ (vp_in_nI (by omega) (by omega)) ?_
          refine cle (c_Ref_isIn (Su h a) b M2 hb10) (by rw [hac, f5 a ha10]) rfl ?_
          refine brb (fun g3 => ?_) (fun g => no (fun q => ?_))
          · refine ob_ (vp_in_nI (by omega) (by omega)) ?_
            refine cle (c_Ref_isIn (Su h b) a M2 ha10) (by rw [hbc, f5 b hb10]) rfl ?_
            refine brb (fun g4 => ?_) (fun g => no (fun q => ?_))
            · have g : opn h a b = true := by
                unfold opn
                rw [g1, g2, Bool.eq_false_iff.mpr g3, Bool.eq_false_iff.mpr g4]
                rfl
              have hul' := hul a b ha10
              have hpl : ptn u w a b ≤ w := by
                unfold ptn
                omega
              have eW := hu a b ha10
              refine clp (c_ordersWith h (mu2 h a b) (nI a) (nI b) M2 c2 (Or.inr ⟨a, b, ha10, hb10, rfl, rfl, rfl⟩)) ?_
              rintro r M3 ⟨rfl, k3⟩
              rw [eW]
              have hK3 := hK.tr k3
              have es : nI w - nI (u a b) = nI (w - u a b) := pk_sub hul'
              have s158 : ∀ (P : Prop) [Decidable P], (P ↔ (st.1 = 0 ∨ ptn u w a b < st.2)) → J 158 [some (aR 11 0 0), some (aI (nI w)), some (aI best), some (aI ls), some (aI (nI a)), some (aI (nI b)), some (aI (nI (u a b))), some (aI (nI (ptn u w a b))), z8] [aI (b2i P)] M3 := by
                intro P _ hP
                refine hgo [178] _ _ _ _ ?_
                refine brb (fun g5 => ?_) (fun g5 => ?_)
                · have hno : rsR w (rowS (opn h) (ptn u w) a (colS (opn h) (ptn u w) a) (b + 1)) best ls := by
                    rw [rs, if_neg]
                    · exact hc
                    · rw [decide_eq_false (show ¬ st.1 = 0 from fun q => g5 (hP.mpr (Or.inl q))), decide_eq_false (show ¬ ptn u w a b < st.2 from fun q => g5 (hP.mpr (Or.inr q)))]
                      simp
                  refine hgo [178] _ _ _ _ ?_
                  refine hgo [190] _ _ _ _ ?_
                  refine brbf g5 ?_
                  refine hgo [190] _ _ _ _ ?_
                  exact nx _ _ _ _ _ M3 hno hK3
                · have hyes : rsR w (rowS (opn h) (ptn u w) a (colS (opn h) (ptn u w) a) (b + 1)) (10 * nI a + nI b) (nI (ptn u w a b)) := by
                    rw [rs, if_pos]
                    · exact Or.inr ⟨10 * a + b, rfl, by omega, e10, rfl, hpl⟩
                    · rw [g, decide_eq_true hab]
                      rcases hP.mp g5 with q | q
                      · rw [decide_eq_true q]
                        rfl
                      · rw [decide_eq_true q]
                        simp
                  refine hgo [178] _ _ _ _ ?_
                  refine hgo [190] _ _ _ _ ?_
                  refine brbt g5 ?_
                  refine hgo [190] _ _ _ _ ?_
                  exact nx _ _ _ _ _ M3 hyes hK3
              have s139 : ∀ v : Int32, v = nI (ptn u w a b) → J 139 [some (aR 11 0 0), some (aI (nI w)), some (aI best), some (aI ls), some (aI (nI a)), some (aI (nI b)), some (aI (nI (u a b))), z7, z8] [aI v] M3 := by
                intro v hv3
                subst hv3
                have s153 : (st.1 = 0 ∨ ptn u w a b < st.2) → J 153 [some (aR 11 0 0), some (aI (nI w)), some (aI best), some (aI ls), some (aI (nI a)), some (aI (nI b)), some (aI (nI (u a b))), some (aI (nI (ptn u w a b))), z8] [] M3 := by
                  intro q
                  refine hgo [] _ _ _ _ ?_
                  have := s158 (st.1 = 0 ∨ ptn u w a b < st.2) Iff.rfl
                  rw [b2i_t q] at this
                  exact this
                refine hgo [153] _ _ _ _ ?_
                rcases hc with ⟨c1, c2⟩ | ⟨cc, c1, c2, c3, c4, c5⟩
                · exact brt c2 (s153 (Or.inl c1))
                · refine brf (by
                    rw [c3]
                    intro q
                    have := congrArg Int32.toInt q
                    rw [i3_n (by omega)] at this
                    have e : Int32.toInt (-1000000) = -1000000 := by decide
                    rw [e] at this
                    omega) ?_
                  rw [c4]
                  refine br_ (fun g5 => ?_) (fun g5 => ?_)
                  · rw [nI_leI (by omega) (by omega)] at g5
                    refine hgo [158] _ _ _ _ ?_
                    have := s158 (st.1 = 0 ∨ ptn u w a b < st.2) Iff.rfl
                    rw [b2i_f (by omega), c4] at this
                    exact this
                  · rw [nI_leI (by omega) (by omega)] at g5
                    rw [c4] at s153
                    exact s153 (Or.inr (by omega))
              refine br_ (fun g5 => ?_) (fun g5 => ?_)
              · have g5 : nI (u a b) ≤ nI w - nI (u a b) := g5
                rw [es, nI_leI (by omega) (by omega)] at g5
                refine hgo [139] _ _ _ _ ?_
                refine s139 _ ?_
                rw [es]
                congr 1
                unfold ptn
                omega
              · have g5 : ¬ nI (u a b) ≤ nI w - nI (u a b) := g5
                rw [es, nI_leI (by omega) (by omega)] at g5
                refine s139 _ ?_
                congr 1
                unfold ptn
                omega
            · unfold opn at q
              rw [g] at q
              simp at q
          · unfold opn at q
            rw [g] at q
            simp at q
      refine hgo [50] _ _ _ _ ?_
      refine brf (nI_ge (b := 10) ha10 (by omega)) ?_
      refine inner _ (a + 1) _ _ _ _ _ _ M2 rfl (by omega) (by omega) (nI_1 a) ?_ hK
      rw [rowS_low _ (Nat.le_refl _)]
      exact hc
  have e7 : (rT M) 11 0 0 7 = 1 := ht
  refine hgo [] _ _ _ _ ?_
  refine brf (show ¬ (rT M) 11 0 0 7 = 0 by rw [e7]; decide) ?_
  refine cl_ (c_inRings h _ (CR_T c)) ?_
  refine brt (ring_iff.mpr hn) ?_
  refine hgo [37] _ _ _ _ ?_
  refine clp (c_ordersWith h (Ah h) (-1) (-1) (rT M) (CR_T c) (Or.inl ⟨rfl, rfl, rfl⟩)) ?_
  rintro r M2 ⟨rfl, k1⟩
  rw [hw]
  exact outer _ 0 _ _ _ _ _ _ _ M2 rfl (by omega) rfl (Or.inl ⟨rfl, rfl⟩) k1
theorem op_next (M : am_M) (hR : Rel M) : OpAt mMain_next mRef_next [] M := by
  obtain ⟨c1, c2⟩ := Rel_CF hR
  have ho := hR.2.2.2.2.1.2.2
  have h7 := hR.2.2.2.1.2.2.1
  by_cases hb : 0 < nW (M 11 0 4) ∧ NoRing (M 11 0 4)
  · obtain ⟨b1, b2⟩ := hb
    have hw2 := W_bd (h := M 11 0 4) (mu := Ah (M 11 0 4)) (sN_lt (M 11 0 4))
    have hul : ∀ a b, a < 10 → Wy (M 11 0 4) (mu2 (M 11 0 4) a b) (sN (M 11 0 4)) ≤ Wy (M 11 0 4) (Ah (M 11 0 4)) (sN (M 11 0 4)) := fun a b ha => U_le ha _
    have hu : ∃ u : Nat → Nat → Nat, ∀ a b, Wy (M 11 0 4) (mu2 (M 11 0 4) a b) (sN (M 11 0 4)) = u a b := ⟨_, fun _ _ => rfl⟩
    obtain ⟨u, hu⟩ := hu
    generalize hw : Wy (M 11 0 4) (Ah (M 11 0 4)) (sN (M 11 0 4)) = w at hw2 hul
    have hul2 : ∀ a b, a < 10 → u a b ≤ w := fun a b ha => by rw [← hu a b]; exact hul a b ha
    rw [b2i_t b1] at h7
    exact op_ord hR (c_Main_next_ok _ u w M c1 ho b1 b2 hw (fun a b _ => hu a b) (by omega) hul2) (fun M1 cr e7 => c_Ref_next_ok _ u w M1 cr (by rw [e7]; exact h7) b2 hw (fun a b _ => hu a b) (by omega) hul2)
  · exact op_mk (c_Main_next_state _ M c1 hb) (c_Ref_next_state _ M c2 h7 hb) (Rel_bad hR)
