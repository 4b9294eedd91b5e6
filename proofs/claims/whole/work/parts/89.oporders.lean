/-! the reference's orders -/
theorem an_sh {s p : Nat} (hs : s < 1024) (hp : p < 10) (h : s.testBit p = true) : nI s &&& ((1 : Int32) <<< (nI p &&& 31) ^^^ -1) = nI (s - 2 ^ p) := by
  obtain ⟨g1, g2⟩ := bit_sub s hs p hp h
  have h2 : s - 2 ^ p < 1024 := Nat.lt_of_le_of_lt (Nat.sub_le _ _) hs
  rw [bs_one hp, nI_bs hs, nI_bs h2, bs_andn]
  apply bs_cong
  intro i hi
  have h4 := bit_add (i := i) h2 hp g2
  rw [Nat.sub_add_cancel g1] at h4
  rw [h4]
  by_cases e : i = p
  · subst e
    rw [g2]
    simp
  · simp [e]
def KW (M2 M : am_M) : Prop := (∀ k, k ≠ 11 → M2 k = M k) ∧ ∀ o, o ≠ 10 → M2 11 0 o = M 11 0 o
theorem KW.s {M2 M : am_M} {f : Nat → Int32} (h : KW M2 M) : KW (sA M2 11 0 10 f) M := ⟨fun k hk => (sA_k hk).trans (h.1 k hk), fun o h1 => (sA_o h1).trans (h.2 o h1)⟩
theorem KW.tr {M M1 M2 : am_M} (h1 : KW M1 M) (h2 : KW M2 M1) : KW M2 M := ⟨fun k hk => (h2.1 k hk).trans (h1.1 k hk), fun o ho => (h2.2 o ho).trans (h1.2 o ho)⟩
theorem CR_KW {h : Nat → Int32} {M M2 : am_M} (c : CR h M) (hK : KW M2 M) : CR h M2 := by
  obtain ⟨hv, h4, hf⟩ := c
  refine ⟨hv, (hK.2 4 (by decide)).trans h4, ?_⟩
  rw [hK.2 0 (by decide), hK.2 7 (by decide), hK.2 8 (by decide), hK.2 9 (by decide)]
  exact hf
def muOk (h : Nat → Int32) (mu : Nat → Nat → Bool) (x y : Int32) : Prop := (x = -1 ∧ y = -1 ∧ mu = Ah h) ∨ ∃ a b, a < 10 ∧ b < 10 ∧ x = nI a ∧ y = nI b ∧ mu = mu2 h a b
theorem c_ordersWith (h : Nat → Int32) (mu : Nat → Nat → Bool) (x y : Int32) (M : am_M) (c : CR h M) (hm : muOk h mu x y) : ConP 2 mRef_ordersWith [aR 11 0 0, aI x, aI y] M (fun r M2 => r = some (aI (nI (Wy h mu (sN h)))) ∧ KW M2 M) := by
  obtain ⟨hv, h4, f1, f3, f4, f5⟩ := id c
  have N := sN_lt h
  refine con_of okRef_ordersWith [some (aR 11 0 0), some (aI x), some (aI y), none, none, none, none] (some .int) ?_
  intro J hgo
  have outer : ∀ t s sv (z4 z5 z6 : Option am_V) M2, t = 1024 - s → s ≤ 1024 → sv = nI s → KW M2 M → (∀ u, u < s → M2 11 0 10 u = nI (Wy h mu u)) → J 2 [some (aR 11 0 0), some (aI x), some (aI y), some (aI sv), z4, z5, z6] [] M2 := by
    intro t
    induction t with
    | zero =>
      intro s sv z4 z5 z6 M2 ht hs hv2 hK hw
      obtain rfl : s = 1024 := by omega
      subst hv2
      have e18 : M2 11 0 0 18 = nI (sN h) := by rw [hK.2 0 (by decide)]; exact f1
      refine hgo [] _ _ _ _ ?_
      refine brt (by decide) ?_
      refine hgo [] _ _ _ _ ?_
      refine ob_ (by rw [e18]; exact vp_in_nI (by omega) (by omega)) ⟨?_, hK⟩
      rw [e18, cl_nI (by omega), hw _ N]
    | succ t ih =>
      intro s sv z4 z5 z6 M2 ht hs hv2 hK hw
      subst hv2
      have hlt : s < 1024 := by omega
      have hsc : (nI s).toNatClampNeg = s := cl_nI (by omega)
      have nx : ∀ (z4 z5 z6 : Option am_V) M2, KW M2 M → (∀ u, u < s + 1 → M2 11 0 10 u = nI (Wy h mu u)) → J 145 [some (aR 11 0 0), some (aI x), some (aI y), some (aI (nI s)), z4, z5, z6] [] M2 := by
        intro z4 z5 z6 M2 hK hw
        refine hgo [] _ _ _ _ ?_
        exact ih (s + 1) _ _ _ _ M2 (by omega) (by omega) (nI_1 s) hK hw
      have inner : s ≠ 0 → (∀ i, i < 10 → s.testBit i = true → Seen h i = true) → ∀ t p pv (z5 z6 : Option am_V) M2, t = 10 - p → p ≤ 10 → pv = nI p → KW M2 M → (∀ u, u < s → M2 11 0 10 u = nI (Wy h mu u)) → M2 11 0 10 s = nI (sm (fun p => if okM h mu s p = true then Wy h mu (s - 2 ^ p) else 0) p) → J 27 [some (aR 11 0 0), some (aI x), some (aI y), some (aI (nI s)), some (aI pv), z5, z6] [] M2 := by
        intro s0 sub t
        induction t with
        | zero =>
          intro p pv z5 z6 M2 ht hp hv2 hK hw hws
          obtain rfl : p = 10 := by omega
          subst hv2
          refine hgo [] _ _ _ _ ?_
          refine brt (by decide) ?_
          refine nx _ _ _ M2 hK (fun u hu => ?_)
          by_cases e : u = s
          · rw [e, hws, ← Wy_eq hlt s0]
          · exact hw u (by omega)
        | succ t ih2 =>
          intro p pv z5 z6 M2 ht hp hv2 hK hw hws
          subst hv2
          have hp10 : p < 10 := by omega
          have hpc : (nI p).toNatClampNeg = p := cl_nI (by omega)
          have e8 : M2 11 0 8 (nI p).toNatClampNeg = bs (Ah h p) := by rw [hpc, hK.2 8 (by decide)]; exact f4 p hp10
          have e18 : M2 11 0 0 18 = bs (Seen h) := by rw [hK.2 0 (by decide)]; exact f1
          have s137 : ∀ (v : Int32) (v5 v6 : Int32), nI (sm (fun p => if okM h mu s p = true then Wy h mu (s - 2 ^ p) else 0) p) + v = nI (sm (fun p => if okM h mu s p = true then Wy h mu (s - 2 ^ p) else 0) (p + 1)) → J 137 [some (aR 11 0 0), some (aI x), some (aI y), some (aI (nI s)), some (aI (nI p)), some (aI v5), some (aI v6)] [aI v, aI (M2 11 0 10 s), aI (nI s), aR 11 0 10] M2 := by
            intro v v5 v6 hv3
            refine hgo [] _ _ _ _ ?_
            refine ob_ (vp_in_nI (by omega) (by omega)) ?_
            refine ih2 (p + 1) _ _ _ _ (by omega) (by omega) (nI_1 p) hK.s (fun u hu => ?_) ?_
            · show upd (M2 11 0 10) (nI s).toNatClampNeg (M2 11 0 10 s + v) u = _
              rw [hsc, upd_n (by omega)]
              exact hw u hu
            · show upd (M2 11 0 10) (nI s).toNatClampNeg (M2 11 0 10 s + v) s = _
              rw [hsc, upd_s, hws, hv3]
          have s106 : ∀ (v5 : Int32) (z6 : Option am_V), J 106 [some (aR 11 0 0), some (aI x), some (aI y), some (aI (nI s)), some (aI (nI p)), some (aI v5), z6] [aI (b2i (okM h mu s p = true))] M2 := by
            intro v5 z6
            refine hgo [137] _ _ _ _ ?_
            refine ob_ (vp_in_nI (by omega) (by omega)) ?_
            rw [hsc]
            refine brb (fun g => ?_) (fun g => ?_)
            · refine hgo [137] _ _ _ _ ?_
              refine s137 _ _ _ ?_
              show nI (sm (fun p => if okM h mu s p = true then Wy h mu (s - 2 ^ p) else 0) p) + 0 = nI (sm (fun p => if okM h mu s p = true then Wy h mu (s - 2 ^ p) else 0) p + (if okM h mu s p = true then Wy h mu (s - 2 ^ p) else 0))
              rw [if_neg g, Int32.add_zero, Nat.add_zero]
            · have gb : s.testBit p = true := by
                unfold okM at g
                rw [Bool.and_eq_true] at g
                exact g.1
              obtain ⟨g1, g2⟩ := bit_sub s hlt p hp10 gb
              have hpp := pw_pos p
              have ea := an_sh hlt hp10 gb
              refine ob_ (by rw [ea]; exact vp_in_nI (by omega) (by omega)) ?_
              rw [ea, cl_nI (by omega), hw _ (by omega)]
              refine s137 _ _ _ ?_
              show nI (sm (fun p => if okM h mu s p = true then Wy h mu (s - 2 ^ p) else 0) p) + nI (Wy h mu (s - 2 ^ p)) = nI (sm (fun p => if okM h mu s p = true then Wy h mu (s - 2 ^ p) else 0) p + (if okM h mu s p = true then Wy h mu (s - 2 ^ p) else 0))
              rw [if_pos g, nI_add]
          have s105 : ∀ (v5 : Int32) (z6 : Option am_V), ¬ okM h mu s p = true → J 105 [some (aR 11 0 0), some (aI x), some (aI y), some (aI (nI s)), some (aI (nI p)), some (aI v5), z6] [] M2 := by
            intro v5 z6 g
            refine hgo [106] _ _ _ _ ?_
            have := s106 v5 z6
            rw [b2i_f g] at this
            exact this
          have s73 : ∀ (v : Int32) (z5 z6 : Option am_V), bs (Ah h p) ||| v = bs (mu p) → J 73 [some (aR 11 0 0), some (aI x), some (aI y), some (aI (nI s)), some (aI (nI p)), z5, z6] [aI v, aI (bs (Ah h p))] M2 := by
            intro v z5 z6 hv3
            refine hgo [76] _ _ _ _ ?_
            show J 76 [some (aR 11 0 0), some (aI x), some (aI y), some (aI (nI s)), some (aI (nI p)), some (aI (bs (Ah h p) ||| v)), z6] [] M2
            rw [hv3]
            refine hgo [105, 106] _ _ _ _ ?_
            refine cle (c_Ref_isIn s.testBit p M2 hp10) (by rw [nI_bs hlt]) rfl ?_
            refine brb (fun g => ?_) (fun g => ?_)
            · refine s105 _ _ (fun q => g ?_)
              unfold okM at q
              rw [Bool.and_eq_true] at q
              exact q.1
            · obtain ⟨g1, g2⟩ := bit_sub s hlt p hp10 g
              have h2' : s - 2 ^ p < 1024 := Nat.lt_of_le_of_lt (Nat.sub_le _ _) hlt
              have ea := an_sh hlt hp10 g
              have hiff : (bs (mu p) &&& (nI (s - 2 ^ p) ^^^ -1) = 0) ↔ okM h mu s p = true := by
                rw [nI_bs h2', bs_andn]
                unfold okM foM
                rw [g, sub p hp10 g, g2]
                constructor
                · intro q
                  have : exB (fun q => mu p q && !(s - 2 ^ p).testBit q) 10 = false := by
                    rw [← Bool.not_eq_true]
                    exact fun q2 => (bs_ne.mpr q2) q
                  rw [this]
                  rfl
                · intro q
                  apply Classical.byContradiction
                  intro q2
                  rw [bs_ne.mp q2] at q
                  simp at q
              refine br_ (fun g3 => ?_) (fun g3 => ?_)
              · have g3 : bs (mu p) &&& ((nI s &&& ((1 : Int32) <<< (nI p &&& 31) ^^^ -1)) ^^^ -1) = 0 := g3
                rw [ea] at g3
                have := s106 (bs (mu p)) z6
                rw [b2i_t (hiff.mp g3)] at this
                exact this
              · have g3 : ¬ bs (mu p) &&& ((nI s &&& ((1 : Int32) <<< (nI p &&& 31) ^^^ -1)) ^^^ -1) = 0 := g3
                rw [ea] at g3
                exact s105 _ _ (fun q => g3 (hiff.mpr q))
          have s72 : bs (Ah h p) = bs (mu p) → J 72 [some (aR 11 0 0), some (aI x), some (aI y), some (aI (nI s)), some (aI (nI p)), z5, z6] [aI (bs (Ah h p))] M2 := by
            intro g
            refine hgo [73] _ _ _ _ ?_
            refine s73 _ _ _ ?_
            rw [← g, ← bs_0, bs_or]
            exact bs_cong (fun i hi => by simp)
          refine hgo [72] _ _ _ _ ?_
          refine brf (nI_ge (b := 10) hp10 (by omega)) ?_
          refine brf (nI_nle (by omega) (by omega)) ?_
          refine brt (by
            show nI s &&& (M2 11 0 0 18 ^^^ -1) = 0
            rw [e18, nI_bs hlt, bs_andn, bs_zero]
            intro i hi
            by_cases q : s.testBit i = true
            · rw [sub i hi q]
              simp
            · rw [Bool.eq_false_iff.mpr q]
              rfl) ?_
          refine ob_ (vp_in_nI (by omega) (by omega)) ?_
          rw [e8]
          rcases hm with ⟨rfl, rfl, rfl⟩ | ⟨a, b, ha, hb, rfl, rfl, rfl⟩
          · refine brf (show ¬ nI p = -1 by
              intro q
              have := congrArg Int32.toInt q
              rw [i3_n (by omega), i3_m1] at this
              omega) ?_
            exact s72 rfl
          · by_cases e : p = b
            · subst e
              refine brt rfl ?_
              refine brf (nI_pos (by omega)) ?_
              refine s73 _ _ _ ?_
              rw [bs_one ha, bs_or]
              apply bs_cong
              intro i hi
              unfold mu2
              simp
            · refine brf (fun q => e ((nI_eq (by omega) (by omega)).mp q)) ?_
              refine s72 ?_
              apply bs_cong
              intro i hi
              unfold mu2
              simp [e]
      have s23 : ∀ v : Int32, (s = 0 ∧ v = 1) ∨ (s ≠ 0 ∧ v = 0) → J 23 [some (aR 11 0 0), some (aI x), some (aI y), some (aI (nI s)), z4, z5, z6] [aI v, aI (nI s), aR 11 0 10] M2 := by
        intro v hv3
        have k1 : ∀ u, u < s → upd (M2 11 0 10) (nI s).toNatClampNeg v u = nI (Wy h mu u) := by
          intro u hu
          rw [hsc, upd_n (by omega)]
          exact hw u hu
        have k2 : upd (M2 11 0 10) (nI s).toNatClampNeg v s = v := by rw [hsc, upd_s]
        refine hgo [27] _ _ _ _ ?_
        refine ob_ (vp_in_nI (by omega) (by omega)) ?_
        by_cases hsub : s ≠ 0 ∧ ∀ i, i < 10 → s.testBit i = true → Seen h i = true
        · rcases hv3 with ⟨q, -⟩ | ⟨-, rfl⟩
          · exact absurd q hsub.1
          · refine inner hsub.1 hsub.2 _ 0 _ _ _ _ rfl (by omega) rfl hK.s k1 ?_
            show upd (M2 11 0 10) (nI s).toNatClampNeg 0 s = nI 0
            rw [k2]
            rfl
        · refine hgo [] _ _ _ _ ?_
          refine brf (by decide) ?_
          by_cases e : s = 0
          · subst e
            refine brt (by decide) ?_
            refine nx _ _ _ _ hK.s (fun u hu => ?_)
            obtain rfl : u = 0 := by omega
            show upd (M2 11 0 10) (nI 0).toNatClampNeg v 0 = _
            rw [k2, Wy_0]
            rcases hv3 with ⟨-, rfl⟩ | ⟨q, -⟩
            · rfl
            · exact absurd rfl q
          · refine brf (nI_nle (by omega) (by omega)) ?_
            have hW : Wy h mu s = 0 := by
              apply Classical.byContradiction
              intro q
              exact hsub ⟨e, W_sub _ s (Nat.lt_succ_self _) hlt q⟩
            refine brf (by
              show ¬ nI s &&& (M2 11 0 0 18 ^^^ -1) = 0
              have e18 : M2 11 0 0 18 = bs (Seen h) := by rw [hK.2 0 (by decide)]; exact f1
              rw [e18, nI_bs hlt, bs_andn, bs_zero]
              intro q
              apply hsub
              refine ⟨e, fun i hi hb => ?_⟩
              have := q i hi
              rw [hb] at this
              simpa using this) ?_
            refine nx _ _ _ _ hK.s (fun u hu => ?_)
            show upd (M2 11 0 10) (nI s).toNatClampNeg v u = _
            by_cases e2 : u = s
            · rw [e2, k2, hW]
              rcases hv3 with ⟨q, -⟩ | ⟨-, rfl⟩
              · exact absurd q e
              · rfl
            · exact k1 u (by omega)
      refine hgo [23] _ _ _ _ ?_
      refine brf (nI_ge (b := 1024) hlt (by omega)) ?_
      refine br_ (fun g => ?_) (fun g => ?_)
      · have g : s = 0 := (nI_eq (b := 0) (by omega) (by omega)).mp g
        exact s23 1 (Or.inl ⟨g, rfl⟩)
      · refine hgo [23] _ _ _ _ ?_
        exact s23 0 (Or.inr ⟨fun q => g (by rw [q]; rfl), rfl⟩)
  refine hgo [2] _ _ _ _ ?_
  exact outer _ 0 _ _ _ _ M rfl (by omega) rfl ⟨fun _ _ => rfl, fun _ _ => rfl⟩ (fun u hu => by omega)
/-! orders -/
theorem CF_8 {h : Nat → Int32} {M M2 : am_M} (c : CF h M) (hk : ∀ k, k ≠ 8 → M2 k = M k) : CF h M2 := by
  unfold CF
  rw [hk 4 (by decide), hk 5 (by decide), hk 7 (by decide)]
  exact c
theorem Rel_ord {M M2 : am_M} (h : Rel M) (hk : ∀ k, k ≠ 8 → k ≠ 11 → M2 k = M k) (ho : OC (M2 8 0) (M 11 0 4)) (hr : ∀ o, o ≠ 0 → o ≠ 10 → M2 11 0 o = M 11 0 o) (hs : ∀ i, i ≠ 0 → M2 11 0 0 i = M 11 0 0 i) : Rel M2 := by
  obtain ⟨g1, g2, g3, g4, g5, g6, g7⟩ := h
  unfold Rel RelH RelI RelA
  rw [hk 0 (by decide) (by decide), hk 1 (by decide) (by decide), hk 2 (by decide) (by decide), hk 4 (by decide) (by decide), hk 5 (by decide) (by decide), hk 7 (by decide) (by decide), hk 10 (by decide) (by decide), hr 1 (by decide) (by decide), hr 2 (by decide) (by decide), hr 3 (by decide) (by decide), hr 4 (by decide) (by decide), hr 6 (by decide) (by decide), hr 7 (by decide) (by decide), hr 8 (by decide) (by decide), hr 9 (by decide) (by decide), hr 13 (by decide) (by decide), hr 14 (by decide) (by decide), hr 15 (by decide) (by decide), hs 1 (by decide), hs 7 (by decide), hs 9 (by decide), hs 10 (by decide), hs 18 (by decide), hs 28 (by decide)]
  exact ⟨g1, g2, g3, g4, ⟨g5.1, g5.2.1, ho⟩, g6, g7⟩
/-- a call that counts, on both sides -/
theorem op_ord {nc nr : Nat} {as : List am_V} {M : am_M} {v : Int32} {d1 d2 : Nat} (hR : Rel M) (h1 : ConP d1 nc (aR 0 0 0 :: as) M (fun r M2 => r = some (aI v) ∧ (∀ k, k ≠ 8 → M2 k = M k) ∧ OCd (M2 8 0) (M 11 0 4))) (h2 : ∀ M1, CR (M 11 0 4) M1 → M1 11 0 0 7 = M 11 0 0 7 → ConP d2 nr (aR 11 0 0 :: as) M1 (fun r M2 => r = some (aI v) ∧ KW M2 (rT M1))) (hd1 : d1 < 100 := by decide) (hd2 : d2 < 100 := by decide) : OpAt nc nr as M := by
  refine op_mkP (v := v) (d2 := d2) h1 ?_ hd1 hd2
  rintro r M1 ⟨rfl, a1, a2⟩
  have h11 := a1 11 (by decide)
  refine ⟨rfl, _, h2 M1 ?_ (by rw [h11]), ?_⟩
  · unfold CR
    rw [h11]
    exact (Rel_CF hR).2
  rintro r2 M2 ⟨rfl, b1, b2⟩
  refine ⟨rfl, Rel_ord hR (fun k k8 k11 => (b1 k k11).trans ((sA_k k11).trans (a1 k k8))) ?_ (fun o o0 o10 => (b2 o o10).trans ((sA_o o0).trans (by rw [h11]))) (fun i i0 => ?_)⟩
  · rw [b1 8 (by decide)]
    exact Or.inr a2
  · rw [b2 0 (by decide)]
    show upd (M1 11 0 0) 0 0 i = _
    rw [upd_n i0, h11]
theorem c_Main_orders_state (h : Nat → Int32) (M : am_M) (c : CF h M) (hw : nW h = 0) : Con 6 mMain_orders [aR 0 0 0] M (some (aI (-1000002))) M := by
  refine con_of okMain_orders [some (aR 0 0 0)] (some .int) ?_
  intro J hgo
  refine hgo [] _ _ _ _ ?_
  refine cl_ (c_stands h M c) ?_
  refine brbf (by omega) ?_
  exact ⟨rfl, rfl⟩
theorem c_Main_orders_ok (h : Nat → Int32) (M : am_M) (c : CF h M) (ho : OC (M 8 0) h) (hw : 0 < nW h) : ConP 6 mMain_orders [aR 0 0 0] M (fun r M2 => r = some (aI (nI (Wy h (Ah h) (sN h)))) ∧ (∀ k, k ≠ 8 → M2 k = M k) ∧ OCd (M2 8 0) h) := by
  refine con_of okMain_orders [some (aR 0 0 0)] (some .int) ?_
  intro J hgo
  refine hgo [] _ _ _ _ ?_
  refine cl_ (c_stands h M c) ?_
  refine brbt hw ?_
  refine hgo [] _ _ _ _ ?_
  refine clp (c_Orders_all h M c ho) ?_
  rintro r M2 ⟨rfl, a1, a2⟩
  exact ⟨rfl, a1, a2⟩
theorem c_Ref_orders_state (M : am_M) (h : M 11 0 0 7 = 0) : Con 3 mRef_orders [aR 11 0 0] M (some (aI (-1000002))) (rT M) := by
  refine con_of okRef_orders [some (aR 11 0 0)] (some .int) ?_
  intro J hgo
  refine hgo [] _ _ _ _ ?_
  refine brt h ?_
  refine hgo [] _ _ _ _ ?_
  exact ⟨rfl, rfl⟩
theorem c_Ref_orders_ok (h : Nat → Int32) (M : am_M) (c : CR h M) (ht : M 11 0 0 7 = 1) : ConP 3 mRef_orders [aR 11 0 0] M (fun r M2 => r = some (aI (nI (Wy h (Ah h) (sN h)))) ∧ KW M2 (rT M)) := by
  refine con_of okRef_orders [some (aR 11 0 0)] (some .int) ?_
  intro J hgo
  refine hgo [] _ _ _ _ ?_
  refine brf (show ¬ M 11 0 0 7 = 0 by rw [ht]; decide) ?_
  refine clp (c_ordersWith h (Ah h) (-1) (-1) (rT M) (CR_T c) (Or.inl ⟨rfl, rfl, rfl⟩)) ?_
  rintro r M2 ⟨rfl, hK⟩
  refine hgo [] _ _ _ _ ?_
  exact ⟨rfl, hK⟩
theorem op_orders (M : am_M) (hR : Rel M) : OpAt mMain_orders mRef_orders [] M := by
  obtain ⟨c1, c2⟩ := Rel_CF hR
  have ho := hR.2.2.2.2.1.2.2
  rcases Rel_there hR with ⟨t1, t2⟩ | ⟨t1, t2⟩
  · exact op_mk (c_Main_orders_state _ M c1 t1) (c_Ref_orders_state M t2) (Rel_bad hR)
  · exact op_ord hR (c_Main_orders_ok _ M c1 ho t1) (fun M1 cr e7 => c_Ref_orders_ok _ M1 cr (by rw [e7]; exact t2))
