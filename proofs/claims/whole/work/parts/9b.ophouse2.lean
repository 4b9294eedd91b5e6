/-! house: both sides -/
def PoC (M : am_M) (res : PS × (Nat → Int32)) (h : Nat → Int32) (r : Option am_V) (M2 : am_M) : Prop :=
  (∀ k, k ≠ 0 → k ≠ 2 → k ≠ 3 → k ≠ 4 → k ≠ 5 → k ≠ 7 → k ≠ 8 → M2 k = M k) ∧ M2 2 0 0 1 = 0 ∧ M2 4 2 = M 4 2 ∧ M2 4 3 = M 4 3 ∧ ((¬ sf res.1 = 0 ∧ r = some (aI (-1000100 - nI (sl res.1))) ∧ M2 0 0 0 = upd (M 0 0 0) 11 (nI (sf res.1)) ∧ M2 4 0 = M 4 0 ∧ M2 5 = M 5 ∧ M2 7 = M 7 ∧ M2 8 = M 8) ∨ (sf res.1 = 0 ∧ r = some (aI (res.2 0)) ∧ M2 0 0 0 = M 0 0 0 ∧ RH (M2 4 0) (M2 5 0) (hsF res.2 h) ∧ (∀ i, i ≠ 0 → M2 5 i = M 5 i) ∧ FO (M2 7 0) (hsF res.2 h) ∧ FX (M2 7 0) (hsF res.2 h) ∧ M2 8 0 0 1 = 0))
theorem c_Main_house (n : Nat) (t : Nat → Nat) (k : Nat) (h : Nat → Int32) (M : am_M) (hT : TC n t M) (hk : n < k) : ConP 10 mMain_house [aR 0 0 0] M (PoC M (mainP n t k 0 ((tk n t 0).1, (tk n t 0).2.1, (tk n t 0).2.2, 0, 0) (fun _ => 0)) h) := by
  refine con_of okMain_house [some (aR 0 0 0), none] (some .int) ?_
  intro J hgo
  generalize hres : mainP n t k 0 ((tk n t 0).1, (tk n t 0).2.1, (tk n t 0).2.2, 0, 0) (fun _ => 0) = res at hgo
  have cr := c_read n t M hT k hk
  rw [hres] at cr
  refine hgo [] _ _ _ _ ?_
  refine clp cr ?_
  rintro r M1 ⟨rfl, k1, rr, dr⟩
  refine brb (fun q => ?_) (fun q => ?_)
  · refine ⟨fun k h0 h2 h3 h4 _ _ _ => (sA_k h0).trans ((sA_k h2).trans (k1.1 k h3 h4)), rfl, ?_, ?_, Or.inl ⟨q, ?_, ?_, ?_, ?_, ?_, ?_⟩⟩
    · show M1 4 2 = _
      exact k1.2 2 (by decide)
    · show M1 4 3 = _
      exact k1.2 3 (by decide)
    · show some (aI (-1000100 - M1 3 0 0 7)) = _
      rw [rr.2.2.2.2.1 q]
    · show upd (M1 0 0 0) 11 (M1 3 0 0 6) = _
      rw [rr.2.2.2.1, k1.1 0 (by decide) (by decide)]
    · show M1 4 0 = _
      exact k1.2 0 (by decide)
    · show M1 5 = _
      exact k1.1 5 (by decide) (by decide)
    · show M1 7 = _
      exact k1.1 7 (by decide) (by decide)
    · show M1 8 = _
      exact k1.1 8 (by decide) (by decide)
  · obtain ⟨hD, d1, d2, d3⟩ := dr
    have ee : ∀ i, i < 198 → hsF res.2 h i = res.2 i := fun i hi => by unfold hsF; rw [if_pos hi]
    have hvF := HV_cong ee hD.1
    have nSF : nS (hsF res.2 h) = 0 := by unfold nS hN; rw [ee 3 (by omega)]; exact hD.2
    refine hgo [] _ _ _ _ ?_
    refine clp (c_House_take 0 1 (hsF res.2 h) (sA M1 2 0 0 (upd (M1 2 0 0) 1 0)) (by decide) hvF (RHw_cong ee hD.1 d1) (RHp_cong ee hD.1 d2) (RHt_cong ee hD.1 d3)) ?_
    rintro r M2 ⟨rfl, b1, b2, b3, b4⟩
    have hs5 : RHs ((sA M2 5 0 0 (upd (M2 5 0 0) 0 0)) 5 0) (hsF res.2 h) := by
      refine ⟨?_, fun s hs => absurd hs (by rw [nSF]; omega)⟩
      show (0 : Int32) = hsF res.2 h 3
      rw [hvF.2.2.2.1.1, nSF]
      rfl
    refine clp (c_Main_learnAnew (hsF res.2 h) (sA M2 5 0 0 (upd (M2 5 0 0) 0 0)) hvF ⟨b2, b3, b4, hs5⟩) ?_
    rintro r M3 ⟨rfl, e1, e2, e3, e4⟩
    have h4 : M3 4 = M2 4 := (e1 4 (by decide) (by decide)).trans rfl
    have h5 : M3 5 = (sA M2 5 0 0 (upd (M2 5 0 0) 0 0)) 5 := e1 5 (by decide) (by decide)
    have b15 : M2 5 = M 5 := (b1.1 5 (by decide)).trans (k1.1 5 (by decide) (by decide))
    refine ⟨fun k g0 g2 g3 g4 g5 g7 g8 => (e1 k g7 g8).trans ((sA_k g5).trans ((b1.1 k g4).trans ((sA_k g2).trans (k1.1 k g3 g4)))), ?_, ?_, ?_, Or.inr ⟨q, ?_, ?_, ?_, fun i hi => ?_, e2, e3, e4⟩⟩
    · rw [e1 2 (by decide) (by decide)]
      show M2 2 0 0 1 = 0
      rw [b1.1 2 (by decide)]
      rfl
    · rw [h4, b1.2 2 (by decide)]
      exact k1.2 2 (by decide)
    · rw [h4, b1.2 3 (by decide)]
      exact k1.2 3 (by decide)
    · show some (aI (M3 4 0 0 0)) = some (aI (res.2 0))
      rw [h4, b2.1, ee 0 (by omega)]
    · rw [e1 0 (by decide) (by decide)]
      show M2 0 0 0 = _
      rw [b1.1 0 (by decide)]
      show M1 0 0 0 = _
      rw [k1.1 0 (by decide) (by decide)]
    · rw [h4, h5]
      exact ⟨b2, b3, b4, hs5⟩
    · rw [h5, sA_j hi, b15]
theorem op_house (M : am_M) (hR : Rel M) : OpAt mMain_house mRef_house [] M := by
  obtain ⟨q1, ⟨n, h500, t1, t2, t3⟩, q3, ⟨hv, hr, hth, hfr⟩, q5, q6, q7⟩ := id hR
  have hT : TC n (fun i => (M 11 0 6 i).toNatClampNeg) M := by
    refine ⟨h500, t1, fun i hi => ?_, fun i hi => ?_⟩
    · obtain ⟨e, c, hc, ec⟩ := t3 i hi
      show M 2 0 1 i = nI (M 11 0 6 i).toNatClampNeg
      rw [e, ec, cl_nI (by omega)]
    · obtain ⟨e, c, hc, ec⟩ := t3 i hi
      show (M 11 0 6 i).toNatClampNeg < 256
      rw [ec, cl_nI (by omega)]
      exact hc
  have cm := c_Main_house n _ 501 (M 11 0 4) M hT (by omega)
  have cr := fun (M1 : am_M) (e : M1 11 = M 11) => c_Ref_house n (fun i => (M 11 0 6 i).toNatClampNeg) 501 M1 h500 (by rw [e]; exact t2) (fun i hi => by
    obtain ⟨e2, c, hc, ec⟩ := t3 i hi
    rw [e]
    show M 11 0 6 i = nI (M 11 0 6 i).toNatClampNeg
    rw [ec, cl_nI (by omega)]) hT.2.2.2 (by omega)
  generalize mainP n (fun i => (M 11 0 6 i).toNatClampNeg) 501 0 ((tk n (fun i => (M 11 0 6 i).toNatClampNeg) 0).1, (tk n (fun i => (M 11 0 6 i).toNatClampNeg) 0).2.1, (tk n (fun i => (M 11 0 6 i).toNatClampNeg) 0).2.2, 0, 0) (fun _ => 0) = res at cm cr
  refine op_mkP (v := if sf res.1 = 0 then res.2 0 else -1000100 - nI (sl res.1)) (d2 := 6) cm ?_
  rintro r M1 ⟨a1, a2, a3, a4, ac⟩
  have h11 := a1 11 (by decide) (by decide) (by decide) (by decide) (by decide) (by decide) (by decide)
  refine ⟨?_, _, cr M1 h11, ?_⟩
  · rcases ac with ⟨z, e, -⟩ | ⟨z, e, -⟩
    · rw [if_neg z]; exact e
    · rw [if_pos z]; exact e
  rintro r2 M2 ⟨b1, b2, b3, bc⟩
  rw [h11] at b3
  have hk : ∀ k, k ≠ 0 → k ≠ 2 → k ≠ 3 → k ≠ 4 → k ≠ 5 → k ≠ 7 → k ≠ 8 → k ≠ 11 → M2 k = M k := fun k g0 g2 g3 g4 g5 g7 g8 g11 => (b1 k g11).trans (a1 k g0 g2 g3 g4 g5 g7 g8)
  have tp : Rtape (M2 2 0 0 1) (M2 2 0 1) (M2 11 0 0 9) (M2 11 0 6) := by
    refine ⟨0, by omega, ?_, b2, fun i hi => by omega⟩
    rw [b1 2 (by decide)]
    exact a2
  rcases bc with ⟨z, e, b4, b5, b6⟩ | ⟨z, hD, hw, e, b4, b5, b6, b7, b8⟩
  · rcases ac with ⟨-, -, c1, c2, c3, c4, c5⟩ | ⟨z2, -⟩
    · refine ⟨by rw [if_neg z]; exact e, ?_⟩
      rw [h11] at b5 b6
      unfold Rel RelH RelI RelA
      rw [b1 0 (by decide), c1, hk 1 (by decide) (by decide) (by decide) (by decide) (by decide) (by decide) (by decide) (by decide), b1 4 (by decide), c2, a3, a4, b1 5 (by decide), c3, b1 7 (by decide), c4, b1 8 (by decide), c5, hk 10 (by decide) (by decide) (by decide) (by decide) (by decide) (by decide) (by decide) (by decide), b5 1 (by decide) (by decide), b5 2 (by decide) (by decide), b5 3 (by decide) (by decide), b5 4 (by decide) (by decide), b5 7 (by decide) (by decide), b5 8 (by decide) (by decide), b5 9 (by decide) (by decide), b5 13 (by decide) (by decide), b5 14 (by decide) (by decide), b5 15 (by decide) (by decide), b3 1 (by decide), b3 28 (by decide), b6 7 (by decide), b6 18 (by decide), b4]
      refine ⟨q1, tp, ⟨?_, ?_⟩, ⟨hv, hr, hth, hfr⟩, q5, q6, q7⟩
      · rw [upd_s]
      · rw [upd_n (by decide)]
        exact q3.2
    · exact absurd z2 z
  · rcases ac with ⟨z2, -⟩ | ⟨-, -, c1, c2, c3, c4, c5, c6⟩
    · exact absurd z z2
    · refine ⟨by rw [if_pos z]; exact e, ?_⟩
      rw [h11] at b6 b7 b8
      have ee : ∀ i, i < 198 → hsF res.2 (M 11 0 4) i = res.2 i := fun i hi => by unfold hsF; rw [if_pos hi]
      refine Rel_new hR ?_ tp ?_ ?_ ?_ ?_ (fun _ => b5) (by rw [b6]; exact b8) ?_ ?_ ?_ ?_ ?_ ?_ ?_ ?_ ?_ ?_
      · rw [hk 1 (by decide) (by decide) (by decide) (by decide) (by decide) (by decide) (by decide) (by decide)]
      · unfold RelA
        rw [b1 0 (by decide), c1, b4, b3 1 (by decide), h11]
        exact q3
      · rw [b6]
        exact HV_cong ee hD.1
      · rw [b1 4 (by decide), b1 5 (by decide), b6]
        exact c2
      · rw [b5, b6, b2i_t (by rw [nW_cong ee]; exact hw)]
      · rw [b1 7 (by decide), b6]
        exact c4
      · rw [b1 7 (by decide), b6]
        exact c5
      · rw [b1 8 (by decide)]
        exact c6
      · rw [b1 4 (by decide), a3]
      · rw [b1 4 (by decide), a4]
      · rw [b1 5 (by decide), c3 1 (by decide)]
      · rw [b1 5 (by decide), c3 2 (by decide)]
      · rw [hk 10 (by decide) (by decide) (by decide) (by decide) (by decide) (by decide) (by decide) (by decide)]
      · intro o ho
        exact b7 o (by omega) (by omega) (by omega) (by omega) (by omega) (by omega)
      · rw [b3 28 (by decide)]
