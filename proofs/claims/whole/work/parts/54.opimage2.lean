theorem RH_cong {C P : Nat → Nat → Int32} {h g : Nat → Int32} (e : ∀ i, i < 198 → g i = h i) (hv : HV h) (r : RH C P h) : RH C P g := ⟨RHw_cong e hv r.1, RHp_cong e hv r.2.1, RHt_cong e hv r.2.2.1, RHs_cong e hv r.2.2.2⟩
theorem Rimg_cong {C P : Nat → Nat → Int32} {h g : Nat → Int32} {x : Int32} (e : ∀ i, i < 198 → g i = h i) (r : Rimg C P h x) : Rimg C P g x := by
  rcases r with r | ⟨r1, r2, r3, r4⟩
  · exact Or.inl r
  · exact Or.inr ⟨r1, HV_cong e r2, RH_cong e r2 r3, by rw [nW_cong e]; exact r4⟩
theorem op_image_0 (M : am_M) (hR : Rel M) (t1 : 0 < nW (M 11 0 4)) (t2 : M 11 0 0 7 = 1) : OpAt mMain_image mRef_image [aI (nI 0)] M := by
  obtain ⟨w1, w2, w3⟩ := Rel_nw hR
  obtain ⟨-, -, -, ⟨hv, hr, -, -⟩, -, hI, -⟩ := id hR
  refine op_mkP (v := 1) (d2 := 5) (c_Main_image_0 _ (M 11 0 4) M w1 t1 w3 hv hr) (fun r M1 hp => ?_)
  obtain ⟨e, Ma, a1, a2, a3, a4, b1, b2⟩ := hp
  have hk : ∀ k, k ≠ 4 → k ≠ 5 → M1 k = M k := fun k h4 h5 => (b1.1 k h5).trans (a1.1 k h4)
  have h11 := hk 11 (by decide) (by decide)
  refine ⟨e, _, c_Ref_image_ok 0 (by decide) M1 (by rw [h11]; exact t2), fun r2 M2 hp2 => ?_⟩
  obtain ⟨rfl, rfl⟩ := hp2
  refine ⟨rfl, Rel_img hR ?_ ?_ ?_ ?_ ?_ ?_ ?_ ?_ ?_ ?_ ?_⟩
  · show M1 1 0 = _
    rw [hk 1 (by decide) (by decide)]
  · show M1 2 0 = _
    rw [hk 2 (by decide) (by decide)]
  · show M1 4 0 = _
    rw [b1.1 4 (by decide), a1.2 0 (by decide)]
  · show M1 5 0 = _
    rw [b1.2 0 (by decide), a1.1 5 (by decide)]
  · show M1 7 0 = _
    rw [hk 7 (by decide) (by decide)]
  · show M1 8 0 = _
    rw [hk 8 (by decide) (by decide)]
  · show M1 10 0 = _
    rw [hk 10 (by decide) (by decide)]
  · intro o h0 h13 h14
    rw [sA_o h13, sA_o h14]
    unfold rT
    rw [sA_o h0, h11]
  · intro i hi
    show upd (M1 11 0 0) 0 0 i = _
    rw [upd_n hi, h11]
  · show M1 0 0 0 = _
    rw [hk 0 (by decide) (by decide)]
  · have e4 : ∀ i, i < 198 → (fun i => imF (M1 11 0 14) (M1 11 0 4) 0 198 i) i = M 11 0 4 i := by
      intro i hi
      show imF (M1 11 0 14) (M1 11 0 4) 0 198 i = _
      unfold imF
      rw [if_pos (by omega), h11]
      rfl
    refine ⟨?_, ?_, fun _ => ?_⟩
    · show Rimg (M1 4 2) (M1 5 1) (fun i => imF (M1 11 0 14) (M1 11 0 4) 0 198 i) (upd (M1 11 0 13) 0 1 0)
      refine Or.inr ⟨rfl, HV_cong e4 hv, RH_cong e4 hv ?_, by rw [nW_cong e4]; exact t1⟩
      rw [b1.1 4 (by decide)]
      exact ⟨a2, a3, a4, b2⟩
    · show Rimg (M1 4 3) (M1 5 2) (fun i => imF (M1 11 0 14) (M1 11 0 4) 0 198 (198 + i)) (upd (M1 11 0 13) 0 1 1)
      rw [b1.1 4 (by decide), a1.2 3 (by decide), b1.2 2 (by decide), a1.1 5 (by decide), h11]
      refine Rimg_cong (fun i hi => ?_) hI.2.1
      show imF (M 11 0 14) (M 11 0 4) 0 198 (198 + i) = _
      unfold imF
      rw [if_neg (by omega)]
    · show upd (M1 11 0 0) 0 0 7 = 1
      rw [upd_n (by decide), h11]
      exact t2
theorem op_image_1 (M : am_M) (hR : Rel M) (t1 : 0 < nW (M 11 0 4)) (t2 : M 11 0 0 7 = 1) : OpAt mMain_image mRef_image [aI (nI 1)] M := by
  obtain ⟨w1, w2, w3⟩ := Rel_nw hR
  obtain ⟨-, -, -, ⟨hv, hr, -, -⟩, -, hI, -⟩ := id hR
  refine op_mkP (v := 1) (d2 := 5) (c_Main_image_1 _ (M 11 0 4) M w1 t1 w3 hv hr) (fun r M1 hp => ?_)
  obtain ⟨e, Ma, a1, a2, a3, a4, b1, b2⟩ := hp
  have hk : ∀ k, k ≠ 4 → k ≠ 5 → M1 k = M k := fun k h4 h5 => (b1.1 k h5).trans (a1.1 k h4)
  have h11 := hk 11 (by decide) (by decide)
  refine ⟨e, _, c_Ref_image_ok 1 (by decide) M1 (by rw [h11]; exact t2), fun r2 M2 hp2 => ?_⟩
  obtain ⟨rfl, rfl⟩ := hp2
  refine ⟨rfl, Rel_img hR ?_ ?_ ?_ ?_ ?_ ?_ ?_ ?_ ?_ ?_ ?_⟩
  · show M1 1 0 = _
    rw [hk 1 (by decide) (by decide)]
  · show M1 2 0 = _
    rw [hk 2 (by decide) (by decide)]
  · show M1 4 0 = _
    rw [b1.1 4 (by decide), a1.2 0 (by decide)]
  · show M1 5 0 = _
    rw [b1.2 0 (by decide), a1.1 5 (by decide)]
  · show M1 7 0 = _
    rw [hk 7 (by decide) (by decide)]
  · show M1 8 0 = _
    rw [hk 8 (by decide) (by decide)]
  · show M1 10 0 = _
    rw [hk 10 (by decide) (by decide)]
  · intro o h0 h13 h14
    rw [sA_o h13, sA_o h14]
    unfold rT
    rw [sA_o h0, h11]
  · intro i hi
    show upd (M1 11 0 0) 0 0 i = _
    rw [upd_n hi, h11]
  · show M1 0 0 0 = _
    rw [hk 0 (by decide) (by decide)]
  · have e4 : ∀ i, i < 198 → (fun i => imF (M1 11 0 14) (M1 11 0 4) 1 198 (198 + i)) i = M 11 0 4 i := by
      intro i hi
      show imF (M1 11 0 14) (M1 11 0 4) 1 198 (198 + i) = _
      unfold imF
      rw [if_pos (by omega), h11, show 198 + i - 198 * 1 = i by omega]
    refine ⟨?_, ?_, fun _ => ?_⟩
    · show Rimg (M1 4 2) (M1 5 1) (fun i => imF (M1 11 0 14) (M1 11 0 4) 1 198 i) (upd (M1 11 0 13) 1 1 0)
      rw [b1.1 4 (by decide), a1.2 2 (by decide), b1.2 1 (by decide), a1.1 5 (by decide), h11]
      refine Rimg_cong (fun i hi => ?_) hI.1
      show imF (M 11 0 14) (M 11 0 4) 1 198 i = _
      unfold imF
      rw [if_neg (by omega)]
    · show Rimg (M1 4 3) (M1 5 2) (fun i => imF (M1 11 0 14) (M1 11 0 4) 1 198 (198 + i)) (upd (M1 11 0 13) 1 1 1)
      refine Or.inr ⟨rfl, HV_cong e4 hv, RH_cong e4 hv ?_, by rw [nW_cong e4]; exact t1⟩
      rw [b1.1 4 (by decide)]
      exact ⟨a2, a3, a4, b2⟩
    · show upd (M1 11 0 0) 0 0 7 = 1
      rw [upd_n (by decide), h11]
      exact t2
theorem op_image (x : Int32) (M : am_M) (hR : Rel M) : OpAt mMain_image mRef_image [aI x] M := by
  by_cases hx : x = 0 ∨ x = 1
  · rcases Rel_there hR with ⟨t1, t2⟩ | ⟨t1, t2⟩
    · have w1 := (Rel_nw hR).1
      rw [t1] at w1
      exact op_mk (c_Main_image_state x M hx w1) (c_Ref_image_state x M hx t2) (Rel_bad hR)
    · rcases hx with rfl | rfl
      · exact op_image_0 M hR t1 t2
      · exact op_image_1 M hR t1 t2
  · exact op_mk (c_Main_image_bad x M hx) (c_Ref_image_bad x M hx) (Rel_bad hR)
