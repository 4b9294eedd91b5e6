theorem op_forget (M : am_M) (hR : Rel M) : OpAt mMain_forget mRef_forget [] M := by
  obtain ⟨n1, n2, n3⟩ := Rel_ns hR
  obtain ⟨q1, q2, q3, ⟨hv, hr, hth, hfr⟩, q5, q6, q7⟩ := id hR
  by_cases h0 : nS (M 11 0 4) = 0
  · rw [h0] at n1 n2
    exact op_mk (c_Main_forget_state M n1) (c_Ref_forget_state M n2) (Rel_bad hR)
  · obtain ⟨n, hn⟩ : ∃ n, nS (M 11 0 4) = n + 1 := ⟨nS (M 11 0 4) - 1, by omega⟩
    refine op_mkP (v := nI n) (d2 := 7) (c_Main_forget_ok (M 11 0 4) n M hv hn hr) ?_
    rintro r M1 ⟨rfl, a1, a2, a3, a4, a5⟩
    have h11 := a1 11 (by decide) (by decide) (by decide)
    refine ⟨rfl, _, c_Ref_forget_ok n M1 (by rw [h11]; exact hv) (by rw [h11]; exact hn), ?_⟩
    rintro r2 M2 ⟨rfl, b1, b2, b3, b4, b5⟩
    rw [h11] at b2 b3 b4 b5
    have hk : ∀ k, k ≠ 5 → k ≠ 7 → k ≠ 8 → k ≠ 11 → M2 k = M k := fun k g5 g7 g8 g11 => (b1 k g11).trans (a1 k g5 g7 g8)
    have h5 : M2 5 = sA M 5 0 0 (upd (M 5 0 0) 0 (nI n)) 5 := (b1 5 (by decide)).trans a2
    refine ⟨rfl, ?_⟩
    unfold Rel RelH RelA RelI
    rw [hk 0 (by decide) (by decide) (by decide) (by decide), hk 1 (by decide) (by decide) (by decide) (by decide), hk 2 (by decide) (by decide) (by decide) (by decide), hk 4 (by decide) (by decide) (by decide) (by decide), hk 10 (by decide) (by decide) (by decide) (by decide), b2, b3 1 (by decide) (by decide) (by decide) (by decide) (by decide), b3 2 (by decide) (by decide) (by decide) (by decide) (by decide), b3 3 (by decide) (by decide) (by decide) (by decide) (by decide), b3 6 (by decide) (by decide) (by decide) (by decide) (by decide), b3 13 (by decide) (by decide) (by decide) (by decide) (by decide), b3 14 (by decide) (by decide) (by decide) (by decide) (by decide), b3 15 (by decide) (by decide) (by decide) (by decide) (by decide), b4 1 (by decide) (by decide), b4 7 (by decide) (by decide), b4 9 (by decide) (by decide), b4 10 (by decide) (by decide), b4 28 (by decide) (by decide), b1 7 (by decide), h5]
    refine ⟨q1, q2, q3, ⟨(HV_fg hv hn).1, RH_fg hv hn hr rfl (fun o ho => sA_o ho), hth, b5⟩, ⟨a3, a4, Or.inl (by rw [b1 8 (by decide)]; exact a5)⟩, ?_, q7⟩
    rw [sA_j (by decide), sA_j (by decide)]
    exact q6
