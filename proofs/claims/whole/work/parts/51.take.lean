/-! one house into another -/
def HSame (M M2 : am_M) (j : Nat) : Prop := (∀ k, k ≠ 4 → M2 k = M k) ∧ ∀ i, i ≠ j → M2 4 i = M 4 i
theorem HSame.tr {M M1 M2 : am_M} {j : Nat} (h1 : HSame M M1 j) (h2 : HSame M1 M2 j) : HSame M M2 j := ⟨fun k hk => (h2.1 k hk).trans (h1.1 k hk), fun i hi => (h2.2 i hi).trans (h1.2 i hi)⟩
theorem HSame.rf {M : am_M} {j : Nat} : HSame M M j := ⟨fun _ _ => rfl, fun _ _ => rfl⟩
theorem HSame.sa {M : am_M} {j o : Nat} {f : Nat → Int32} : HSame M (sA M 4 j o f) j := ⟨fun _ hk => sA_k hk, fun _ hi => sA_j hi⟩
theorem c_House_clear (j : Nat) (M : am_M) : ConP 1 mHouse_clear [aR 4 j 0] M (fun r M2 => r = none ∧ HSame M M2 j ∧ M2 4 j 0 0 = 0 ∧ M2 4 j 0 4 = 0 ∧ M2 4 j 0 10 = 0) := by
  refine con_of okHouse_clear [some (aR 4 j 0)] none ?_
  intro J hgo
  refine hgo [] _ _ _ _ ?_
  refine ⟨rfl, (HSame.sa.tr HSame.sa).tr HSame.sa, ?_, ?_, ?_⟩ <;> simp [sA, upd]
theorem c_House_addWall (j n : Nat) (a b c : Int32) (M : am_M) (hn : M 4 j 0 0 = nI n) (h8 : n < 8) : ConP 1 mHouse_addWall [aR 4 j 0, aI a, aI b, aI c] M (fun r M2 => r = none ∧ HSame M M2 j ∧ M2 4 j 0 = upd (M 4 j 0) 0 (nI (n + 1)) ∧ M2 4 j 1 = upd (M 4 j 1) n a ∧ M2 4 j 2 = upd (M 4 j 2) n b ∧ M2 4 j 3 = upd (M 4 j 3) n c ∧ ∀ o, o ≠ 0 → (o < 1 ∨ 4 ≤ o) → M2 4 j o = M 4 j o) := by
  have hc : (nI n).toNatClampNeg = n := cl_nI (by omega)
  refine con_of okHouse_addWall [some (aR 4 j 0), some (aI a), some (aI b), some (aI c)] none ?_
  intro J hgo
  refine hgo [] _ _ _ _ ?_
  refine brt (show M 4 j 0 0 < nI 8 by rw [hn]; exact nI_lt h8 (by omega)) ?_
  refine hgo [] _ _ _ _ ?_
  refine ob_ (by rw [hn]; exact vp_in_nI (by omega) (by omega)) ?_
  refine ob_ (by rw [sA_o (by decide), hn]; exact vp_in_nI (by omega) (by omega)) ?_
  refine ob_ (by rw [sA_o (by decide), sA_o (by decide), hn]; exact vp_in_nI (by omega) (by omega)) ?_
  refine ⟨rfl, (((HSame.sa.tr HSame.sa).tr HSame.sa).tr HSame.sa), ?_, ?_, ?_, ?_, ?_⟩
  · simp [sA, hn, nI_1]
  · simp [sA, hn, hc]
  · simp [sA, hn, hc]
  · simp [sA, hn, hc]
  · intro o h0 ho
    have g0 : o ≠ 1 := by omega
    have g1 : o ≠ 2 := by omega
    have g2 : o ≠ 3 := by omega
    rw [sA_o h0, sA_o g2, sA_o g1, sA_o g0]
theorem c_House_addPaper (j n : Nat) (a b c e g : Int32) (M : am_M) (hn : M 4 j 0 4 = nI n) (h8 : n < 10) : ConP 1 mHouse_addPaper [aR 4 j 0, aI a, aI b, aI c, aI e, aI g] M (fun r M2 => r = none ∧ HSame M M2 j ∧ M2 4 j 0 = upd (M 4 j 0) 4 (nI (n + 1)) ∧ M2 4 j 4 = upd (M 4 j 4) n a ∧ M2 4 j 5 = upd (M 4 j 5) n b ∧ M2 4 j 6 = upd (M 4 j 6) n c ∧ M2 4 j 7 = upd (M 4 j 7) n e ∧ M2 4 j 8 = upd (M 4 j 8) n g ∧ ∀ o, o ≠ 0 → (o < 4 ∨ 9 ≤ o) → M2 4 j o = M 4 j o) := by
  have hc : (nI n).toNatClampNeg = n := cl_nI (by omega)
  refine con_of okHouse_addPaper [some (aR 4 j 0), some (aI a), some (aI b), some (aI c), some (aI e), some (aI g)] none ?_
  intro J hgo
  refine hgo [] _ _ _ _ ?_
  refine brt (show M 4 j 0 4 < nI 10 by rw [hn]; exact nI_lt h8 (by omega)) ?_
  refine hgo [] _ _ _ _ ?_
  refine ob_ (by rw [hn]; exact vp_in_nI (by omega) (by omega)) ?_
  refine ob_ (by rw [sA_o (by decide), hn]; exact vp_in_nI (by omega) (by omega)) ?_
  refine ob_ (by rw [sA_o (by decide), sA_o (by decide), hn]; exact vp_in_nI (by omega) (by omega)) ?_
  refine ob_ (by rw [sA_o (by decide), sA_o (by decide), sA_o (by decide), hn]; exact vp_in_nI (by omega) (by omega)) ?_
  refine ob_ (by rw [sA_o (by decide), sA_o (by decide), sA_o (by decide), sA_o (by decide), hn]; exact vp_in_nI (by omega) (by omega)) ?_
  refine ⟨rfl, (((((HSame.sa.tr HSame.sa).tr HSame.sa).tr HSame.sa).tr HSame.sa).tr HSame.sa), ?_, ?_, ?_, ?_, ?_, ?_, ?_⟩
  · simp [sA, hn, nI_1]
  · simp [sA, hn, hc]
  · simp [sA, hn, hc]
  · simp [sA, hn, hc]
  · simp [sA, hn, hc]
  · simp [sA, hn, hc]
  · intro o h0 ho
    have g0 : o ≠ 4 := by omega
    have g1 : o ≠ 5 := by omega
    have g2 : o ≠ 6 := by omega
    have g3 : o ≠ 7 := by omega
    have g4 : o ≠ 8 := by omega
    rw [sA_o h0, sA_o g4, sA_o g3, sA_o g2, sA_o g1, sA_o g0]
theorem c_House_addTenant (j n : Nat) (a b c : Int32) (M : am_M) (hn : M 4 j 0 10 = nI n) (h8 : n < 10) : ConP 1 mHouse_addTenant [aR 4 j 0, aI a, aI b, aI c] M (fun r M2 => r = none ∧ HSame M M2 j ∧ M2 4 j 0 = upd (M 4 j 0) 10 (nI (n + 1)) ∧ M2 4 j 9 = upd (M 4 j 9) n a ∧ M2 4 j 10 = upd (M 4 j 10) n b ∧ M2 4 j 11 = upd (M 4 j 11) n c ∧ ∀ o, o ≠ 0 → (o < 9 ∨ 12 ≤ o) → M2 4 j o = M 4 j o) := by
  have hc : (nI n).toNatClampNeg = n := cl_nI (by omega)
  refine con_of okHouse_addTenant [some (aR 4 j 0), some (aI a), some (aI b), some (aI c)] none ?_
  intro J hgo
  refine hgo [] _ _ _ _ ?_
  refine brt (show M 4 j 0 10 < nI 10 by rw [hn]; exact nI_lt h8 (by omega)) ?_
  refine hgo [] _ _ _ _ ?_
  refine ob_ (by rw [hn]; exact vp_in_nI (by omega) (by omega)) ?_
  refine ob_ (by rw [sA_o (by decide), hn]; exact vp_in_nI (by omega) (by omega)) ?_
  refine ob_ (by rw [sA_o (by decide), sA_o (by decide), hn]; exact vp_in_nI (by omega) (by omega)) ?_
  refine ⟨rfl, (((HSame.sa.tr HSame.sa).tr HSame.sa).tr HSame.sa), ?_, ?_, ?_, ?_, ?_⟩
  · simp [sA, hn, nI_1]
  · simp [sA, hn, hc]
  · simp [sA, hn, hc]
  · simp [sA, hn, hc]
  · intro o h0 ho
    have g0 : o ≠ 9 := by omega
    have g1 : o ≠ 10 := by omega
    have g2 : o ≠ 11 := by omega
    rw [sA_o h0, sA_o g2, sA_o g1, sA_o g0]
