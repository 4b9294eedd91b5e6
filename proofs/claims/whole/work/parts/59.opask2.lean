/-! ask: the reference -/
def TRr (M2 M : am_M) (l : List Nat) : Prop := (∀ k, k ≠ 11 → M2 k = M k) ∧ (∀ o, o ≠ 0 → o ≠ 15 → M2 11 0 o = M 11 0 o) ∧ (∀ i, i ≠ 28 → M2 11 0 0 i = M 11 0 0 i) ∧ M2 11 0 0 28 = nI l.length ∧ ∀ i, i < l.length → M2 11 0 15 i = nI (l.getD i 0)
theorem c_Ref_began (b : Nat) (l : List Nat) (M1 M : am_M) (h : TRr M1 M l) (hl : l.length < 16) : ConP 1 mRef_began [aR 11 0 0, aI (nI b)] M1 (fun r M2 => r = none ∧ TRr M2 M (l ++ [b])) := by
  obtain ⟨h0, h3, h4, h1, h2⟩ := h
  refine con_of okRef_began [some (aR 11 0 0), some (aI (nI b))] none ?_
  intro J hgo
  refine hgo [] _ _ _ _ ?_
  refine brf (show ¬ nI 16 ≤ M1 11 0 0 28 by rw [h1]; exact nI_ge hl (by omega)) ?_
  refine ob_ (by rw [h1]; exact vp_in_nI (by omega) (by omega)) ?_
  have hcl : (M1 11 0 0 28).toNatClampNeg = l.length := by rw [h1]; exact cl_nI (by omega)
  refine ⟨rfl, fun k hk => by rw [sA_k hk, sA_k hk]; exact h0 k hk, fun o g1 g2 => by rw [sA_o g1, sA_o g2]; exact h3 o g1 g2, fun i hi => ?_, ?_, fun i hi => ?_⟩
  · show upd (M1 11 0 0) 28 _ i = _
    rw [upd_n hi]
    exact h4 i hi
  · show M1 11 0 0 28 + 1 = _
    rw [h1, nI_1, List.length_append]
    rfl
  · show upd (M1 11 0 15) (M1 11 0 0 28).toNatClampNeg (nI b) i = _
    rw [hcl]
    by_cases he : i = l.length
    · rw [he, upd_s, gd2]
    · have hi2 : i < l.length := by
        rw [List.length_append] at hi
        have : ([b] : List Nat).length = 1 := rfl
        omega
      rw [upd_n he, gd1 hi2]
      exact h2 i hi2
def PR4 (M : am_M) (np p kd : Nat) : Prop := M 11 0 4 1 = nI np ∧ np ≤ 10 ∧ p < np ∧ M 11 0 4 (28 + 5 * p + 0) = nI kd ∧ 1 ≤ kd ∧ kd ≤ 5
theorem c_Ref_plainSize (p : Nat) (l : List Nat) (M1 M : am_M) (h : TRr M1 M l) (hl : l.length < 16) (hp : p < 10) : ConP 2 mRef_plainSize [aR 11 0 0, aI (nI p)] M1 (fun r M2 => r = some (aI (M 11 0 4 (28 + 5 * p + 4))) ∧ TRr M2 M (l ++ [10])) := by
  refine con_of okRef_plainSize [some (aR 11 0 0), some (aI (nI p))] (some .int) ?_
  intro J hgo
  refine hgo [] _ _ _ _ ?_
  refine clp (c_Ref_began 10 l M1 M h hl) ?_
  rintro r M2 ⟨rfl, h2⟩
  refine cl_ (c_Ref_of p 4 M2 hp (by omega)) ?_
  refine ⟨?_, h2⟩
  rw [h2.2.1 4 (by decide) (by decide)]
theorem c_Ref_mark1 {np : Nat} (p : Nat) (l : List Nat) (M1 M : am_M) (hT1 : TRr M1 M l) (hl : l.length ≤ 13) (hP : PR4 M np p 1) : ConP 4 mRef_markOf [aR 11 0 0, aI (nI p)] M1 (fun r M2 => r = some (aI (mkV 1 (nI p) (M 11 0 4 (28 + 5 * p + 4)) (M 11 0 4 (28 + 5 * p + 3)) (M 11 0 4 (28 + 5 * p + 1)))) ∧ TRr M2 M (l ++ mkT 1)) := by
  obtain ⟨P1, P2, P3, P4, P5, P6⟩ := id hP
  refine con_of okRef_markOf [some (aR 11 0 0), some (aI (nI p)), none] (some .int) ?_
  intro J hgo
  refine hgo [] _ _ _ _ ?_
  refine cl_ (c_Ref_of p 0 M1 (by omega) (by omega)) ?_
  rw [show M1 11 0 4 (28 + 5 * p + 0) = nI 1 by rw [hT1.2.1 4 (by decide) (by decide)]; exact P4]
  refine brf (by decide) ?_
  refine hgo [] _ _ _ _ ?_
  refine cl_ (c_Ref_isOf 1 1 M1 (by omega) (by omega)) ?_
  refine brbt (by decide) ?_
  refine hgo [] _ _ _ _ ?_
  refine clp (c_Ref_began 21 (l) M1 M hT1 (by (try simp only [List.length_cons, List.length_nil, List.length_append]); omega)) ?_
  rintro r M2 ⟨rfl, hT2⟩
  refine clp (c_Ref_began 20 (l ++ [21]) M2 M hT2 (by (try simp only [List.length_cons, List.length_nil, List.length_append]); omega)) ?_
  rintro r M3 ⟨rfl, hT3⟩
  (repeat (first | refine brt (by decide) ?_ | refine brf (by decide) ?_))
  refine hgo [] _ _ _ _ ?_
  refine cl_ (c_Ref_of p 3 M3 (by omega) (by omega)) ?_
  refine ⟨?_, ?_⟩
  · rw [hT3.2.1 4 (by decide) (by decide)]; rfl
  · rw [show l ++ mkT 1 = l ++ [21] ++ [20] by simp [mkT, szT]]
    exact hT3
theorem c_Ref_mark2 {np : Nat} (p : Nat) (l : List Nat) (M1 M : am_M) (hT1 : TRr M1 M l) (hl : l.length ≤ 13) (hP : PR4 M np p 2) : ConP 4 mRef_markOf [aR 11 0 0, aI (nI p)] M1 (fun r M2 => r = some (aI (mkV 2 (nI p) (M 11 0 4 (28 + 5 * p + 4)) (M 11 0 4 (28 + 5 * p + 3)) (M 11 0 4 (28 + 5 * p + 1)))) ∧ TRr M2 M (l ++ mkT 2)) := by
  obtain ⟨P1, P2, P3, P4, P5, P6⟩ := id hP
  refine con_of okRef_markOf [some (aR 11 0 0), some (aI (nI p)), none] (some .int) ?_
  intro J hgo
  refine hgo [] _ _ _ _ ?_
  refine cl_ (c_Ref_of p 0 M1 (by omega) (by omega)) ?_
  rw [show M1 11 0 4 (28 + 5 * p + 0) = nI 2 by rw [hT1.2.1 4 (by decide) (by decide)]; exact P4]
  refine brf (by decide) ?_
  refine hgo [] _ _ _ _ ?_
  refine cl_ (c_Ref_isOf 2 1 M1 (by omega) (by omega)) ?_
  refine brbf (by decide) ?_
  refine hgo [] _ _ _ _ ?_
  refine brf (by decide) ?_
  refine hgo [] _ _ _ _ ?_
  refine clp (c_Ref_began 22 (l) M1 M hT1 (by (try simp only [List.length_cons, List.length_nil, List.length_append]); omega)) ?_
  rintro r M2 ⟨rfl, hT2⟩
  refine clp (c_Ref_began 20 (l ++ [22]) M2 M hT2 (by (try simp only [List.length_cons, List.length_nil, List.length_append]); omega)) ?_
  rintro r M3 ⟨rfl, hT3⟩
  (repeat (first | refine brt (by decide) ?_ | refine brf (by decide) ?_))
  refine hgo [] _ _ _ _ ?_
  refine cl_ (c_Ref_of p 1 M3 (by omega) (by omega)) ?_
  refine ⟨?_, ?_⟩
  · rw [hT3.2.1 4 (by decide) (by decide)]; rfl
  · rw [show l ++ mkT 2 = l ++ [22] ++ [20] by simp [mkT, szT]]
    exact hT3
theorem c_Ref_mark3 {np : Nat} (p : Nat) (l : List Nat) (M1 M : am_M) (hT1 : TRr M1 M l) (hl : l.length ≤ 13) (hP : PR4 M np p 3) : ConP 4 mRef_markOf [aR 11 0 0, aI (nI p)] M1 (fun r M2 => r = some (aI (mkV 3 (nI p) (M 11 0 4 (28 + 5 * p + 4)) (M 11 0 4 (28 + 5 * p + 3)) (M 11 0 4 (28 + 5 * p + 1)))) ∧ TRr M2 M (l ++ mkT 3)) := by
  obtain ⟨P1, P2, P3, P4, P5, P6⟩ := id hP
  refine con_of okRef_markOf [some (aR 11 0 0), some (aI (nI p)), none] (some .int) ?_
  intro J hgo
  refine hgo [] _ _ _ _ ?_
  refine cl_ (c_Ref_of p 0 M1 (by omega) (by omega)) ?_
  rw [show M1 11 0 4 (28 + 5 * p + 0) = nI 3 by rw [hT1.2.1 4 (by decide) (by decide)]; exact P4]
  refine brf (by decide) ?_
  refine hgo [] _ _ _ _ ?_
  refine cl_ (c_Ref_isOf 3 1 M1 (by omega) (by omega)) ?_
  refine brbf (by decide) ?_
  refine hgo [] _ _ _ _ ?_
  refine brf (by decide) ?_
  refine hgo [] _ _ _ _ ?_
  refine clp (c_Ref_began 22 (l) M1 M hT1 (by (try simp only [List.length_cons, List.length_nil, List.length_append]); omega)) ?_
  rintro r M2 ⟨rfl, hT2⟩
  refine clp (c_Ref_began 20 (l ++ [22]) M2 M hT2 (by (try simp only [List.length_cons, List.length_nil, List.length_append]); omega)) ?_
  rintro r M3 ⟨rfl, hT3⟩
  (repeat (first | refine brt (by decide) ?_ | refine brf (by decide) ?_))
  refine hgo [] _ _ _ _ ?_
  refine cl_ (c_Ref_of p 1 M3 (by omega) (by omega)) ?_
  refine ⟨?_, ?_⟩
  · rw [hT3.2.1 4 (by decide) (by decide)]; rfl
  · rw [show l ++ mkT 3 = l ++ [22] ++ [20] by simp [mkT, szT]]
    exact hT3
theorem c_Ref_mark4 {np : Nat} (p : Nat) (l : List Nat) (M1 M : am_M) (hT1 : TRr M1 M l) (hl : l.length ≤ 13) (hP : PR4 M np p 4) : ConP 4 mRef_markOf [aR 11 0 0, aI (nI p)] M1 (fun r M2 => r = some (aI (mkV 4 (nI p) (M 11 0 4 (28 + 5 * p + 4)) (M 11 0 4 (28 + 5 * p + 3)) (M 11 0 4 (28 + 5 * p + 1)))) ∧ TRr M2 M (l ++ mkT 4)) := by
  obtain ⟨P1, P2, P3, P4, P5, P6⟩ := id hP
  refine con_of okRef_markOf [some (aR 11 0 0), some (aI (nI p)), none] (some .int) ?_
  intro J hgo
  refine hgo [] _ _ _ _ ?_
  refine cl_ (c_Ref_of p 0 M1 (by omega) (by omega)) ?_
  rw [show M1 11 0 4 (28 + 5 * p + 0) = nI 4 by rw [hT1.2.1 4 (by decide) (by decide)]; exact P4]
  refine brt rfl ?_
  refine clp (c_Ref_began 24 (l) M1 M hT1 (by (try simp only [List.length_cons, List.length_nil, List.length_append]); omega)) ?_
  rintro r M2 ⟨rfl, hT2⟩
  refine cl_ (c_Ref_isOf 4 1 M2 (by omega) (by omega)) ?_
  refine brbt (by decide) ?_
  refine hgo [] _ _ _ _ ?_
  refine clp (c_Ref_began 21 (l ++ [24]) M2 M hT2 (by (try simp only [List.length_cons, List.length_nil, List.length_append]); omega)) ?_
  rintro r M3 ⟨rfl, hT3⟩
  refine clp (c_Ref_began 20 (l ++ [24] ++ [21]) M3 M hT3 (by (try simp only [List.length_cons, List.length_nil, List.length_append]); omega)) ?_
  rintro r M4 ⟨rfl, hT4⟩
  (repeat (first | refine brt (by decide) ?_ | refine brf (by decide) ?_))
  refine hgo [] _ _ _ _ ?_
  refine cl_ (c_Ref_of p 3 M4 (by omega) (by omega)) ?_
  refine ⟨?_, ?_⟩
  · rw [hT4.2.1 4 (by decide) (by decide)]; rfl
  · rw [show l ++ mkT 4 = l ++ [24] ++ [21] ++ [20] by simp [mkT, szT]]
    exact hT4
theorem c_Ref_mark5 {np : Nat} (p : Nat) (l : List Nat) (M1 M : am_M) (hT1 : TRr M1 M l) (hl : l.length ≤ 13) (hP : PR4 M np p 5) : ConP 4 mRef_markOf [aR 11 0 0, aI (nI p)] M1 (fun r M2 => r = some (aI (mkV 5 (nI p) (M 11 0 4 (28 + 5 * p + 4)) (M 11 0 4 (28 + 5 * p + 3)) (M 11 0 4 (28 + 5 * p + 1)))) ∧ TRr M2 M (l ++ mkT 5)) := by
  obtain ⟨P1, P2, P3, P4, P5, P6⟩ := id hP
  refine con_of okRef_markOf [some (aR 11 0 0), some (aI (nI p)), none] (some .int) ?_
  intro J hgo
  refine hgo [] _ _ _ _ ?_
  refine cl_ (c_Ref_of p 0 M1 (by omega) (by omega)) ?_
  rw [show M1 11 0 4 (28 + 5 * p + 0) = nI 5 by rw [hT1.2.1 4 (by decide) (by decide)]; exact P4]
  refine brf (by decide) ?_
  refine hgo [] _ _ _ _ ?_
  refine cl_ (c_Ref_isOf 5 1 M1 (by omega) (by omega)) ?_
  refine brbf (by decide) ?_
  refine hgo [] _ _ _ _ ?_
  refine brt rfl ?_
  refine hgo [] _ _ _ _ ?_
  refine clp (c_Ref_began 23 (l) M1 M hT1 (by (try simp only [List.length_cons, List.length_nil, List.length_append]); omega)) ?_
  rintro r M2 ⟨rfl, hT2⟩
  refine clp (c_Ref_began 20 (l ++ [23]) M2 M hT2 (by (try simp only [List.length_cons, List.length_nil, List.length_append]); omega)) ?_
  rintro r M3 ⟨rfl, hT3⟩
  (repeat (first | refine brt (by decide) ?_ | refine brf (by decide) ?_))
  refine hgo [] _ _ _ _ ?_
  refine clp (c_Ref_plainSize p (l ++ [23] ++ [20]) M3 M hT3 (by (try simp only [List.length_cons, List.length_nil, List.length_append]); omega) (by omega)) ?_
  rintro r M4 ⟨rfl, hT4⟩
  refine ⟨?_, ?_⟩
  · rfl
  · rw [show l ++ mkT 5 = l ++ [23] ++ [20] ++ [10] by simp [mkT, szT]]
    exact hT4
theorem c_Ref_size1 {np : Nat} (p : Nat) (l : List Nat) (M1 M : am_M) (hT1 : TRr M1 M l) (hl : l.length ≤ 10) (hP : PR4 M np p 1) : ConP 5 mRef_sizeOf [aR 11 0 0, aI (nI p)] M1 (fun r M2 => r = some (aI (szV 1 (nI p) (M 11 0 4 (28 + 5 * p + 4)) (M 11 0 4 (28 + 5 * p + 3)) (M 11 0 4 (28 + 5 * p + 1)))) ∧ TRr M2 M (l ++ szT 1)) := by
  obtain ⟨P1, P2, P3, P4, P5, P6⟩ := id hP
  refine con_of okRef_sizeOf [some (aR 11 0 0), some (aI (nI p)), none, none] (some .int) ?_
  intro J hgo
  refine hgo [] _ _ _ _ ?_
  refine cl_ (c_Ref_of p 0 M1 (by omega) (by omega)) ?_
  rw [show M1 11 0 4 (28 + 5 * p + 0) = nI 1 by rw [hT1.2.1 4 (by decide) (by decide)]; exact P4]
  refine brf (by decide) ?_
  refine hgo [] _ _ _ _ ?_
  refine brf (by decide) ?_
  refine brf (by decide) ?_
  refine hgo [] _ _ _ _ ?_
  refine cl_ (c_Ref_isOf 1 1 M1 (by omega) (by omega)) ?_
  refine brbt (by decide) ?_
  refine hgo [] _ _ _ _ ?_
  refine clp (c_Ref_began 11 (l) M1 M hT1 (by (try simp only [List.length_cons, List.length_nil, List.length_append]); omega)) ?_
  rintro r M2 ⟨rfl, hT2⟩
  refine clp (c_Ref_plainSize p (l ++ [11]) M2 M hT2 (by (try simp only [List.length_cons, List.length_nil, List.length_append]); omega) (by omega)) ?_
  rintro r M3 ⟨rfl, hT3⟩
  refine cl_ (c_Ref_isOf 1 2 M3 (by omega) (by omega)) ?_
  refine brbf (by decide) ?_
  refine hgo [] _ _ _ _ ?_
  refine clp (c_Ref_mark1 (np := np) p (l ++ [11] ++ [10]) M3 M hT3 (by (try simp only [List.length_cons, List.length_nil, List.length_append]); omega) hP) ?_
  rintro r M4 ⟨rfl, hT4⟩
  refine brf (by decide) ?_
  refine hgo [] _ _ _ _ ?_
  refine ⟨?_, ?_⟩
  · rfl
  · rw [show l ++ szT 1 = l ++ [11] ++ [10] ++ mkT 1 by simp [mkT, szT]]
    exact hT4
theorem c_Ref_size2 {np : Nat} (p : Nat) (l : List Nat) (M1 M : am_M) (hT1 : TRr M1 M l) (hl : l.length ≤ 10) (hP : PR4 M np p 2) : ConP 5 mRef_sizeOf [aR 11 0 0, aI (nI p)] M1 (fun r M2 => r = some (aI (szV 2 (nI p) (M 11 0 4 (28 + 5 * p + 4)) (M 11 0 4 (28 + 5 * p + 3)) (M 11 0 4 (28 + 5 * p + 1)))) ∧ TRr M2 M (l ++ szT 2)) := by
  obtain ⟨P1, P2, P3, P4, P5, P6⟩ := id hP
  refine con_of okRef_sizeOf [some (aR 11 0 0), some (aI (nI p)), none, none] (some .int) ?_
  intro J hgo
  refine hgo [] _ _ _ _ ?_
  refine cl_ (c_Ref_of p 0 M1 (by omega) (by omega)) ?_
  rw [show M1 11 0 4 (28 + 5 * p + 0) = nI 2 by rw [hT1.2.1 4 (by decide) (by decide)]; exact P4]
  refine brf (by decide) ?_
  refine hgo [] _ _ _ _ ?_
  refine brf (by decide) ?_
  refine brf (by decide) ?_
  refine hgo [] _ _ _ _ ?_
  refine cl_ (c_Ref_isOf 2 1 M1 (by omega) (by omega)) ?_
  refine brbf (by decide) ?_
  refine hgo [] _ _ _ _ ?_
  refine clp (c_Ref_began 13 (l) M1 M hT1 (by (try simp only [List.length_cons, List.length_nil, List.length_append]); omega)) ?_
  rintro r M2 ⟨rfl, hT2⟩
  refine clp (c_Ref_plainSize p (l ++ [13]) M2 M hT2 (by (try simp only [List.length_cons, List.length_nil, List.length_append]); omega) (by omega)) ?_
  rintro r M3 ⟨rfl, hT3⟩
  refine cl_ (c_Ref_isOf 2 2 M3 (by omega) (by omega)) ?_
  refine brbt (by decide) ?_
  refine cl_ (c_Ref_of p 3 M3 (by omega) (by omega)) ?_
  refine brf (by decide) ?_
  refine hgo [] _ _ _ _ ?_
  refine ⟨?_, ?_⟩
  · rw [hT3.2.1 4 (by decide) (by decide)]; rfl
  · rw [show l ++ szT 2 = l ++ [13] ++ [10] by simp [mkT, szT]]
    exact hT3
theorem c_Ref_size3 {np : Nat} (p : Nat) (l : List Nat) (M1 M : am_M) (hT1 : TRr M1 M l) (hl : l.length ≤ 10) (hP : PR4 M np p 3) : ConP 5 mRef_sizeOf [aR 11 0 0, aI (nI p)] M1 (fun r M2 => r = some (aI (szV 3 (nI p) (M 11 0 4 (28 + 5 * p + 4)) (M 11 0 4 (28 + 5 * p + 3)) (M 11 0 4 (28 + 5 * p + 1)))) ∧ TRr M2 M (l ++ szT 3)) := by
  obtain ⟨P1, P2, P3, P4, P5, P6⟩ := id hP
  refine con_of okRef_sizeOf [some (aR 11 0 0), some (aI (nI p)), none, none] (some .int) ?_
  intro J hgo
  refine hgo [] _ _ _ _ ?_
  refine cl_ (c_Ref_of p 0 M1 (by omega) (by omega)) ?_
  rw [show M1 11 0 4 (28 + 5 * p + 0) = nI 3 by rw [hT1.2.1 4 (by decide) (by decide)]; exact P4]
  refine brf (by decide) ?_
  refine hgo [] _ _ _ _ ?_
  refine brt rfl ?_
  refine hgo [] _ _ _ _ ?_
  refine brt rfl ?_
  refine hgo [] _ _ _ _ ?_
  refine clp (c_Ref_began 14 (l) M1 M hT1 (by (try simp only [List.length_cons, List.length_nil, List.length_append]); omega)) ?_
  rintro r M2 ⟨rfl, hT2⟩
  refine cl_ (c_Ref_isOf 3 1 M2 (by omega) (by omega)) ?_
  refine brbf (by decide) ?_
  refine hgo [] _ _ _ _ ?_
  refine clp (c_Ref_began 13 (l ++ [14]) M2 M hT2 (by (try simp only [List.length_cons, List.length_nil, List.length_append]); omega)) ?_
  rintro r M3 ⟨rfl, hT3⟩
  refine clp (c_Ref_plainSize p (l ++ [14] ++ [13]) M3 M hT3 (by (try simp only [List.length_cons, List.length_nil, List.length_append]); omega) (by omega)) ?_
  rintro r M4 ⟨rfl, hT4⟩
  refine cl_ (c_Ref_isOf 3 2 M4 (by omega) (by omega)) ?_
  refine brbt (by decide) ?_
  refine cl_ (c_Ref_of p 3 M4 (by omega) (by omega)) ?_
  refine brt rfl ?_
  refine hgo [] _ _ _ _ ?_
  refine ⟨?_, ?_⟩
  · rw [hT4.2.1 4 (by decide) (by decide)]; rfl
  · rw [show l ++ szT 3 = l ++ [14] ++ [13] ++ [10] by simp [mkT, szT]]
    exact hT4
theorem c_Ref_size4 {np : Nat} (p : Nat) (l : List Nat) (M1 M : am_M) (hT1 : TRr M1 M l) (hl : l.length ≤ 10) (hP : PR4 M np p 4) : ConP 5 mRef_sizeOf [aR 11 0 0, aI (nI p)] M1 (fun r M2 => r = some (aI (szV 4 (nI p) (M 11 0 4 (28 + 5 * p + 4)) (M 11 0 4 (28 + 5 * p + 3)) (M 11 0 4 (28 + 5 * p + 1)))) ∧ TRr M2 M (l ++ szT 4)) := by
  obtain ⟨P1, P2, P3, P4, P5, P6⟩ := id hP
  refine con_of okRef_sizeOf [some (aR 11 0 0), some (aI (nI p)), none, none] (some .int) ?_
  intro J hgo
  refine hgo [] _ _ _ _ ?_
  refine cl_ (c_Ref_of p 0 M1 (by omega) (by omega)) ?_
  rw [show M1 11 0 4 (28 + 5 * p + 0) = nI 4 by rw [hT1.2.1 4 (by decide) (by decide)]; exact P4]
  refine brf (by decide) ?_
  refine hgo [] _ _ _ _ ?_
  refine brf (by decide) ?_
  refine brt rfl ?_
  refine brf (by decide) ?_
  refine hgo [] _ _ _ _ ?_
  refine clp (c_Ref_began 12 (l) M1 M hT1 (by (try simp only [List.length_cons, List.length_nil, List.length_append]); omega)) ?_
  rintro r M2 ⟨rfl, hT2⟩
  refine cl_ (c_Ref_isOf 4 1 M2 (by omega) (by omega)) ?_
  refine brbt (by decide) ?_
  refine hgo [] _ _ _ _ ?_
  refine clp (c_Ref_began 11 (l ++ [12]) M2 M hT2 (by (try simp only [List.length_cons, List.length_nil, List.length_append]); omega)) ?_
  rintro r M3 ⟨rfl, hT3⟩
  refine clp (c_Ref_plainSize p (l ++ [12] ++ [11]) M3 M hT3 (by (try simp only [List.length_cons, List.length_nil, List.length_append]); omega) (by omega)) ?_
  rintro r M4 ⟨rfl, hT4⟩
  refine cl_ (c_Ref_isOf 4 2 M4 (by omega) (by omega)) ?_
  refine brbf (by decide) ?_
  refine hgo [] _ _ _ _ ?_
  refine clp (c_Ref_mark4 (np := np) p (l ++ [12] ++ [11] ++ [10]) M4 M hT4 (by (try simp only [List.length_cons, List.length_nil, List.length_append]); omega) hP) ?_
  rintro r M5 ⟨rfl, hT5⟩
  refine brt rfl ?_
  refine hgo [] _ _ _ _ ?_
  refine ⟨?_, ?_⟩
  · rw [← Int32.zero_sub]; rfl
  · rw [show l ++ szT 4 = l ++ [12] ++ [11] ++ [10] ++ mkT 4 by simp [mkT, szT]]
    exact hT5
theorem c_Ref_size5 {np : Nat} (p : Nat) (l : List Nat) (M1 M : am_M) (hT1 : TRr M1 M l) (hl : l.length ≤ 10) (hP : PR4 M np p 5) : ConP 5 mRef_sizeOf [aR 11 0 0, aI (nI p)] M1 (fun r M2 => r = some (aI (szV 5 (nI p) (M 11 0 4 (28 + 5 * p + 4)) (M 11 0 4 (28 + 5 * p + 3)) (M 11 0 4 (28 + 5 * p + 1)))) ∧ TRr M2 M (l ++ szT 5)) := by
  obtain ⟨P1, P2, P3, P4, P5, P6⟩ := id hP
  refine con_of okRef_sizeOf [some (aR 11 0 0), some (aI (nI p)), none, none] (some .int) ?_
  intro J hgo
  refine hgo [] _ _ _ _ ?_
  refine cl_ (c_Ref_of p 0 M1 (by omega) (by omega)) ?_
  rw [show M1 11 0 4 (28 + 5 * p + 0) = nI 5 by rw [hT1.2.1 4 (by decide) (by decide)]; exact P4]
  refine brt rfl ?_
  refine clp (c_Ref_plainSize p (l) M1 M hT1 (by (try simp only [List.length_cons, List.length_nil, List.length_append]); omega) (by omega)) ?_
  rintro r M2 ⟨rfl, hT2⟩
  refine ⟨?_, ?_⟩
  · rfl
  · rw [show l ++ szT 5 = l ++ [10] by simp [mkT, szT]]
    exact hT2
theorem c_Ref_markOf {np : Nat} (p kd : Nat) (l : List Nat) (M1 M : am_M) (hT1 : TRr M1 M l) (hl : l.length ≤ 13) (hP : PR4 M np p kd) : ConP 4 mRef_markOf [aR 11 0 0, aI (nI p)] M1 (fun r M2 => r = some (aI (mkV kd (nI p) (M 11 0 4 (28 + 5 * p + 4)) (M 11 0 4 (28 + 5 * p + 3)) (M 11 0 4 (28 + 5 * p + 1)))) ∧ TRr M2 M (l ++ mkT kd)) := by
  have hk : kd = 1 ∨ kd = 2 ∨ kd = 3 ∨ kd = 4 ∨ kd = 5 := by
    have := hP.2.2.2.2
    omega
  rcases hk with rfl | rfl | rfl | rfl | rfl
  · exact c_Ref_mark1 p l M1 M hT1 hl hP
  · exact c_Ref_mark2 p l M1 M hT1 hl hP
  · exact c_Ref_mark3 p l M1 M hT1 hl hP
  · exact c_Ref_mark4 p l M1 M hT1 hl hP
  · exact c_Ref_mark5 p l M1 M hT1 hl hP
theorem c_Ref_sizeOf {np : Nat} (p kd : Nat) (l : List Nat) (M1 M : am_M) (hT1 : TRr M1 M l) (hl : l.length ≤ 10) (hP : PR4 M np p kd) : ConP 5 mRef_sizeOf [aR 11 0 0, aI (nI p)] M1 (fun r M2 => r = some (aI (szV kd (nI p) (M 11 0 4 (28 + 5 * p + 4)) (M 11 0 4 (28 + 5 * p + 3)) (M 11 0 4 (28 + 5 * p + 1)))) ∧ TRr M2 M (l ++ szT kd)) := by
  have hk : kd = 1 ∨ kd = 2 ∨ kd = 3 ∨ kd = 4 ∨ kd = 5 := by
    have := hP.2.2.2.2
    omega
  rcases hk with rfl | rfl | rfl | rfl | rfl
  · exact c_Ref_size1 p l M1 M hT1 hl hP
  · exact c_Ref_size2 p l M1 M hT1 hl hP
  · exact c_Ref_size3 p l M1 M hT1 hl hP
  · exact c_Ref_size4 p l M1 M hT1 hl hP
  · exact c_Ref_size5 p l M1 M hT1 hl hP
