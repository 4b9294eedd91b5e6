/-! ask -/
def TRc (M2 M : am_M) (l : List Nat) : Prop := (∀ k, k ≠ 10 → M2 k = M k) ∧ M2 10 0 0 1 = nI l.length ∧ ∀ i, i < l.length → M2 10 0 1 i = nI (l.getD i 0)
theorem gd1 {l : List Nat} {b i : Nat} (h : i < l.length) : (l ++ [b]).getD i 0 = l.getD i 0 := by
  simp [List.getD, List.getElem?_append_left h]
theorem gd2 {l : List Nat} {b : Nat} : (l ++ [b]).getD l.length 0 = b := by
  simp [List.getD]
theorem c_Bodies_begin (b : Nat) (l : List Nat) (M1 M : am_M) (h : TRc M1 M l) (hl : l.length < 16) : ConP 1 mBodies_begin [aR 10 0 0, aI (nI b)] M1 (fun r M2 => r = none ∧ TRc M2 M (l ++ [b])) := by
  obtain ⟨h0, h1, h2⟩ := h
  refine con_of okBodies_begin [some (aR 10 0 0), some (aI (nI b))] none ?_
  intro J hgo
  refine hgo [] _ _ _ _ ?_
  refine brt (show M1 10 0 0 1 < nI 16 by rw [h1]; exact nI_lt hl (by omega)) ?_
  refine hgo [] _ _ _ _ ?_
  refine ob_ (by rw [h1]; exact vp_in_nI (by omega) (by omega)) ?_
  have hcl : (M1 10 0 0 1).toNatClampNeg = l.length := by rw [h1]; exact cl_nI (by omega)
  refine ⟨rfl, fun k hk => by rw [sA_k hk, sA_k hk]; exact h0 k hk, ?_, fun i hi => ?_⟩
  · show M1 10 0 0 1 + 1 = _
    rw [h1, nI_1, List.length_append]
    rfl
  · show upd (M1 10 0 1) (M1 10 0 0 1).toNatClampNeg (nI b) i = _
    rw [hcl]
    by_cases he : i = l.length
    · rw [he, upd_s, gd2]
    · have hi2 : i < l.length := by
        rw [List.length_append] at hi
        have : ([b] : List Nat).length = 1 := rfl
        omega
      rw [upd_n he, gd1 hi2]
      exact h2 i hi2
def PF (M : am_M) (np p kd : Nat) : Prop := M 4 0 0 4 = nI np ∧ np ≤ 10 ∧ p < np ∧ M 4 0 4 p = nI kd ∧ 1 ≤ kd ∧ kd ≤ 5
theorem c_Bodies_told1 (np p kd : Nat) (M1 M : am_M) (h4 : M1 4 = M 4) (hP : PF M np p kd) : Con 2 mBodies_told [aR 12 0 1, aR 4 0 0, aI (nI p)] M1 (some (aI ((am_sc 1).getD kd 0))) M1 := by
  obtain ⟨P1, P2, P3, P4, P5, P6⟩ := hP
  refine con_of okBodies_told [some (aR 12 0 1), some (aR 4 0 0), some (aI (nI p)), none] (some .int) ?_
  intro J hgo
  have e1 : M1 4 0 4 (nI p).toNatClampNeg = nI kd := by rw [cl_nI (by omega), h4, P4]
  refine hgo [] _ _ _ _ ?_
  refine cl_ (c_House_isPaper np 0 (nI p) _ (by rw [h4]; exact P1) (by omega)) ?_
  refine brbt (by rw [i3_n (by omega)]; omega) ?_
  refine ob_ (vp_in_nI (by omega) (by omega)) ?_
  rw [e1]
  refine hgo [] _ _ _ _ ?_
  refine brf (nI_nlt (a := kd) (b := 0) (by omega) (by omega)) ?_
  refine brf (show ¬ nI 6 ≤ nI kd from nI_ge (by omega) (by omega)) ?_
  refine ob_ (vp_in_nI (by omega) (by omega)) ?_
  refine hgo [] _ _ _ _ ?_
  refine ⟨?_, rfl⟩
  rw [cl_nI (by omega)]
theorem c_Bodies_told2 (np p kd : Nat) (M1 M : am_M) (h4 : M1 4 = M 4) (hP : PF M np p kd) : Con 2 mBodies_told [aR 12 0 2, aR 4 0 0, aI (nI p)] M1 (some (aI ((am_sc 2).getD kd 0))) M1 := by
  obtain ⟨P1, P2, P3, P4, P5, P6⟩ := hP
  refine con_of okBodies_told [some (aR 12 0 2), some (aR 4 0 0), some (aI (nI p)), none] (some .int) ?_
  intro J hgo
  have e1 : M1 4 0 4 (nI p).toNatClampNeg = nI kd := by rw [cl_nI (by omega), h4, P4]
  refine hgo [] _ _ _ _ ?_
  refine cl_ (c_House_isPaper np 0 (nI p) _ (by rw [h4]; exact P1) (by omega)) ?_
  refine brbt (by rw [i3_n (by omega)]; omega) ?_
  refine ob_ (vp_in_nI (by omega) (by omega)) ?_
  rw [e1]
  refine hgo [] _ _ _ _ ?_
  refine brf (nI_nlt (a := kd) (b := 0) (by omega) (by omega)) ?_
  refine brf (show ¬ nI 6 ≤ nI kd from nI_ge (by omega) (by omega)) ?_
  refine ob_ (vp_in_nI (by omega) (by omega)) ?_
  refine hgo [] _ _ _ _ ?_
  refine ⟨?_, rfl⟩
  rw [cl_nI (by omega)]
def AnsC (d : Nat) (M : am_M) (p body dep : Nat) (tr : List Nat) (v : Int32) : Prop := ∀ M1 l, TRc M1 M l → l.length + tr.length ≤ 16 → ConP d mBodies_answer [aR 10 0 0, aR 4 0 0, aI (nI p), aI (nI body), aI (nI dep)] M1 (fun r M2 => r = some (aI v) ∧ TRc M2 M (l ++ tr))
theorem ans_10 {M : am_M} {np p kd dep : Nat} (hd : dep ≤ 12) (hP : PF M np p kd) : AnsC 3 M p 10 dep [10] (M 4 0 8 p) := by
  intro M1 l hT hl
  obtain ⟨P1, P2, P3, P4, P5, P6⟩ := id hP
  have h4 : M1 4 = M 4 := hT.1 4 (by decide)
  simp only [List.length_cons, List.length_nil, List.length_append] at hl
  refine con_of okBodies_answer [some (aR 10 0 0), some (aR 4 0 0), some (aI (nI p)), some (aI (nI 10)), some (aI (nI dep)), none] (some .int) ?_
  intro J hgo
  have hcl : (nI p).toNatClampNeg = p := cl_nI (by omega)
  refine hgo [] _ _ _ _ ?_
  refine brf (nI_nlt (a := 16) (b := dep) (by omega) (by omega)) ?_
  refine cl_ (c_House_isPaper np 0 (nI p) _ (by rw [h4]; exact P1) (by omega)) ?_
  refine brbt (by rw [i3_n (by omega)]; omega) ?_
  refine hgo [] _ _ _ _ ?_
  refine clp (c_Bodies_begin 10 l M1 M hT (by omega)) ?_
  rintro r M2 ⟨rfl, hT2⟩
  (repeat (first | refine brt (by decide) ?_ | refine brf (by decide) ?_))
  refine hgo [] _ _ _ _ ?_
  refine ob_ (vp_in_nI (by omega) (by omega)) ?_
  refine ⟨?_, hT2⟩
  rw [hcl, hT2.1 4 (by decide)]
theorem ans_20 {M : am_M} {np p kd dep : Nat} (hd : dep ≤ 12) (hP : PF M np p kd) : AnsC 3 M p 20 dep [20] (nI p) := by
  intro M1 l hT hl
  obtain ⟨P1, P2, P3, P4, P5, P6⟩ := id hP
  have h4 : M1 4 = M 4 := hT.1 4 (by decide)
  simp only [List.length_cons, List.length_nil, List.length_append] at hl
  refine con_of okBodies_answer [some (aR 10 0 0), some (aR 4 0 0), some (aI (nI p)), some (aI (nI 20)), some (aI (nI dep)), none] (some .int) ?_
  intro J hgo
  have hcl : (nI p).toNatClampNeg = p := cl_nI (by omega)
  refine hgo [] _ _ _ _ ?_
  refine brf (nI_nlt (a := 16) (b := dep) (by omega) (by omega)) ?_
  refine cl_ (c_House_isPaper np 0 (nI p) _ (by rw [h4]; exact P1) (by omega)) ?_
  refine brbt (by rw [i3_n (by omega)]; omega) ?_
  refine hgo [] _ _ _ _ ?_
  refine clp (c_Bodies_begin 20 l M1 M hT (by omega)) ?_
  rintro r M2 ⟨rfl, hT2⟩
  (repeat (first | refine brt (by decide) ?_ | refine brf (by decide) ?_))
  refine hgo [] _ _ _ _ ?_
  exact ⟨rfl, hT2⟩
theorem ans_21 {M : am_M} {np p kd dep : Nat} (hd : dep ≤ 11) (hP : PF M np p kd) : AnsC 4 M p 21 dep [21, 20] (nI p + M 4 0 7 p) := by
  intro M1 l hT hl
  obtain ⟨P1, P2, P3, P4, P5, P6⟩ := id hP
  have h4 : M1 4 = M 4 := hT.1 4 (by decide)
  simp only [List.length_cons, List.length_nil, List.length_append] at hl
  refine con_of okBodies_answer [some (aR 10 0 0), some (aR 4 0 0), some (aI (nI p)), some (aI (nI 21)), some (aI (nI dep)), none] (some .int) ?_
  intro J hgo
  have hcl : (nI p).toNatClampNeg = p := cl_nI (by omega)
  refine hgo [] _ _ _ _ ?_
  refine brf (nI_nlt (a := 16) (b := dep) (by omega) (by omega)) ?_
  refine cl_ (c_House_isPaper np 0 (nI p) _ (by rw [h4]; exact P1) (by omega)) ?_
  refine brbt (by rw [i3_n (by omega)]; omega) ?_
  refine hgo [] _ _ _ _ ?_
  refine clp (c_Bodies_begin 21 l M1 M hT (by omega)) ?_
  rintro r M2 ⟨rfl, hT2⟩
  (repeat (first | refine brt (by decide) ?_ | refine brf (by decide) ?_))
  refine hgo [] _ _ _ _ ?_
  refine clpe ((ans_20 (dep := dep + 1) (by omega) hP) M2 (l ++ [21]) hT2 (by simp only [List.length_cons, List.length_nil, List.length_append]; omega)) (by rw [nI_1]; try rfl) rfl ?_
  rintro r M3 ⟨rfl, hT3⟩
  refine ob_ (vp_in_nI (by omega) (by omega)) ?_
  refine ⟨?_, ?_⟩
  · rw [hcl, hT3.1 4 (by decide)]
  · rw [show l ++ [21, 20] = l ++ [21] ++ [20] by simp]
    exact hT3
theorem ans_22 {M : am_M} {np p kd dep : Nat} (hd : dep ≤ 11) (hP : PF M np p kd) : AnsC 4 M p 22 dep [22, 20] (nI p + M 4 0 5 p) := by
  intro M1 l hT hl
  obtain ⟨P1, P2, P3, P4, P5, P6⟩ := id hP
  have h4 : M1 4 = M 4 := hT.1 4 (by decide)
  simp only [List.length_cons, List.length_nil, List.length_append] at hl
  refine con_of okBodies_answer [some (aR 10 0 0), some (aR 4 0 0), some (aI (nI p)), some (aI (nI 22)), some (aI (nI dep)), none] (some .int) ?_
  intro J hgo
  have hcl : (nI p).toNatClampNeg = p := cl_nI (by omega)
  refine hgo [] _ _ _ _ ?_
  refine brf (nI_nlt (a := 16) (b := dep) (by omega) (by omega)) ?_
  refine cl_ (c_House_isPaper np 0 (nI p) _ (by rw [h4]; exact P1) (by omega)) ?_
  refine brbt (by rw [i3_n (by omega)]; omega) ?_
  refine hgo [] _ _ _ _ ?_
  refine clp (c_Bodies_begin 22 l M1 M hT (by omega)) ?_
  rintro r M2 ⟨rfl, hT2⟩
  (repeat (first | refine brt (by decide) ?_ | refine brf (by decide) ?_))
  refine hgo [] _ _ _ _ ?_
  refine clpe ((ans_20 (dep := dep + 1) (by omega) hP) M2 (l ++ [22]) hT2 (by simp only [List.length_cons, List.length_nil, List.length_append]; omega)) (by rw [nI_1]; try rfl) rfl ?_
  rintro r M3 ⟨rfl, hT3⟩
  refine ob_ (vp_in_nI (by omega) (by omega)) ?_
  refine ⟨?_, ?_⟩
  · rw [hcl, hT3.1 4 (by decide)]
  · rw [show l ++ [22, 20] = l ++ [22] ++ [20] by simp]
    exact hT3
theorem ans_13 {M : am_M} {np p kd dep : Nat} (hd : dep ≤ 11) (hP : PF M np p kd) : AnsC 4 M p 13 dep [13, 10] (M 4 0 8 p - M 4 0 7 p) := by
  intro M1 l hT hl
  obtain ⟨P1, P2, P3, P4, P5, P6⟩ := id hP
  have h4 : M1 4 = M 4 := hT.1 4 (by decide)
  simp only [List.length_cons, List.length_nil, List.length_append] at hl
  refine con_of okBodies_answer [some (aR 10 0 0), some (aR 4 0 0), some (aI (nI p)), some (aI (nI 13)), some (aI (nI dep)), none] (some .int) ?_
  intro J hgo
  have hcl : (nI p).toNatClampNeg = p := cl_nI (by omega)
  refine hgo [] _ _ _ _ ?_
  refine brf (nI_nlt (a := 16) (b := dep) (by omega) (by omega)) ?_
  refine cl_ (c_House_isPaper np 0 (nI p) _ (by rw [h4]; exact P1) (by omega)) ?_
  refine brbt (by rw [i3_n (by omega)]; omega) ?_
  refine hgo [] _ _ _ _ ?_
  refine clp (c_Bodies_begin 13 l M1 M hT (by omega)) ?_
  rintro r M2 ⟨rfl, hT2⟩
  (repeat (first | refine brt (by decide) ?_ | refine brf (by decide) ?_))
  refine hgo [] _ _ _ _ ?_
  refine clpe ((ans_10 (dep := dep + 1) (by omega) hP) M2 (l ++ [13]) hT2 (by simp only [List.length_cons, List.length_nil, List.length_append]; omega)) (by rw [nI_1]; try rfl) rfl ?_
  rintro r M3 ⟨rfl, hT3⟩
  refine ob_ (vp_in_nI (by omega) (by omega)) ?_
  refine ⟨?_, ?_⟩
  · rw [hcl, hT3.1 4 (by decide)]
  · rw [show l ++ [13, 10] = l ++ [13] ++ [10] by simp]
    exact hT3
theorem ans_14 {M : am_M} {np p kd dep : Nat} (hd : dep ≤ 10) (hP : PF M np p kd) : AnsC 5 M p 14 dep [14, 13, 10] (2 * (M 4 0 8 p - M 4 0 7 p)) := by
  intro M1 l hT hl
  obtain ⟨P1, P2, P3, P4, P5, P6⟩ := id hP
  have h4 : M1 4 = M 4 := hT.1 4 (by decide)
  simp only [List.length_cons, List.length_nil, List.length_append] at hl
  refine con_of okBodies_answer [some (aR 10 0 0), some (aR 4 0 0), some (aI (nI p)), some (aI (nI 14)), some (aI (nI dep)), none] (some .int) ?_
  intro J hgo
  have hcl : (nI p).toNatClampNeg = p := cl_nI (by omega)
  refine hgo [] _ _ _ _ ?_
  refine brf (nI_nlt (a := 16) (b := dep) (by omega) (by omega)) ?_
  refine cl_ (c_House_isPaper np 0 (nI p) _ (by rw [h4]; exact P1) (by omega)) ?_
  refine brbt (by rw [i3_n (by omega)]; omega) ?_
  refine hgo [] _ _ _ _ ?_
  refine clp (c_Bodies_begin 14 l M1 M hT (by omega)) ?_
  rintro r M2 ⟨rfl, hT2⟩
  (repeat (first | refine brt (by decide) ?_ | refine brf (by decide) ?_))
  refine hgo [] _ _ _ _ ?_
  refine clpe ((ans_13 (dep := dep + 1) (by omega) hP) M2 (l ++ [14]) hT2 (by simp only [List.length_cons, List.length_nil, List.length_append]; omega)) (by rw [nI_1]; try rfl) rfl ?_
  rintro r M3 ⟨rfl, hT3⟩
  refine ⟨?_, ?_⟩
  · rfl
  · rw [show l ++ [14, 13, 10] = l ++ [14] ++ [13, 10] by simp]
    exact hT3
theorem ans_24 {M : am_M} {np p kd dep : Nat} (hd : dep ≤ 10) (hP : PF M np p kd) : AnsC 6 M p 24 dep [24, 21, 20] (nI p + M 4 0 7 p - 1000) := by
  intro M1 l hT hl
  obtain ⟨P1, P2, P3, P4, P5, P6⟩ := id hP
  have h4 : M1 4 = M 4 := hT.1 4 (by decide)
  simp only [List.length_cons, List.length_nil, List.length_append] at hl
  refine con_of okBodies_answer [some (aR 10 0 0), some (aR 4 0 0), some (aI (nI p)), some (aI (nI 24)), some (aI (nI dep)), none] (some .int) ?_
  intro J hgo
  have hcl : (nI p).toNatClampNeg = p := cl_nI (by omega)
  refine hgo [] _ _ _ _ ?_
  refine brf (nI_nlt (a := 16) (b := dep) (by omega) (by omega)) ?_
  refine cl_ (c_House_isPaper np 0 (nI p) _ (by rw [h4]; exact P1) (by omega)) ?_
  refine brbt (by rw [i3_n (by omega)]; omega) ?_
  refine hgo [] _ _ _ _ ?_
  refine clp (c_Bodies_begin 24 l M1 M hT (by omega)) ?_
  rintro r M2 ⟨rfl, hT2⟩
  (repeat (first | refine brt (by decide) ?_ | refine brf (by decide) ?_))
  refine hgo [] _ _ _ _ ?_
  refine clpe ((ans_21 (dep := dep + 1) (by omega) hP) M2 (l ++ [24]) hT2 (by simp only [List.length_cons, List.length_nil, List.length_append]; omega)) (by rw [nI_1]; try rfl) rfl ?_
  rintro r M3 ⟨rfl, hT3⟩
  refine ⟨?_, ?_⟩
  · rfl
  · rw [show l ++ [24, 21, 20] = l ++ [24] ++ [21, 20] by simp]
    exact hT3
theorem ans_23 {M : am_M} {np p kd dep : Nat} (hd : dep ≤ 11) (hP : PF M np p kd) (hk : kd = 5) : AnsC 4 M p 23 dep [23, 20, 10] (nI p - M 4 0 8 p) := by
  intro M1 l hT hl
  obtain ⟨P1, P2, P3, P4, P5, P6⟩ := id hP
  have h4 : M1 4 = M 4 := hT.1 4 (by decide)
  simp only [List.length_cons, List.length_nil, List.length_append] at hl
  refine con_of okBodies_answer [some (aR 10 0 0), some (aR 4 0 0), some (aI (nI p)), some (aI (nI 23)), some (aI (nI dep)), none] (some .int) ?_
  intro J hgo
  have hcl : (nI p).toNatClampNeg = p := cl_nI (by omega)
  refine hgo [] _ _ _ _ ?_
  refine brf (nI_nlt (a := 16) (b := dep) (by omega) (by omega)) ?_
  refine cl_ (c_House_isPaper np 0 (nI p) _ (by rw [h4]; exact P1) (by omega)) ?_
  refine brbt (by rw [i3_n (by omega)]; omega) ?_
  refine hgo [] _ _ _ _ ?_
  refine clp (c_Bodies_begin 23 l M1 M hT (by omega)) ?_
  rintro r M2 ⟨rfl, hT2⟩
  (repeat (first | refine brt (by decide) ?_ | refine brf (by decide) ?_))
  refine hgo [] _ _ _ _ ?_
  refine clpe ((ans_20 (dep := dep + 1) (by omega) hP) M2 (l ++ [23]) hT2 (by simp only [List.length_cons, List.length_nil, List.length_append]; omega)) (by rw [nI_1]; try rfl) rfl ?_
  rintro r M3 ⟨rfl, hT3⟩
  refine cl_ (c_Bodies_told1 np p kd M3 M (hT3.1 4 (by decide)) hP) ?_
  refine clpe ((ans_10 (dep := dep + 1) (by omega) hP) M3 (l ++ [23] ++ [20]) hT3 (by simp only [List.length_cons, List.length_nil, List.length_append]; omega)) (by rw [nI_1, hk]; rfl) rfl ?_
  rintro r M4 ⟨rfl, hT4⟩
  refine ⟨?_, ?_⟩
  · rfl
  · rw [show l ++ [23, 20, 10] = l ++ [23] ++ [20] ++ [10] by simp]
    exact hT4
theorem ans_21m {M : am_M} {np p kd dep : Nat} (hd : dep ≤ 11) (hP : PF M np p kd) : AnsC 6 M p 21 dep [21, 20] (nI p + M 4 0 7 p) := by
  intro M1 l hT hl
  obtain ⟨P1, P2, P3, P4, P5, P6⟩ := id hP
  have h4 : M1 4 = M 4 := hT.1 4 (by decide)
  simp only [List.length_cons, List.length_nil, List.length_append] at hl
  refine con_of okBodies_answer [some (aR 10 0 0), some (aR 4 0 0), some (aI (nI p)), some (aI (nI 21)), some (aI (nI dep)), none] (some .int) ?_
  intro J hgo
  have hcl : (nI p).toNatClampNeg = p := cl_nI (by omega)
  refine hgo [] _ _ _ _ ?_
  refine brf (nI_nlt (a := 16) (b := dep) (by omega) (by omega)) ?_
  refine cl_ (c_House_isPaper np 0 (nI p) _ (by rw [h4]; exact P1) (by omega)) ?_
  refine brbt (by rw [i3_n (by omega)]; omega) ?_
  refine hgo [] _ _ _ _ ?_
  refine clp (c_Bodies_begin 21 l M1 M hT (by omega)) ?_
  rintro r M2 ⟨rfl, hT2⟩
  (repeat (first | refine brt (by decide) ?_ | refine brf (by decide) ?_))
  refine hgo [] _ _ _ _ ?_
  refine clpe ((ans_20 (dep := dep + 1) (by omega) hP) M2 (l ++ [21]) hT2 (by simp only [List.length_cons, List.length_nil, List.length_append]; omega)) (by rw [nI_1]; try rfl) rfl ?_
  rintro r M3 ⟨rfl, hT3⟩
  refine ob_ (vp_in_nI (by omega) (by omega)) ?_
  refine ⟨?_, ?_⟩
  · rw [hcl, hT3.1 4 (by decide)]
  · rw [show l ++ [21, 20] = l ++ [21] ++ [20] by simp]
    exact hT3
theorem ans_22m {M : am_M} {np p kd dep : Nat} (hd : dep ≤ 11) (hP : PF M np p kd) : AnsC 6 M p 22 dep [22, 20] (nI p + M 4 0 5 p) := by
  intro M1 l hT hl
  obtain ⟨P1, P2, P3, P4, P5, P6⟩ := id hP
  have h4 : M1 4 = M 4 := hT.1 4 (by decide)
  simp only [List.length_cons, List.length_nil, List.length_append] at hl
  refine con_of okBodies_answer [some (aR 10 0 0), some (aR 4 0 0), some (aI (nI p)), some (aI (nI 22)), some (aI (nI dep)), none] (some .int) ?_
  intro J hgo
  have hcl : (nI p).toNatClampNeg = p := cl_nI (by omega)
  refine hgo [] _ _ _ _ ?_
  refine brf (nI_nlt (a := 16) (b := dep) (by omega) (by omega)) ?_
  refine cl_ (c_House_isPaper np 0 (nI p) _ (by rw [h4]; exact P1) (by omega)) ?_
  refine brbt (by rw [i3_n (by omega)]; omega) ?_
  refine hgo [] _ _ _ _ ?_
  refine clp (c_Bodies_begin 22 l M1 M hT (by omega)) ?_
  rintro r M2 ⟨rfl, hT2⟩
  (repeat (first | refine brt (by decide) ?_ | refine brf (by decide) ?_))
  refine hgo [] _ _ _ _ ?_
  refine clpe ((ans_20 (dep := dep + 1) (by omega) hP) M2 (l ++ [22]) hT2 (by simp only [List.length_cons, List.length_nil, List.length_append]; omega)) (by rw [nI_1]; try rfl) rfl ?_
  rintro r M3 ⟨rfl, hT3⟩
  refine ob_ (vp_in_nI (by omega) (by omega)) ?_
  refine ⟨?_, ?_⟩
  · rw [hcl, hT3.1 4 (by decide)]
  · rw [show l ++ [22, 20] = l ++ [22] ++ [20] by simp]
    exact hT3
theorem ans_23m {M : am_M} {np p kd dep : Nat} (hd : dep ≤ 11) (hP : PF M np p kd) (hk : kd = 5) : AnsC 6 M p 23 dep [23, 20, 10] (nI p - M 4 0 8 p) := by
  intro M1 l hT hl
  obtain ⟨P1, P2, P3, P4, P5, P6⟩ := id hP
  have h4 : M1 4 = M 4 := hT.1 4 (by decide)
  simp only [List.length_cons, List.length_nil, List.length_append] at hl
  refine con_of okBodies_answer [some (aR 10 0 0), some (aR 4 0 0), some (aI (nI p)), some (aI (nI 23)), some (aI (nI dep)), none] (some .int) ?_
  intro J hgo
  have hcl : (nI p).toNatClampNeg = p := cl_nI (by omega)
  refine hgo [] _ _ _ _ ?_
  refine brf (nI_nlt (a := 16) (b := dep) (by omega) (by omega)) ?_
  refine cl_ (c_House_isPaper np 0 (nI p) _ (by rw [h4]; exact P1) (by omega)) ?_
  refine brbt (by rw [i3_n (by omega)]; omega) ?_
  refine hgo [] _ _ _ _ ?_
  refine clp (c_Bodies_begin 23 l M1 M hT (by omega)) ?_
  rintro r M2 ⟨rfl, hT2⟩
  (repeat (first | refine brt (by decide) ?_ | refine brf (by decide) ?_))
  refine hgo [] _ _ _ _ ?_
  refine clpe ((ans_20 (dep := dep + 1) (by omega) hP) M2 (l ++ [23]) hT2 (by simp only [List.length_cons, List.length_nil, List.length_append]; omega)) (by rw [nI_1]; try rfl) rfl ?_
  rintro r M3 ⟨rfl, hT3⟩
  refine cl_ (c_Bodies_told1 np p kd M3 M (hT3.1 4 (by decide)) hP) ?_
  refine clpe ((ans_10 (dep := dep + 1) (by omega) hP) M3 (l ++ [23] ++ [20]) hT3 (by simp only [List.length_cons, List.length_nil, List.length_append]; omega)) (by rw [nI_1, hk]; rfl) rfl ?_
  rintro r M4 ⟨rfl, hT4⟩
  refine ⟨?_, ?_⟩
  · rfl
  · rw [show l ++ [23, 20, 10] = l ++ [23] ++ [20] ++ [10] by simp]
    exact hT4
def mkB (kd : Nat) : Nat := if kd = 1 then 21 else if kd = 4 then 24 else if kd = 5 then 23 else 22
def mkT (kd : Nat) : List Nat := if kd = 1 then [21, 20] else if kd = 4 then [24, 21, 20] else if kd = 5 then [23, 20, 10] else [22, 20]
def mkV (kd : Nat) (p re pr md : Int32) : Int32 := if kd = 1 then p + pr else if kd = 4 then p + pr - 1000 else if kd = 5 then p - re else p + md
theorem ans_mark {M : am_M} {np p kd dep : Nat} (hd : dep ≤ 10) (hP : PF M np p kd) : AnsC 6 M p (mkB kd) dep (mkT kd) (mkV kd (nI p) (M 4 0 8 p) (M 4 0 7 p) (M 4 0 5 p)) := by
  have hk : kd = 1 ∨ kd = 2 ∨ kd = 3 ∨ kd = 4 ∨ kd = 5 := by
    have := hP.2.2.2.2
    omega
  rcases hk with rfl | rfl | rfl | rfl | rfl
  · exact ans_21m (by omega) hP
  · exact ans_22m (by omega) hP
  · exact ans_22m (by omega) hP
  · exact ans_24 hd hP
  · exact ans_23m (by omega) hP rfl
theorem mkL (kd : Nat) : (mkT kd).length ≤ 3 := by
  unfold mkT
  split
  · decide
  · split
    · decide
    · split <;> decide
theorem mkN (kd : Nat) (h1 : 1 ≤ kd) (h5 : kd ≤ 5) : (am_sc 2).getD kd 0 = nI (mkB kd) := by
  have hk : kd = 1 ∨ kd = 2 ∨ kd = 3 ∨ kd = 4 ∨ kd = 5 := by omega
  rcases hk with rfl | rfl | rfl | rfl | rfl <;> rfl
theorem ans_11 {M : am_M} {np p kd dep : Nat} (hd : dep ≤ 9) (hP : PF M np p kd) : AnsC 7 M p 11 dep ([11, 10] ++ mkT kd) (M 4 0 8 p + mkV kd (nI p) (M 4 0 8 p) (M 4 0 7 p) (M 4 0 5 p)) := by
  intro M1 l hT hl
  obtain ⟨P1, P2, P3, P4, P5, P6⟩ := id hP
  have h4 : M1 4 = M 4 := hT.1 4 (by decide)
  simp only [List.length_cons, List.length_nil, List.length_append] at hl
  refine con_of okBodies_answer [some (aR 10 0 0), some (aR 4 0 0), some (aI (nI p)), some (aI (nI 11)), some (aI (nI dep)), none] (some .int) ?_
  intro J hgo
  have hcl : (nI p).toNatClampNeg = p := cl_nI (by omega)
  refine hgo [] _ _ _ _ ?_
  refine brf (nI_nlt (a := 16) (b := dep) (by omega) (by omega)) ?_
  refine cl_ (c_House_isPaper np 0 (nI p) _ (by rw [h4]; exact P1) (by omega)) ?_
  refine brbt (by rw [i3_n (by omega)]; omega) ?_
  refine hgo [] _ _ _ _ ?_
  refine clp (c_Bodies_begin 11 l M1 M hT (by omega)) ?_
  rintro r M2 ⟨rfl, hT2⟩
  (repeat (first | refine brt (by decide) ?_ | refine brf (by decide) ?_))
  refine hgo [] _ _ _ _ ?_
  have hmk := mkL kd
  refine clpe ((ans_10 (dep := dep + 1) (by omega) hP) M2 (l ++ [11]) hT2 (by simp only [List.length_cons, List.length_nil, List.length_append]; omega)) (by rw [nI_1]; try rfl) rfl ?_
  rintro r M3 ⟨rfl, hT3⟩
  refine cl_ (c_Bodies_told2 np p kd M3 M (hT3.1 4 (by decide)) hP) ?_
  refine clpe ((ans_mark (dep := dep + 1) (by omega) hP) M3 (l ++ [11] ++ [10]) hT3 (by simp only [List.length_cons, List.length_nil, List.length_append]; omega)) (by rw [nI_1, mkN kd P5 P6]; try rfl) rfl ?_
  rintro r M4 ⟨rfl, hT4⟩
  refine ⟨?_, ?_⟩
  · rfl
  · rw [show l ++ ([11, 10] ++ mkT kd) = l ++ [11] ++ [10] ++ mkT kd by simp]
    exact hT4
theorem ans_11s {M : am_M} {np p kd dep : Nat} (hd : dep ≤ 9) (hP : PF M np p kd) : AnsC 8 M p 11 dep ([11, 10] ++ mkT kd) (M 4 0 8 p + mkV kd (nI p) (M 4 0 8 p) (M 4 0 7 p) (M 4 0 5 p)) := by
  intro M1 l hT hl
  obtain ⟨P1, P2, P3, P4, P5, P6⟩ := id hP
  have h4 : M1 4 = M 4 := hT.1 4 (by decide)
  simp only [List.length_cons, List.length_nil, List.length_append] at hl
  refine con_of okBodies_answer [some (aR 10 0 0), some (aR 4 0 0), some (aI (nI p)), some (aI (nI 11)), some (aI (nI dep)), none] (some .int) ?_
  intro J hgo
  have hcl : (nI p).toNatClampNeg = p := cl_nI (by omega)
  refine hgo [] _ _ _ _ ?_
  refine brf (nI_nlt (a := 16) (b := dep) (by omega) (by omega)) ?_
  refine cl_ (c_House_isPaper np 0 (nI p) _ (by rw [h4]; exact P1) (by omega)) ?_
  refine brbt (by rw [i3_n (by omega)]; omega) ?_
  refine hgo [] _ _ _ _ ?_
  refine clp (c_Bodies_begin 11 l M1 M hT (by omega)) ?_
  rintro r M2 ⟨rfl, hT2⟩
  (repeat (first | refine brt (by decide) ?_ | refine brf (by decide) ?_))
  refine hgo [] _ _ _ _ ?_
  have hmk := mkL kd
  refine clpe ((ans_10 (dep := dep + 1) (by omega) hP) M2 (l ++ [11]) hT2 (by simp only [List.length_cons, List.length_nil, List.length_append]; omega)) (by rw [nI_1]; try rfl) rfl ?_
  rintro r M3 ⟨rfl, hT3⟩
  refine cl_ (c_Bodies_told2 np p kd M3 M (hT3.1 4 (by decide)) hP) ?_
  refine clpe ((ans_mark (dep := dep + 1) (by omega) hP) M3 (l ++ [11] ++ [10]) hT3 (by simp only [List.length_cons, List.length_nil, List.length_append]; omega)) (by rw [nI_1, mkN kd P5 P6]; try rfl) rfl ?_
  rintro r M4 ⟨rfl, hT4⟩
  refine ⟨?_, ?_⟩
  · rfl
  · rw [show l ++ ([11, 10] ++ mkT kd) = l ++ [11] ++ [10] ++ mkT kd by simp]
    exact hT4
theorem ans_12 {M : am_M} {np p kd dep : Nat} (hd : dep ≤ 8) (hP : PF M np p kd) : AnsC 8 M p 12 dep ([12, 11, 10] ++ mkT kd) (0 - (M 4 0 8 p + mkV kd (nI p) (M 4 0 8 p) (M 4 0 7 p) (M 4 0 5 p))) := by
  intro M1 l hT hl
  obtain ⟨P1, P2, P3, P4, P5, P6⟩ := id hP
  have h4 : M1 4 = M 4 := hT.1 4 (by decide)
  simp only [List.length_cons, List.length_nil, List.length_append] at hl
  refine con_of okBodies_answer [some (aR 10 0 0), some (aR 4 0 0), some (aI (nI p)), some (aI (nI 12)), some (aI (nI dep)), none] (some .int) ?_
  intro J hgo
  have hcl : (nI p).toNatClampNeg = p := cl_nI (by omega)
  refine hgo [] _ _ _ _ ?_
  refine brf (nI_nlt (a := 16) (b := dep) (by omega) (by omega)) ?_
  refine cl_ (c_House_isPaper np 0 (nI p) _ (by rw [h4]; exact P1) (by omega)) ?_
  refine brbt (by rw [i3_n (by omega)]; omega) ?_
  refine hgo [] _ _ _ _ ?_
  refine clp (c_Bodies_begin 12 l M1 M hT (by omega)) ?_
  rintro r M2 ⟨rfl, hT2⟩
  (repeat (first | refine brt (by decide) ?_ | refine brf (by decide) ?_))
  refine hgo [] _ _ _ _ ?_
  have hmk := mkL kd
  refine clpe ((ans_11 (dep := dep + 1) (by omega) hP) M2 (l ++ [12]) hT2 (by simp only [List.length_cons, List.length_nil, List.length_append]; omega)) (by rw [nI_1]; try rfl) rfl ?_
  rintro r M3 ⟨rfl, hT3⟩
  refine ⟨?_, ?_⟩
  · rfl
  · rw [show l ++ ([12, 11, 10] ++ mkT kd) = l ++ [12] ++ ([11, 10] ++ mkT kd) by simp]
    exact hT3
theorem ans_10s {M : am_M} {np p kd dep : Nat} (hd : dep ≤ 12) (hP : PF M np p kd) : AnsC 8 M p 10 dep [10] (M 4 0 8 p) := by
  intro M1 l hT hl
  obtain ⟨P1, P2, P3, P4, P5, P6⟩ := id hP
  have h4 : M1 4 = M 4 := hT.1 4 (by decide)
  simp only [List.length_cons, List.length_nil, List.length_append] at hl
  refine con_of okBodies_answer [some (aR 10 0 0), some (aR 4 0 0), some (aI (nI p)), some (aI (nI 10)), some (aI (nI dep)), none] (some .int) ?_
  intro J hgo
  have hcl : (nI p).toNatClampNeg = p := cl_nI (by omega)
  refine hgo [] _ _ _ _ ?_
  refine brf (nI_nlt (a := 16) (b := dep) (by omega) (by omega)) ?_
  refine cl_ (c_House_isPaper np 0 (nI p) _ (by rw [h4]; exact P1) (by omega)) ?_
  refine brbt (by rw [i3_n (by omega)]; omega) ?_
  refine hgo [] _ _ _ _ ?_
  refine clp (c_Bodies_begin 10 l M1 M hT (by omega)) ?_
  rintro r M2 ⟨rfl, hT2⟩
  (repeat (first | refine brt (by decide) ?_ | refine brf (by decide) ?_))
  refine hgo [] _ _ _ _ ?_
  refine ob_ (vp_in_nI (by omega) (by omega)) ?_
  refine ⟨?_, hT2⟩
  rw [hcl, hT2.1 4 (by decide)]
theorem ans_13s {M : am_M} {np p kd dep : Nat} (hd : dep ≤ 11) (hP : PF M np p kd) : AnsC 8 M p 13 dep [13, 10] (M 4 0 8 p - M 4 0 7 p) := by
  intro M1 l hT hl
  obtain ⟨P1, P2, P3, P4, P5, P6⟩ := id hP
  have h4 : M1 4 = M 4 := hT.1 4 (by decide)
  simp only [List.length_cons, List.length_nil, List.length_append] at hl
  refine con_of okBodies_answer [some (aR 10 0 0), some (aR 4 0 0), some (aI (nI p)), some (aI (nI 13)), some (aI (nI dep)), none] (some .int) ?_
  intro J hgo
  have hcl : (nI p).toNatClampNeg = p := cl_nI (by omega)
  refine hgo [] _ _ _ _ ?_
  refine brf (nI_nlt (a := 16) (b := dep) (by omega) (by omega)) ?_
  refine cl_ (c_House_isPaper np 0 (nI p) _ (by rw [h4]; exact P1) (by omega)) ?_
  refine brbt (by rw [i3_n (by omega)]; omega) ?_
  refine hgo [] _ _ _ _ ?_
  refine clp (c_Bodies_begin 13 l M1 M hT (by omega)) ?_
  rintro r M2 ⟨rfl, hT2⟩
  (repeat (first | refine brt (by decide) ?_ | refine brf (by decide) ?_))
  refine hgo [] _ _ _ _ ?_
  refine clpe ((ans_10 (dep := dep + 1) (by omega) hP) M2 (l ++ [13]) hT2 (by simp only [List.length_cons, List.length_nil, List.length_append]; omega)) (by rw [nI_1]; try rfl) rfl ?_
  rintro r M3 ⟨rfl, hT3⟩
  refine ob_ (vp_in_nI (by omega) (by omega)) ?_
  refine ⟨?_, ?_⟩
  · rw [hcl, hT3.1 4 (by decide)]
  · rw [show l ++ [13, 10] = l ++ [13] ++ [10] by simp]
    exact hT3
theorem ans_14s {M : am_M} {np p kd dep : Nat} (hd : dep ≤ 10) (hP : PF M np p kd) : AnsC 8 M p 14 dep [14, 13, 10] (2 * (M 4 0 8 p - M 4 0 7 p)) := by
  intro M1 l hT hl
  obtain ⟨P1, P2, P3, P4, P5, P6⟩ := id hP
  have h4 : M1 4 = M 4 := hT.1 4 (by decide)
  simp only [List.length_cons, List.length_nil, List.length_append] at hl
  refine con_of okBodies_answer [some (aR 10 0 0), some (aR 4 0 0), some (aI (nI p)), some (aI (nI 14)), some (aI (nI dep)), none] (some .int) ?_
  intro J hgo
  have hcl : (nI p).toNatClampNeg = p := cl_nI (by omega)
  refine hgo [] _ _ _ _ ?_
  refine brf (nI_nlt (a := 16) (b := dep) (by omega) (by omega)) ?_
  refine cl_ (c_House_isPaper np 0 (nI p) _ (by rw [h4]; exact P1) (by omega)) ?_
  refine brbt (by rw [i3_n (by omega)]; omega) ?_
  refine hgo [] _ _ _ _ ?_
  refine clp (c_Bodies_begin 14 l M1 M hT (by omega)) ?_
  rintro r M2 ⟨rfl, hT2⟩
  (repeat (first | refine brt (by decide) ?_ | refine brf (by decide) ?_))
  refine hgo [] _ _ _ _ ?_
  refine clpe ((ans_13 (dep := dep + 1) (by omega) hP) M2 (l ++ [14]) hT2 (by simp only [List.length_cons, List.length_nil, List.length_append]; omega)) (by rw [nI_1]; try rfl) rfl ?_
  rintro r M3 ⟨rfl, hT3⟩
  refine ⟨?_, ?_⟩
  · rfl
  · rw [show l ++ [14, 13, 10] = l ++ [14] ++ [13, 10] by simp]
    exact hT3
def szB (kd : Nat) : Nat := if kd = 1 then 11 else if kd = 2 then 13 else if kd = 3 then 14 else if kd = 4 then 12 else 10
def szT (kd : Nat) : List Nat := if kd = 1 then [11, 10] ++ mkT kd else if kd = 2 then [13, 10] else if kd = 3 then [14, 13, 10] else if kd = 4 then [12, 11, 10] ++ mkT kd else [10]
def szV (kd : Nat) (p re pr md : Int32) : Int32 := if kd = 1 then re + mkV kd p re pr md else if kd = 2 then re - pr else if kd = 3 then 2 * (re - pr) else if kd = 4 then 0 - (re + mkV kd p re pr md) else re
theorem ans_size {M : am_M} {np p kd dep : Nat} (hd : dep ≤ 8) (hP : PF M np p kd) : AnsC 8 M p (szB kd) dep (szT kd) (szV kd (nI p) (M 4 0 8 p) (M 4 0 7 p) (M 4 0 5 p)) := by
  have hk : kd = 1 ∨ kd = 2 ∨ kd = 3 ∨ kd = 4 ∨ kd = 5 := by
    have := hP.2.2.2.2
    omega
  rcases hk with rfl | rfl | rfl | rfl | rfl
  · exact ans_11s (by omega) hP
  · exact ans_13s (by omega) hP
  · exact ans_14s (by omega) hP
  · exact ans_12 hd hP
  · exact ans_10s (by omega) hP
theorem szN (kd : Nat) (h1 : 1 ≤ kd) (h5 : kd ≤ 5) : (am_sc 1).getD kd 0 = nI (szB kd) ∧ (szT kd).length ≤ 16 := by
  have hk : kd = 1 ∨ kd = 2 ∨ kd = 3 ∨ kd = 4 ∨ kd = 5 := by omega
  rcases hk with rfl | rfl | rfl | rfl | rfl <;> exact ⟨rfl, by decide⟩
theorem c_Bodies_askSize (np p kd : Nat) (M : am_M) (hP : PF M np p kd) : ConP 9 mBodies_askSize [aR 10 0 0, aR 4 0 0, aI (nI p)] M (fun r M2 => r = some (aI (szV kd (nI p) (M 4 0 8 p) (M 4 0 7 p) (M 4 0 5 p))) ∧ TRc M2 M (szT kd)) := by
  refine con_of okBodies_askSize [some (aR 10 0 0), some (aR 4 0 0), some (aI (nI p))] (some .int) ?_
  intro J hgo
  obtain ⟨s1, s2⟩ := szN kd hP.2.2.2.2.1 hP.2.2.2.2.2
  have hT : TRc (sA M 10 0 0 (upd (M 10 0 0) 1 0)) M [] := ⟨fun k hk => sA_k hk, rfl, fun i hi => absurd hi (Nat.not_lt_zero i)⟩
  refine hgo [] _ _ _ _ ?_
  refine cl_ (c_Bodies_told1 np p kd _ M rfl hP) ?_
  refine clpe (ans_size (dep := 0) (by omega) hP _ [] hT (by rw [List.length_nil]; omega)) (by rw [s1]; try rfl) rfl ?_
  rintro r M2 ⟨rfl, h2⟩
  exact ⟨rfl, h2⟩
theorem c_Bodies_askMark (np p kd : Nat) (M : am_M) (hP : PF M np p kd) : ConP 9 mBodies_askMark [aR 10 0 0, aR 4 0 0, aI (nI p)] M (fun r M2 => r = some (aI (mkV kd (nI p) (M 4 0 8 p) (M 4 0 7 p) (M 4 0 5 p))) ∧ TRc M2 M (mkT kd)) := by
  refine con_of okBodies_askMark [some (aR 10 0 0), some (aR 4 0 0), some (aI (nI p))] (some .int) ?_
  intro J hgo
  have s1 := mkN kd hP.2.2.2.2.1 hP.2.2.2.2.2
  have s2 := mkL kd
  have hT : TRc (sA M 10 0 0 (upd (M 10 0 0) 1 0)) M [] := ⟨fun k hk => sA_k hk, rfl, fun i hi => absurd hi (Nat.not_lt_zero i)⟩
  refine hgo [] _ _ _ _ ?_
  refine cl_ (c_Bodies_told2 np p kd _ M rfl hP) ?_
  refine clpe (ans_mark (dep := 0) (by omega) hP _ [] hT (by rw [List.length_nil]; omega)) (by rw [s1]; try rfl) rfl ?_
  rintro r M2 ⟨rfl, h2⟩
  exact ⟨rfl, h2⟩
