def KO (M2 M : am_M) : Prop := (∀ k, k ≠ 7 → M2 k = M k) ∧ (∀ o, o ≠ 0 → o ≠ 4 → M2 7 0 o = M 7 0 o) ∧ ∀ i, i ≠ 8 → M2 7 0 0 i = M 7 0 0 i
theorem KO.st {M2 M : am_M} {f : Nat → Int32} {x : Int32} (h : KO M2 M) : KO (sA (sA M2 7 0 4 f) 7 0 0 (upd (M2 7 0 0) 8 x)) M := ⟨fun k hk => by rw [sA_k hk, sA_k hk]; exact h.1 k hk, fun o h0 h4 => by rw [sA_o h0, sA_o h4]; exact h.2.1 o h0 h4, fun i hi => (show upd (M2 7 0 0) 8 x i = _ from (upd_n hi).trans (h.2.2 i hi))⟩
theorem fo_S {h : Nat → Int32} {S : Nat → Bool} {p : Nat} (hf : fo h S p = true) : Seen h p = true ∧ S p = false ∧ ∀ q, q < 10 → Ah h p q = true → S q = true := by
  unfold fo at hf
  rw [Bool.and_eq_true, Bool.and_eq_true] at hf
  obtain ⟨⟨g1, g2⟩, g3⟩ := hf
  refine ⟨g1, by simpa using g2, fun q hq ha => ?_⟩
  by_cases hs : S q = true
  · exact hs
  · have : exB (fun q => Ah h p q && !S q) 10 = true := exB_iff.mpr ⟨q, hq, by simp [ha, hs]⟩
    rw [this] at g3
    cases g3
theorem c_Facts_arrange (h : Nat → Int32) (M : am_M) (h1 : M 7 0 0 2 = bs (Seen h)) (h2 : ∀ p, p < 10 → M 7 0 2 p = bs (Ah h p)) (h8 : M 7 0 0 8 = 0) : ConP 4 mFacts_arrange [aR 7 0 0] M (fun r M2 => r = none ∧ KO M2 M ∧ ∃ m g, OrdG h m g ∧ M2 7 0 0 8 = nI m ∧ ∀ i, i < m → M2 7 0 4 i = nI (g i)) := by
  refine con_of okFacts_arrange [some (aR 7 0 0), none, none, none] none ?_
  intro J hgo
  have loop : ∀ m i iv x (z : Option am_V) (g : Nat → Nat) M2, m = 10 - i → i ≤ 10 → iv = nI i → x = bs (gG g i) → cB (gG g i) 10 = i → KO M2 M → M2 7 0 0 8 = nI i → (∀ j, j < i → IsL (fo h (gG g j)) (g j) ∧ M2 7 0 4 j = nI (g j)) → J 4 [some (aR 7 0 0), some (aI x), some (aI iv), z] [] M2 := by
    intro m
    induction m with
    | zero =>
      intro i iv x z g M2 hm hi hv hx hc hK h8 hI
      obtain rfl : i = 10 := by omega
      subst hv
      refine hgo [] _ _ _ _ ?_
      refine brt (by decide) ?_
      refine hgo [] _ _ _ _ ?_
      refine ⟨rfl, hK, 10, g, ⟨by omega, fun j hj => (hI j hj).1, fun p hp => ?_⟩, h8, fun j hj => (hI j hj).2⟩
      have := cB_full hc p hp
      unfold fo
      rw [this]
      simp
    | succ m ih =>
      intro i iv x z g M2 hm hi hv hx hc hK h8 hI
      subst hv hx
      have hi10 : i < 10 := by omega
      have g1 : M2 7 0 0 2 = bs (Seen h) := (hK.2.2 2 (by decide)).trans h1
      have g2 : ∀ p, p < 10 → M2 7 0 2 p = bs (Ah h p) := fun p hp => by rw [hK.2.1 2 (by decide) (by decide)]; exact h2 p hp
      refine hgo [] _ _ _ _ ?_
      refine brf (nI_ge (b := 10) hi10 (by omega)) ?_
      rcases IsL_or (fo h (gG g i)) with ⟨p, hp⟩ | hn
      · refine cl_ (c_least h (gG g i) (nI p) M2 g1 g2 (Or.inl ⟨p, hp, rfl⟩)) ?_
        have hp10 := hp.1
        obtain ⟨-, f2, -⟩ := fo_S hp.2.1
        refine brt (nI_le (a := 0) (Nat.zero_le _) (by omega)) ?_
        refine hgo [] _ _ _ _ ?_
        refine ob_ (by rw [h8]; exact vp_in_nI (by omega) (by omega)) ?_
        have hcl : (M2 7 0 0 8).toNatClampNeg = i := by rw [h8]; exact cl_nI (by omega)
        have gc : ∀ j, j ≤ i → gG (fun j => if j = i then p else g j) j = gG g j := fun j hj => gG_cong (fun a ha => if_neg (by omega))
        have gs : gG (fun j => if j = i then p else g j) (i + 1) = fun q => gG g i q || (p == q) := by
          funext q
          show (gG (fun j => if j = i then p else g j) i q || ((if i = i then p else g i) == q)) = _
          rw [gc i (Nat.le_refl _), if_pos rfl]
        refine ih (i + 1) _ _ _ (fun j => if j = i then p else g j) _ (by omega) (by omega) (nI_1 i) ?_ ?_ hK.st ?_ (fun j hj => ?_)
        · rw [bs_one hp10, bs_or, gs]
          apply bs_cong
          intro q hq
          congr 1
          by_cases e : q = p
          · subst e
            simp
          · have e2 : (p == q) = false := beq_eq_false_iff_ne.mpr (fun x => e x.symm)
            rw [e2]
            simp [e]
        · rw [gs, cB_add hp10 f2, hc]
        · show M2 7 0 0 8 + 1 = _
          rw [h8, nI_1]
        · by_cases e : j = i
          · subst e
            rw [gc j (Nat.le_refl _)]
            refine ⟨?_, ?_⟩
            · rw [if_pos rfl]
              exact hp
            · show upd (M2 7 0 4) (M2 7 0 0 8).toNatClampNeg (nI p) j = _
              rw [hcl, upd_s, if_pos rfl]
          · rw [gc j (by omega), if_neg e]
            refine ⟨(hI j (by omega)).1, ?_⟩
            show upd (M2 7 0 4) (M2 7 0 0 8).toNatClampNeg (nI p) j = _
            rw [hcl, upd_n e]
            exact (hI j (by omega)).2
      · refine cl_ (c_least h (gG g i) (-1) M2 g1 g2 (Or.inr ⟨rfl, hn⟩)) ?_
        refine brf (by decide) ?_
        exact ⟨rfl, hK, i, g, ⟨by omega, fun j hj => (hI j hj).1, hn⟩, h8, fun j hj => (hI j hj).2⟩
  refine hgo [4] _ _ _ _ ?_
  exact loop _ 0 _ _ _ (fun _ => 0) M rfl (by omega) rfl (by rw [← bs_0]; rfl) rfl ⟨fun _ _ => rfl, fun _ _ _ => rfl, fun _ _ => rfl⟩ h8 (fun j hj => by omega)
