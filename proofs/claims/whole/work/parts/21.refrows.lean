/-! the reference: small helpers, rows -/
theorem l64 {a b : Int32} : a.toInt64 ≤ b.toInt64 ↔ a ≤ b := by
  rw [Int64.le_iff_toInt_le, Int32.le_iff_toInt_le, Int32.toInt_toInt64, Int32.toInt_toInt64]
theorem l64lt {a b : Int32} : a.toInt64 < b.toInt64 ↔ a < b := by
  rw [Int64.lt_iff_toInt_lt, Int32.lt_iff_toInt_lt, Int32.toInt_toInt64, Int32.toInt_toInt64]
theorem c_Ref_inL (v lo hi : Int64) (M : am_M) : Con 1 mRef_in [aL v, aL lo, aL hi] M (some (aI (b2i (lo ≤ v ∧ v ≤ hi)))) M := by
  refine con_of okRef_in [some (aL v), none, some (aL lo), none, some (aL hi), none] (some .boolean) ?_
  intro J hgo
  refine hgo [] _ _ _ _ ?_
  refine br_ (fun h1 => ?_) (fun h1 => ?_)
  · refine hgo [] _ _ _ _ ?_
    refine ob_ (by decide) ⟨?_, rfl⟩
    rw [b2i_f (fun q => absurd q.1 (Int64.not_le.mpr ((lg_cmp_lt _ _).mp h1)))]
  · refine br_ (fun h2 => ?_) (fun h2 => ?_)
    · refine hgo [] _ _ _ _ ?_
      refine ob_ (by decide) ⟨?_, rfl⟩
      rw [b2i_f (fun q => absurd q.2 (Int64.not_le.mpr ((lg_cmp_gt _ _).mp h2)))]
    · refine hgo [] _ _ _ _ ?_
      refine ob_ (by decide) ⟨?_, rfl⟩
      rw [b2i_t ⟨Int64.not_lt.mp (fun q => h1 ((lg_cmp_lt _ _).mpr q)), Int64.not_lt.mp (fun q => h2 ((lg_cmp_gt _ _).mpr q))⟩]
theorem b2i_iff {p q : Prop} [Decidable p] [Decidable q] (h : p ↔ q) : b2i p = b2i q := by
  by_cases hp : p
  · rw [b2i_t hp, b2i_t (h.mp hp)]
  · rw [b2i_f hp, b2i_f (fun x => hp (h.mpr x))]
/-- in, over ints -/
theorem c_Ref_in (x l h : Int32) (v lo hi : Int64) (hv : v = x.toInt64) (hl : lo = l.toInt64) (hh : hi = h.toInt64) (M : am_M) : Con 1 mRef_in [aL v, aL lo, aL hi] M (some (aI (b2i (l ≤ x ∧ x ≤ h)))) M := by
  subst hv; subst hl; subst hh
  have := c_Ref_inL x.toInt64 l.toInt64 h.toInt64 M
  rw [b2i_iff (q := l ≤ x ∧ x ≤ h) (by rw [l64, l64])] at this
  exact this
theorem c_Ref_isRow (x : Int32) (M : am_M) : Con 2 mRef_isRow [aI x] M (some (aI (b2i (0 ≤ x ∧ x < 8)))) M := by
  refine con_of okRef_isRow [some (aI x)] (some .boolean) ?_
  intro J hgo
  refine hgo [] _ _ _ _ ?_
  refine cl_ (c_Ref_in x 0 7 _ _ _ rfl (by decide) (by decide) _) ?_
  refine ob_ nar_b ⟨?_, rfl⟩
  rw [b2i_iff (q := 0 ≤ x ∧ x < 8) (by (simp only [vp_in_iff, i3_lt, i3_le, i3_eq, Int32.reduceToInt, i3_m1] <;> omega))]
theorem c_Ref_finding (n : Int32) (M : am_M) : Con 1 mRef_finding [aR 11 0 0, aI n] M (some (aI (-1000010 - n))) (sA M 11 0 0 (upd (M 11 0 0) 1 n)) := by
  refine con_of okRef_finding [some (aR 11 0 0), some (aI n)] (some .int) ?_
  intro J hgo
  refine hgo [] _ _ _ _ ?_
  (first | exact ⟨rfl, rfl⟩ | (refine ⟨?_, rfl⟩; (first | rfl | (simp [b2i]; done) | (rw [b2i_t]; simp only [vp_in_iff, i3_lt, i3_le, i3_eq, Int32.reduceToInt, i3_m1] <;> omega) | (rw [b2i_f]; simp only [vp_in_iff, i3_lt, i3_le, i3_eq, Int32.reduceToInt, i3_m1] <;> omega))))   -- leaf1
/-- the reference's start of a call -/
def rT (M : am_M) : am_M := sA M 11 0 0 (upd (M 11 0 0) 0 0)
/-- its state's number -/
def rS (M : am_M) (x : Int32) : am_M := sA M 11 0 0 (upd (M 11 0 0) 1 x)
theorem c_Ref_row_bad (a b c : Int32) (M : am_M) (h : ¬ ((0 ≤ a ∧ a < 8) ∧ (0 ≤ b ∧ b ≤ 2) ∧ c ≤ 40)) : Con 3 mRef_row [aR 11 0 0, aI a, aI b, aI c] M (some (aI (-1000001))) (rT M) := by
  refine con_of okRef_row [some (aR 11 0 0), some (aI a), some (aI b), some (aI c), none] (some .int) ?_
  intro J hgo
  refine hgo [] _ _ _ _ ?_
  refine cl_ (c_Ref_isRow _ _) ?_
  refine brb (fun h1 => ?_) (fun h1 => ?_)
  · refine hgo [] _ _ _ _ ?_
    exact ⟨rfl, rfl⟩
  · refine cl_ (c_Ref_in b 0 2 _ _ _ rfl (by decide) (by decide) _) ?_
    refine brb (fun h2 => ?_) (fun h2 => ?_)
    · refine hgo [] _ _ _ _ ?_
      exact ⟨rfl, rfl⟩
    · refine br_ (fun h3 => absurd ⟨h1, h2, h3⟩ h) (fun h3 => ?_)
      exact ⟨rfl, rfl⟩
theorem c_Ref_row_neg (a b c : Int32) (M : am_M) (h1 : 0 ≤ a ∧ a < 8) (h2 : 0 ≤ b ∧ b ≤ 2) (h3 : c < 0) : Con 3 mRef_row [aR 11 0 0, aI a, aI b, aI c] M (some (aI (-1000014))) (rS (rS (rT M) 0) 4) := by
  refine con_of okRef_row [some (aR 11 0 0), some (aI a), some (aI b), some (aI c), none] (some .int) ?_
  intro J hgo
  refine hgo [] _ _ _ _ ?_
  refine cl_ (c_Ref_isRow _ _) ?_
  refine brbt h1 ?_
  refine cl_ (c_Ref_in b 0 2 _ _ _ rfl (by decide) (by decide) _) ?_
  refine brbt h2 ?_
  refine brt (by (simp only [vp_in_iff, i3_lt, i3_le, i3_eq, Int32.reduceToInt, i3_m1] at h3 ⊢ <;> omega)) ?_
  refine hgo [] _ _ _ _ ?_
  refine brf (by (simp only [vp_in_iff, i3_lt, i3_le, i3_eq, Int32.reduceToInt, i3_m1] at h3 ⊢ <;> omega)) ?_
  refine cl_ (c_Ref_finding _ _) ?_
  exact ⟨rfl, rfl⟩
theorem c_Ref_row_ok (r n : Nat) (b : Int32) (M : am_M) (hr : r < 8) (hb : 0 ≤ b ∧ b ≤ 2) (hn : n ≤ 40) : Con 3 mRef_row [aR 11 0 0, aI (nI r), aI b, aI (nI n)] M (some (aI (nI n))) (sA (sA (sA (rS (rT M) 0) 11 0 1 (upd (M 11 0 1) r b)) 11 0 2 (upd (M 11 0 2) r (nI n))) 11 0 3 (zf (M 11 0 3) (40 * r) (40 * r + 40) 0)) := by
  have e2 : vp_in (nI r) 8 := vp_in_nI hr (by omega)
  have e3 : (nI r).toNatClampNeg = r := cl_nI (by omega)
  refine con_of okRef_row [some (aR 11 0 0), some (aI (nI r)), some (aI b), some (aI (nI n)), none] (some .int) ?_
  intro J hgo
  have loop : ∀ m k kv M2, m = 40 - k → k ≤ 40 → kv = nI k → M2 = sA (sA (sA (rS (rT M) 0) 11 0 1 (upd (M 11 0 1) r b)) 11 0 2 (upd (M 11 0 2) r (nI n))) 11 0 3 (zf (M 11 0 3) (40 * r) (40 * r + k) 0) → J 65 [some (aR 11 0 0), some (aI (nI r)), some (aI b), some (aI (nI n)), some (aI kv)] [] M2 := by
    intro m
    induction m with
    | zero =>
      intro k kv M2 hm hk hv hM
      obtain rfl : k = 40 := by omega
      subst hv
      refine hgo [] _ _ _ _ ?_
      refine brt (by decide) ?_
      refine hgo [] _ _ _ _ ?_
      exact ⟨rfl, hM⟩
    | succ m ih =>
      intro k kv M2 hm hk hv hM
      subst hv
      have e6 : 40 * nI r + nI k = nI (40 * r + k) := by
        show nI 40 * nI r + nI k = _
        rw [pk_mul, nI_add]
      refine hgo [] _ _ _ _ ?_
      refine brf (nI_ge (b := 40) (by omega) (by omega)) ?_
      refine ob_ (by rw [e6]; exact vp_in_nI (by omega) (by omega)) ?_
      refine ih (k + 1) _ _ (by omega) (by omega) (nI_1 k) ?_
      rw [hM, e6, cl_nI (by omega), sA_s, sA_sA, zf_up (by omega), Nat.add_assoc]
  refine hgo [65] _ _ _ _ ?_
  refine cl_ (c_Ref_isRow _ _) ?_
  refine brbt (nin (n := 8) hr (by omega)) ?_
  refine cl_ (c_Ref_in b 0 2 _ _ _ rfl (by decide) (by decide) _) ?_
  refine brbt hb ?_
  refine brt (nI_le (b := 40) hn (by omega)) ?_
  refine hgo [65] _ _ _ _ ?_
  refine brt (nI_pos' (by omega)) ?_
  refine hgo [65] _ _ _ _ ?_
  refine ob_ e2 ?_
  refine ob_ e2 ?_
  refine loop _ 0 _ _ rfl (by omega) rfl ?_
  rw [Nat.add_zero, zf_0, e3]
  rw [show M 11 0 3 = (sA (sA (rS (rT M) 0) 11 0 1 (upd (M 11 0 1) r b)) 11 0 2 (upd (M 11 0 2) r (nI n))) 11 0 3 from rfl, sA_id]
  rfl
