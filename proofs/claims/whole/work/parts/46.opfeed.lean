/-! feed -/
def byC (w : Int64) (i : Nat) : Int32 := (w.toUInt64 >>> ((8 * nI i).toInt64.toUInt64 &&& Int64.toUInt64 63)).toInt64.toInt32 &&& 255
def byR (w : Int64) (i : Nat) : Int32 := ((w >>> ((8 * nI i).toInt64 &&& 63)) &&& 255).toInt32
theorem lt8 {k : Nat} (h : k < 8) : k = 0 ∨ k = 1 ∨ k = 2 ∨ k = 3 ∨ k = 4 ∨ k = 5 ∨ k = 6 ∨ k = 7 := by omega
theorem byC_bv (w : Int64) {i : Nat} (h : i < 8) : (byC w i).toBitVec = (w.toBitVec >>> (8 * i)).setWidth 32 &&& 255#32 := by
  have hs : ((8 * nI i).toInt64.toUInt64 &&& Int64.toUInt64 63) = UInt64.ofNat (8 * i) := by
    rcases lt8 h with rfl | rfl | rfl | rfl | rfl | rfl | rfl | rfl <;> decide
  have hq : ((UInt64.ofNat (8 * i)).toBitVec % 64).toNat = 8 * i := by
    rcases lt8 h with rfl | rfl | rfl | rfl | rfl | rfl | rfl | rfl <;> decide
  unfold byC
  rw [hs, Int32.toBitVec_and, Int64.toBitVec_toInt32, UInt64.toBitVec_toInt64, UInt64.toBitVec_shiftRight, BitVec.signExtend_eq_setWidth_of_le _ (by omega), BitVec.ushiftRight_eq', hq]
  rfl
theorem byR_bv (w : Int64) {i : Nat} (h : i < 8) : (byR w i).toBitVec = ((w.toBitVec.sshiftRight (8 * i)) &&& 255#64).setWidth 32 := by
  have hs : (8 * nI i).toInt64 &&& 63 = Int64.ofNat (8 * i) := by
    rcases lt8 h with rfl | rfl | rfl | rfl | rfl | rfl | rfl | rfl <;> decide
  have hq : ((Int64.ofNat (8 * i)).toBitVec.smod 64).toNat = 8 * i := by
    rcases lt8 h with rfl | rfl | rfl | rfl | rfl | rfl | rfl | rfl <;> decide
  unfold byR
  rw [hs, Int64.toBitVec_toInt32, Int64.toBitVec_and, Int64.toBitVec_shiftRight, BitVec.signExtend_eq_setWidth_of_le _ (by omega), BitVec.sshiftRight_eq', hq]
  rfl
theorem bit255 (n j : Nat) (hn : 8 ≤ n) : (255#n).getLsbD j = decide (j < 8) := by
  rw [BitVec.getLsbD_ofNat]
  have := Nat.testBit_two_pow_sub_one 8 j
  have e0 : (2 ^ 8 - 1 : Nat) = 255 := rfl
  rw [e0] at this
  rw [this]
  by_cases h : j < 8
  · simp [h]; omega
  · simp [h]
theorem by_eq (w : Int64) {i : Nat} (h : i < 8) : byC w i = byR w i := by
  apply Int32.toBitVec_inj.mp
  rw [byC_bv w h, byR_bv w h]
  apply BitVec.eq_of_getLsbD_eq
  intro j hj
  rw [BitVec.getLsbD_and, BitVec.getLsbD_setWidth, BitVec.getLsbD_setWidth, BitVec.getLsbD_and, bit255 32 j (by omega), bit255 64 j (by omega), BitVec.getLsbD_ushiftRight, BitVec.getLsbD_sshiftRight]
  by_cases h8 : j < 8
  · have h1 : 8 * i + j < 64 := by omega
    have h2 : j < 64 := by omega
    simp [hj, h8, h1, h2]
  · simp [h8]
theorem by_c (w : Int64) {i : Nat} (h : i < 8) : ∃ c, c < 256 ∧ byR w i = nI c := by
  rw [← by_eq w h]
  obtain ⟨c, h1, h2⟩ := pk_andE ((w.toUInt64 >>> ((8 * nI i).toInt64.toUInt64 &&& Int64.toUInt64 63)).toInt64.toInt32) (m := 255) 8 (by decide)
  exact ⟨c, h1, h2⟩
/-- t of the lowest n bytes of w, the highest first, from place a on -/
def fb (g : Nat → Int32) (f : Nat → Int32) (a n : Nat) : Nat → Nat → Int32
  | 0 => f
  | t + 1 => upd (fb g f a n t) (a + t) (g (n - 1 - t))
theorem fb_lo {g f : Nat → Int32} {a n i : Nat} : ∀ {t : Nat}, i < a → fb g f a n t i = f i
  | 0, _ => rfl
  | t + 1, h => by
    show upd (fb g f a n t) (a + t) (g (n - 1 - t)) i = f i
    rw [upd_n (by omega), fb_lo h]
theorem fb_in {g f : Nat → Int32} {a n i : Nat} : ∀ {t : Nat}, i < t → fb g f a n t (a + i) = g (n - 1 - i)
  | 0, h => by omega
  | t + 1, h => by
    show upd (fb g f a n t) (a + t) (g (n - 1 - t)) (a + i) = _
    by_cases he : i = t
    · subst he; exact upd_s
    · rw [upd_n (by omega), fb_in (by omega)]
theorem sA_c {M : am_M} {k j o k2 j2 o2 : Nat} {f g : Nat → Int32} (h : ¬ (k, j, o) = (k2, j2, o2)) : sA (sA M k j o f) k2 j2 o2 g = sA (sA M k2 j2 o2 g) k j o f := by
  funext a b c
  simp only [sA]
  by_cases h1 : a = k2 ∧ b = j2 ∧ c = o2
  · rw [if_pos h1, if_neg (fun q => h (by rw [← q.1, ← q.2.1, ← q.2.2, h1.1, h1.2.1, h1.2.2])), if_pos h1]
  · rw [if_neg h1, if_neg h1]
theorem upd_upd {f : Nat → Int32} {i : Nat} {x y : Int32} : upd (upd f i x) i y = upd f i y := by
  funext q
  simp only [upd]
  split <;> rfl
theorem upd_id {f : Nat → Int32} {i : Nat} : upd f i (f i) = f := by
  funext q
  simp only [upd]
  split
  · next h => rw [h]
  · rfl
theorem c_Tape_hasRoom0 (x : Int32) (M : am_M) : Con 1 mTape_hasRoom [aR 2 0 0, aI x] M (some (aI (b2i (x ≤ 500 - M 2 0 0 1)))) M := by
  refine con_of okTape_hasRoom [some (aR 2 0 0), some (aI x)] (some .boolean) ?_
  intro J hgo
  refine hgo [] _ _ _ _ ?_
  refine br_ (fun h1 => ?_) (fun h1 => ?_)
  · skip
    refine hgo [] _ _ _ _ ?_
    refine ob_ (by first | decide | exact nar_b) ?_
    refine ⟨?_, rfl⟩   -- leaf1
    first | rw [b2i_f (Int32.not_le.mpr h1)] | rw [b2i_t (Int32.not_lt.mp h1)]
  · skip
    refine hgo [] _ _ _ _ ?_
    refine ob_ (by first | decide | exact nar_b) ?_
    refine ⟨?_, rfl⟩   -- leaf2
    first | rw [b2i_f (Int32.not_le.mpr h1)] | rw [b2i_t (Int32.not_lt.mp h1)]
theorem c_Tape_hasRoom (n a : Nat) (M : am_M) (hl : M 2 0 0 1 = nI a) (ha : a ≤ 500) (hn : n ≤ 8) : Con 1 mTape_hasRoom [aR 2 0 0, aI (nI n)] M (some (aI (b2i (a + n ≤ 500)))) M := by
  have := c_Tape_hasRoom0 (nI n) M
  rw [hl, show (500 : Int32) - nI a = nI (500 - a) from pk_sub (a := 500) ha, b2i_iff (q := a + n ≤ 500) (by rw [nI_leI (by omega) (by omega)]; omega)] at this
  exact this
theorem c_Tape_append (w : Int64) (n a : Nat) (M : am_M) (hl : M 2 0 0 1 = nI a) (hn : n ≤ 8) (ha : a + n ≤ 500) : Con 1 mTape_append [aR 2 0 0, aL w, aI (nI n)] M none (sA (sA M 2 0 0 (upd (M 2 0 0) 1 (nI (a + n)))) 2 0 1 (fb (byC w) (M 2 0 1) a n n)) := by
  refine con_of okTape_append [some (aR 2 0 0), some (aL w), none, some (aI (nI n)), none] none ?_
  intro J hgo
  have loop : ∀ m t iv M2, m = n - t → t ≤ n → iv + 1 = nI (n - t) → M2 = sA (sA M 2 0 0 (upd (M 2 0 0) 1 (nI (a + t)))) 2 0 1 (fb (byC w) (M 2 0 1) a n t) → J 5 [some (aR 2 0 0), some (aL w), none, some (aI (nI n)), some (aI iv)] [] M2 := by
    intro m
    induction m with
    | zero =>
      intro t iv M2 hm ht hv hM
      obtain rfl : t = n := by omega
      have hv : iv = -1 := by
        rw [Nat.sub_self] at hv
        have : iv = iv + 1 - 1 := by simp
        rw [this, hv]
        decide
      subst hv
      refine hgo [] _ _ _ _ ?_
      refine brt (by decide) ?_
      refine hgo [] _ _ _ _ ?_
      exact ⟨rfl, hM⟩
    | succ m ih =>
      intro t iv M2 hm ht hv hM
      have hv : iv = nI (n - 1 - t) := by
        have h1 : iv = iv + 1 - 1 := by simp
        obtain ⟨q, hq⟩ : ∃ q, n - t = q + 1 := ⟨n - t - 1, by omega⟩
        rw [h1, hv, hq, nI_pred]
        congr 1
        omega
      subst hv
      have el : M2 2 0 0 1 = nI (a + t) := by rw [hM]; rfl
      refine hgo [] _ _ _ _ ?_
      refine brf (nI_pos (by omega)) ?_
      refine brf (show ¬ 500 ≤ M2 2 0 0 1 by rw [el]; exact nI_ge (b := 500) (by omega) (by omega)) ?_
      refine ob_ (show vp_in (M2 2 0 0 1) 500 by rw [el]; exact vp_in_nI (by omega) (by omega)) ?_
      refine ih (t + 1) _ _ (by omega) (by omega) ?_ ?_
      · have h2 : n - (t + 1) = n - 1 - t := by omega
        rw [h2]
        have h1 : nI (n - 1 - t) + -1 + 1 = nI (n - 1 - t) := by
          rw [Int32.add_assoc]
          have : (-1 : Int32) + 1 = 0 := by decide
          rw [this, Int32.add_zero]
        exact h1
      · have h9 : ((w.toUInt64 >>> ((8 * nI (n - 1 - t)).toInt64.toUInt64 &&& Int64.toUInt64 63)).toInt64.toInt32 &&& 255) = byC w (n - 1 - t) := rfl
        rw [h9, el, cl_nI (by omega), hM]
        simp only [sA_s, sA_sA, sA_o (show (0 : Nat) ≠ 1 by decide), sA_o (show (1 : Nat) ≠ 0 by decide), upd_s]
        rw [sA_c (by decide), sA_sA, upd_upd, nI_1]
        rfl
  refine hgo [5] _ _ _ _ ?_
  refine loop _ 0 _ _ rfl (by omega) ?_ ?_
  · show nI n - 1 + 1 = nI n
    simp
  · show M = sA (sA M 2 0 0 (upd (M 2 0 0) 1 (nI (a + 0)))) 2 0 1 (M 2 0 1)
    rw [Nat.add_zero, ← hl, upd_id, sA_id, sA_id]
/-! the class's feed -/
theorem c_Main_feed_bad (w : Int64) (n : Int32) (M : am_M) (h : ¬ (1 ≤ n ∧ n ≤ 8)) : Con 2 mMain_feed [aR 0 0 0, aL w, aI n] M (some (aI (-1000001))) M := by
  refine con_of okMain_feed [some (aR 0 0 0), some (aL w), none, some (aI n)] (some .int) ?_
  intro J hgo
  refine hgo [] _ _ _ _ ?_
  refine br_ (fun h1 => ?_) (fun h1 => ?_)
  · refine hgo [] _ _ _ _ ?_
    exact ⟨rfl, rfl⟩
  · refine brf (fun h2 => h ?_) ?_
    · (simp only [vp_in_iff, i3_lt, i3_le, i3_eq, Int32.reduceToInt, i3_m1] at h1 h2 ⊢ <;> omega)
    · exact ⟨rfl, rfl⟩
theorem c_Main_feed_full (w : Int64) (n a : Nat) (M : am_M) (hl : M 2 0 0 1 = nI a) (ha : a ≤ 500) (h1 : 1 ≤ n) (hn : n ≤ 8) (h : ¬ a + n ≤ 500) : Con 2 mMain_feed [aR 0 0 0, aL w, aI (nI n)] M (some (aI (-1000003))) M := by
  refine con_of okMain_feed [some (aR 0 0 0), some (aL w), none, some (aI (nI n))] (some .int) ?_
  intro J hgo
  refine hgo [] _ _ _ _ ?_
  refine brf (nI_nlt (b := 1) h1 (by omega)) ?_
  refine brt (nI_le (b := 8) hn (by omega)) ?_
  refine hgo [] _ _ _ _ ?_
  refine cl_ (c_Tape_hasRoom n a _ hl ha hn) ?_
  refine brbf h ?_
  exact ⟨rfl, rfl⟩
theorem c_Main_feed_ok (w : Int64) (n a : Nat) (M : am_M) (hl : M 2 0 0 1 = nI a) (h1 : 1 ≤ n) (hn : n ≤ 8) (h : a + n ≤ 500) : Con 2 mMain_feed [aR 0 0 0, aL w, aI (nI n)] M (some (aI (nI (a + n)))) (sA (sA M 2 0 0 (upd (M 2 0 0) 1 (nI (a + n)))) 2 0 1 (fb (byC w) (M 2 0 1) a n n)) := by
  refine con_of okMain_feed [some (aR 0 0 0), some (aL w), none, some (aI (nI n))] (some .int) ?_
  intro J hgo
  refine hgo [] _ _ _ _ ?_
  refine brf (nI_nlt (b := 1) h1 (by omega)) ?_
  refine brt (nI_le (b := 8) hn (by omega)) ?_
  refine hgo [] _ _ _ _ ?_
  refine cl_ (c_Tape_hasRoom n a _ hl (by omega) hn) ?_
  refine brbt h ?_
  refine hgo [] _ _ _ _ ?_
  refine cl_ (c_Tape_append w n a _ hl hn h) ?_
  exact ⟨rfl, rfl⟩
/-! the reference's -/
theorem c_Ref_feed_bad (w : Int64) (n : Int32) (M : am_M) (h : ¬ (1 ≤ n ∧ n ≤ 8)) : Con 2 mRef_feed [aR 11 0 0, aL w, aI n] M (some (aI (-1000001))) (rT M) := by
  refine con_of okRef_feed [some (aR 11 0 0), some (aL w), none, some (aI n), none] (some .int) ?_
  intro J hgo
  refine hgo [] _ _ _ _ ?_
  refine cl_ (c_Ref_in n 1 8 _ _ _ rfl (by decide) (by decide) _) ?_
  refine brbf h ?_
  exact ⟨rfl, rfl⟩
theorem c_Ref_feed_full (w : Int64) (n a : Nat) (M : am_M) (hl : M 11 0 0 9 = nI a) (ha : a ≤ 500) (h1 : 1 ≤ n) (hn : n ≤ 8) (h : ¬ a + n ≤ 500) : Con 2 mRef_feed [aR 11 0 0, aL w, aI (nI n)] M (some (aI (-1000003))) (rT M) := by
  refine con_of okRef_feed [some (aR 11 0 0), some (aL w), none, some (aI (nI n)), none] (some .int) ?_
  intro J hgo
  refine hgo [] _ _ _ _ ?_
  refine cl_ (c_Ref_in (nI n) 1 8 _ _ _ rfl (by decide) (by decide) _) ?_
  refine brbt ⟨nI_le (a := 1) h1 (by omega), nI_le (b := 8) hn (by omega)⟩ ?_
  refine hgo [] _ _ _ _ ?_
  refine brf (show ¬ M 11 0 0 9 + nI n ≤ 500 by rw [hl, nI_add]; exact nI_ge (a := 500) (by omega) (by omega)) ?_
  exact ⟨rfl, rfl⟩
theorem c_Ref_feed_ok (w : Int64) (n a : Nat) (M : am_M) (hl : M 11 0 0 9 = nI a) (h1 : 1 ≤ n) (hn : n ≤ 8) (h : a + n ≤ 500) : Con 2 mRef_feed [aR 11 0 0, aL w, aI (nI n)] M (some (aI (nI (a + n)))) (sA (sA (rT M) 11 0 0 (upd (rT M 11 0 0) 9 (nI (a + n)))) 11 0 6 (fb (byR w) (M 11 0 6) a n n)) := by
  refine con_of okRef_feed [some (aR 11 0 0), some (aL w), none, some (aI (nI n)), none] (some .int) ?_
  intro J hgo
  have loop : ∀ m t iv M2, m = n - t → t ≤ n → iv + 1 = nI (n - t) → M2 = sA (sA (rT M) 11 0 0 (upd (rT M 11 0 0) 9 (nI (a + t)))) 11 0 6 (fb (byR w) (M 11 0 6) a n t) → J 40 [some (aR 11 0 0), some (aL w), none, some (aI (nI n)), some (aI iv)] [] M2 := by
    intro m
    induction m with
    | zero =>
      intro t iv M2 hm ht hv hM
      obtain rfl : t = n := by omega
      have hv : iv = -1 := by
        rw [Nat.sub_self] at hv
        have : iv = iv + 1 - 1 := by simp
        rw [this, hv]
        decide
      subst hv
      refine hgo [] _ _ _ _ ?_
      refine brt (by decide) ?_
      refine hgo [] _ _ _ _ ?_
      refine ⟨?_, hM⟩
      rw [hM]
      rfl
    | succ m ih =>
      intro t iv M2 hm ht hv hM
      have hv : iv = nI (n - 1 - t) := by
        have h1 : iv = iv + 1 - 1 := by simp
        obtain ⟨q, hq⟩ : ∃ q, n - t = q + 1 := ⟨n - t - 1, by omega⟩
        rw [h1, hv, hq, nI_pred]
        congr 1
        omega
      subst hv
      have el : M2 11 0 0 9 = nI (a + t) := by rw [hM]; rfl
      refine hgo [] _ _ _ _ ?_
      refine brf (nI_pos (by omega)) ?_
      refine ob_ (show vp_in (M2 11 0 0 9) 500 by rw [el]; exact vp_in_nI (by omega) (by omega)) ?_
      refine ih (t + 1) _ _ (by omega) (by omega) ?_ ?_
      · have h2 : n - (t + 1) = n - 1 - t := by omega
        rw [h2]
        have h1 : nI (n - 1 - t) + -1 + 1 = nI (n - 1 - t) := by
          rw [Int32.add_assoc]
          have : (-1 : Int32) + 1 = 0 := by decide
          rw [this, Int32.add_zero]
        exact h1
      · have h9 : ((w >>> ((8 * nI (n - 1 - t)).toInt64 &&& 63)) &&& 255).toInt32 = byR w (n - 1 - t) := rfl
        rw [h9, el, cl_nI (by omega), hM]
        simp only [sA_s, sA_sA, sA_o (show (0 : Nat) ≠ 6 by decide), sA_o (show (6 : Nat) ≠ 0 by decide), upd_s]
        rw [sA_c (by decide), sA_sA, upd_upd, nI_1]
        rfl
  refine hgo [] _ _ _ _ ?_
  refine cl_ (c_Ref_in (nI n) 1 8 _ _ _ rfl (by decide) (by decide) _) ?_
  refine brbt ⟨nI_le (a := 1) h1 (by omega), nI_le (b := 8) hn (by omega)⟩ ?_
  refine hgo [] _ _ _ _ ?_
  refine brt (show M 11 0 0 9 + nI n ≤ 500 by rw [hl, nI_add]; exact nI_le (b := 500) (by omega) (by omega)) ?_
  refine hgo [40] _ _ _ _ ?_
  refine loop _ 0 _ _ rfl (by omega) ?_ ?_
  · show nI n - 1 + 1 = nI n
    simp
  · show rT M = sA (sA (rT M) 11 0 0 (upd (rT M 11 0 0) 9 (nI (a + 0)))) 11 0 6 (M 11 0 6)
    rw [Nat.add_zero, ← hl, show M 11 0 0 9 = rT M 11 0 0 9 from rfl, upd_id, sA_id]
    exact (sA_id (M := rT M) (k := 11) (j := 0) (o := 6)).symm
theorem op_feed (w : Int64) (x : Int32) (M : am_M) (hR : Rel M) : OpAt mMain_feed mRef_feed [aL w, aI x] M := by
  obtain ⟨a, g1, g2, g3, g4⟩ := hR.2.1
  by_cases hx : 1 ≤ x ∧ x ≤ 8
  · obtain ⟨n, hn, rfl⟩ := intN (a := x) (m := 9) (by (simp only [vp_in_iff, i3_lt, i3_le, i3_eq, Int32.reduceToInt, i3_m1] at hx ⊢ <;> omega))
    have h1 : 1 ≤ n := (nI_leI (a := 1) (b := n) (by omega) (by omega)).mp hx.1
    by_cases h : a + n ≤ 500
    · refine op_mk (c_Main_feed_ok w n a M g2 h1 (by omega) h) (c_Ref_feed_ok w n a _ g3 h1 (by omega) h) ?_
      obtain ⟨r1, r2, r3, r4, r5, r6, r7⟩ := hR
      refine ⟨r1, ⟨a + n, h, rfl, rfl, fun i hi => ?_⟩, ⟨r3.1, r3.2⟩, r4, r5, r6, r7⟩
      show fb (byC w) (M 2 0 1) a n n i = fb (byR w) (M 11 0 6) a n n i ∧ ∃ c, c < 256 ∧ fb (byR w) (M 11 0 6) a n n i = nI c
      by_cases hia : i < a
      · rw [fb_lo hia, fb_lo hia]
        exact g4 i hia
      · obtain ⟨q, rfl⟩ : ∃ q, i = a + q := ⟨i - a, by omega⟩
        rw [fb_in (by omega), fb_in (by omega)]
        exact ⟨by_eq w (by omega), by_c w (by omega)⟩
    · exact op_mk (c_Main_feed_full w n a M g2 g1 h1 (by omega) h) (c_Ref_feed_full w n a M g3 g1 h1 (by omega) h) (Rel_bad hR)
  · exact op_mk (c_Main_feed_bad w x M hx) (c_Ref_feed_bad w x M hx) (Rel_bad hR)
