/-! lift -/
def unl (f : Nat → Int32) (np : Nat) : Nat → Bool
  | 0 => true
  | k + 1 => unl f np k && (decide (0 ≤ (f k).toInt ∧ (f k).toInt < np) && !exB (fun j => hN f j == hN f k) k)
theorem unl_s {f : Nat → Int32} {np k : Nat} : unl f np (k + 1) = (unl f np k && (decide (0 ≤ (f k).toInt ∧ (f k).toInt < np) && !exB (fun j => hN f j == hN f k) k)) := rfl
theorem unl_f {f : Nat → Int32} {np k : Nat} : ∀ {n : Nat}, k ≤ n → unl f np k = false → unl f np n = false := by
  intro n
  induction n with
  | zero =>
    intro h1 h2
    obtain rfl : k = 0 := by omega
    exact h2
  | succ n ih =>
    intro h1 h2
    by_cases e : k = n + 1
    · rw [← e]; exact h2
    · rw [unl_s, ih (by omega) h2]
      rfl
theorem unl_in {f : Nat → Int32} {np : Nat} : ∀ {n : Nat}, unl f np n = true → ∀ k, k < n → 0 ≤ (f k).toInt ∧ (f k).toInt < np := by
  intro n
  induction n with
  | zero => intro _ k hk; omega
  | succ n ih =>
    intro h k hk
    rw [unl_s, Bool.and_eq_true, Bool.and_eq_true] at h
    by_cases e : k = n
    · rw [e]; exact of_decide_eq_true h.2.1
    · exact ih h.1 k (by omega)
def told (f : Nat → Int32) (k p : Nat) : Bool := exB (fun j => hN f j == p) k
theorem told_s {f : Nat → Int32} {k : Nat} : bs (told f k) ||| bs (fun i => decide (i = hN f k)) = bs (told f (k + 1)) := by
  rw [bs_or]
  apply bs_cong
  intro i hi
  show _ = (told f k i || (hN f k == i))
  congr 1
  by_cases e : i = hN f k
  · subst e
    simp
  · have e2 : ¬ hN f k = i := fun q => e q.symm
    simp [e, e2]
theorem c_Main_unlike (r i n s np : Nat) (f : Nat → Int32) (M : am_M) (hr : r < 8) (hs : M 1 0 3 r = nI s) (h40 : s ≤ 40) (hi : i + n ≤ s) (hp : M 4 0 0 4 = nI np) (h10 : np ≤ 10) (hf : ∀ k, k < n → M 1 0 4 (40 * r + (i + k)) = f k) : Con 4 mMain_areUnlikePapers [aR 0 0 0, aI (nI r), aI (nI i), aI (nI n)] M (some (aI (b2i (unl f np n = true)))) M := by
  refine con_of okMain_areUnlikePapers [some (aR 0 0 0), some (aI (nI r)), some (aI (nI i)), some (aI (nI n)), none, none, none] (some .boolean) ?_
  intro J hgo
  have loop : ∀ m k kv x (z : Option am_V), m = n - k → k ≤ n → kv = nI k → x = bs (told f k) → unl f np k = true → J 6 [some (aR 0 0 0), some (aI (nI r)), some (aI (nI i)), some (aI (nI n)), some (aI x), some (aI kv), z] [] M := by
    intro m
    induction m with
    | zero =>
      intro k kv x z hm hk hv hx hu
      obtain rfl : k = n := by omega
      subst hv
      refine hgo [] _ _ _ _ ?_
      refine brt (nI_le (Nat.le_refl _) (by omega)) ?_
      refine hgo [] _ _ _ _ ?_
      refine ob_ (by decide) ⟨?_, rfl⟩
      rw [b2i_t hu]
    | succ m ih =>
      intro k kv x z hm hk hv hx hu
      subst hv hx
      have hlt : k < n := by omega
      have no : ¬ unl f np (k + 1) = true → J 48 [some (aR 0 0 0), some (aI (nI r)), some (aI (nI i)), some (aI (nI n)), some (aI (bs (told f k))), some (aI (nI k)), some (aI (f k))] [] M := by
        intro hu2
        refine hgo [] _ _ _ _ ?_
        refine ob_ (by decide) ⟨?_, rfl⟩
        rw [b2i_f (by rw [unl_f (n := n) (k := k + 1) (by omega) (Bool.eq_false_iff.mpr hu2)]; decide)]
      have it : Con 3 mRows_item [aR 1 0 0, aI (nI r), aI (nI (i + k))] M (some (aI (f k))) M := by
        rw [← hf k hlt]
        exact c_Rows_item r (i + k) s M hr hs h40 (by omega)
      refine hgo [48] _ _ _ _ ?_
      refine brf (nI_ge hlt (by omega)) ?_
      refine cle it (by rw [nI_add]) rfl ?_
      refine cl_ (c_House_isPaper np 0 (f k) M hp (by omega)) ?_
      refine brb (fun g1 => ?_) (fun g1 => ?_)
      · refine no (fun q => g1 ?_)
        exact unl_in q k (by omega)
      · have hx := i3_of g1.1
        have hc := i3_cl g1.1
        have hl : hN f k < 10 := by unfold hN; omega
        refine cle (c_Main_has (told f k) (hN f k) M hl) (by unfold hN; rw [← hx]) rfl ?_
        refine brb (fun g2 => ?_) (fun g2 => ?_)
        · refine hgo [] _ _ _ _ ?_
          refine ih (k + 1) _ _ _ (by omega) (by omega) (nI_1 k) ?_ ?_
          · rw [hx]
            show bs (told f k) ||| (1 : Int32) <<< (nI (hN f k) &&& 31) = _
            rw [bs_one hl, told_s]
          · rw [unl_s, hu, decide_eq_true g1]
            show (true && (true && !told f k (hN f k))) = true
            rw [Bool.eq_false_iff.mpr g2]
            rfl
        · refine no (fun q => ?_)
          rw [unl_s, Bool.and_eq_true, Bool.and_eq_true] at q
          have q3 : (!told f k (hN f k)) = true := q.2.2
          rw [g2] at q3
          cases q3
  refine hgo [6] _ _ _ _ ?_
  exact loop _ 0 _ _ _ rfl (by omega) rfl (by rw [← bs_0]; rfl) rfl
theorem c_Spots_hasRoom (n : Nat) (M : am_M) (hn : M 5 0 0 0 = nI n) (h9 : n ≤ 9) : Con 1 mSpots_hasRoom [aR 5 0 0] M (some (aI (b2i (n < 9)))) M := by
  refine con_of okSpots_hasRoom [some (aR 5 0 0)] (some .boolean) ?_
  intro J hgo
  by_cases h : n < 9
  · refine hgo [] _ _ _ _ ?_
    refine brf (show ¬ nI 9 ≤ M 5 0 0 0 by rw [hn]; exact nI_ge h (by omega)) ?_
    refine hgo [] _ _ _ _ ?_
    refine ob_ (by decide) ⟨?_, rfl⟩
    rw [b2i_t h]
  · refine hgo [] _ _ _ _ ?_
    refine brt (show nI 9 ≤ M 5 0 0 0 by rw [hn]; exact nI_le (by omega) (by omega)) ?_
    refine hgo [] _ _ _ _ ?_
    refine ob_ (by decide) ⟨?_, rfl⟩
    rw [b2i_f h]
theorem c_Spots_open (s : Nat) (w : Int32) (M : am_M) (hn : M 5 0 0 0 = nI s) (h9 : s < 9) : ConP 2 mSpots_open [aR 5 0 0, aI w] M (fun r M2 => r = none ∧ SSame M M2 0 ∧ M2 5 0 0 0 = nI (s + 1) ∧ M2 5 0 1 = upd (M 5 0 1) s w ∧ M2 5 0 2 = upd (M 5 0 2) s 0 ∧ M2 5 0 3 = M 5 0 3) := by
  have hc : (nI s).toNatClampNeg = s := cl_nI (by omega)
  refine con_of okSpots_open [some (aR 5 0 0), some (aI w)] none ?_
  intro J hgo
  refine hgo [] _ _ _ _ ?_
  refine cl_ (c_Spots_hasRoom s M hn (by omega)) ?_
  refine brbt h9 ?_
  refine hgo [] _ _ _ _ ?_
  refine ob_ (by rw [hn]; exact vp_in_nI (by omega) (by omega)) ?_
  refine ob_ (by rw [sA_o (by decide), hn]; exact vp_in_nI (by omega) (by omega)) ?_
  refine ⟨rfl, (SSame.sa.tr SSame.sa).tr SSame.sa, ?_, ?_, ?_, ?_⟩
  · simp [sA, upd, hn, nI_1]
  · simp [sA, hn, hc]
  · simp [sA, hn, hc]
  · simp [sA]
theorem c_Spots_lay (s n k : Nat) (x : Int32) (M : am_M) (hn : M 5 0 0 0 = nI n) (hs : s < n) (h9 : n ≤ 9) (hk : M 5 0 2 s = nI k) (h8 : k < 8) : ConP 2 mSpots_lay [aR 5 0 0, aI (nI s), aI x] M (fun r M2 => r = none ∧ SSame M M2 0 ∧ M2 5 0 0 = M 5 0 0 ∧ M2 5 0 1 = M 5 0 1 ∧ M2 5 0 2 = upd (M 5 0 2) s (nI (k + 1)) ∧ M2 5 0 3 = upd (M 5 0 3) (8 * s + k) x) := by
  have hc : (nI s).toNatClampNeg = s := cl_nI (by omega)
  have hd : M 5 0 2 (nI s).toNatClampNeg = nI k := by rw [hc]; exact hk
  have e0 : nI s * 8 + nI k = nI (8 * s + k) := by rw [show (8 : Int32) = nI 8 from rfl, pk_mul, nI_add, Nat.mul_comm]
  have ec : (nI (8 * s + k)).toNatClampNeg = 8 * s + k := cl_nI (by omega)
  refine con_of okSpots_lay [some (aR 5 0 0), some (aI (nI s)), some (aI x)] none ?_
  intro J hgo
  refine hgo [] _ _ _ _ ?_
  refine cl_ (c_Spots_isSpot n 0 (nI s) M hn (by omega)) ?_
  refine brbt (by rw [i3_n (by omega)]; omega) ?_
  refine ob_ (vp_in_nI (by omega) (by omega)) ?_
  refine brt (show M 5 0 2 (nI s).toNatClampNeg < nI 8 by rw [hd]; exact nI_lt h8 (by omega)) ?_
  refine hgo [] _ _ _ _ ?_
  refine ob_ (vp_in_nI (by omega) (by omega)) ?_
  refine ob_ (by rw [hd, e0]; exact vp_in_nI (by omega) (by omega)) ?_
  refine ob_ (vp_in_nI (by omega) (by omega)) ?_
  refine ob_ (vp_in_nI (by omega) (by omega)) ?_
  refine ⟨rfl, SSame.sa.tr SSame.sa, ?_, ?_, ?_, ?_⟩
  · simp [sA]
  · simp [sA]
  · rw [sA_s, sA_o (by decide), hd, hc, nI_1]
  · rw [sA_o (by decide), sA_s, hd, e0, ec]
/-! the house with one spot more -/
def lfH (h f : Nat → Int32) (s w n : Nat) : Nat → Int32 := fun x => if x = 3 then nI (s + 1) else if x = 108 + 10 * s then nI w else if x = 109 + 10 * s then nI n else if 110 + 10 * s ≤ x ∧ x < 110 + 10 * s + n then f (x - (110 + 10 * s)) else h x
theorem lf_old {h f : Nat → Int32} {s w n x : Nat} (h3 : x ≠ 3) (hx : x < 108 + 10 * s) : lfH h f s w n x = h x := by
  unfold lfH
  rw [if_neg h3, if_neg (by omega), if_neg (by omega), if_neg (by omega)]
theorem lf_n {h f : Nat → Int32} {s w n : Nat} : lfH h f s w n 3 = nI (s + 1) := by
  unfold lfH
  rw [if_pos rfl]
theorem lf_w {h f : Nat → Int32} {s w n : Nat} : lfH h f s w n (108 + 10 * s) = nI w := by
  unfold lfH
  rw [if_neg (by omega), if_pos rfl]
theorem lf_d {h f : Nat → Int32} {s w n : Nat} : lfH h f s w n (109 + 10 * s) = nI n := by
  unfold lfH
  rw [if_neg (by omega), if_neg (by omega), if_pos rfl]
theorem lf_l {h f : Nat → Int32} {s w n k : Nat} (hk : k < n) : lfH h f s w n (110 + 10 * s + k) = f k := by
  unfold lfH
  rw [if_neg (by omega), if_neg (by omega), if_neg (by omega), if_pos (by omega)]
  congr 1
  omega
theorem HV_lf {h f : Nat → Int32} {s w n : Nat} (hv : HV h) (hs : nS h = s) (h9 : s < 9) (hw : w < nW h) (h1 : 1 ≤ n) (h8 : n ≤ 8) (hf : ∀ k, k < n → 0 ≤ (f k).toInt ∧ (f k).toInt < nP h) : HV (lfH h f s w n) := by
  obtain ⟨⟨v0, w8⟩, ⟨v1, p10⟩, ⟨v2, t10⟩, ⟨v3, s9⟩, vw, vp, vt, vs⟩ := hv
  have e0 : lfH h f s w n 0 = h 0 := lf_old (by omega) (by omega)
  have e1 : lfH h f s w n 1 = h 1 := lf_old (by omega) (by omega)
  have e2 : lfH h f s w n 2 = h 2 := lf_old (by omega) (by omega)
  have n0 : nW (lfH h f s w n) = nW h := by unfold nW hN; rw [e0]
  have n1 : nP (lfH h f s w n) = nP h := by unfold nP hN; rw [e1]
  have n2 : nT (lfH h f s w n) = nT h := by unfold nT hN; rw [e2]
  have n3 : nS (lfH h f s w n) = s + 1 := by unfold nS hN; rw [lf_n, cl_nI (by omega)]
  unfold HV
  rw [n0, n1, n2, n3, e0, e1, e2, lf_n]
  refine ⟨⟨v0, w8⟩, ⟨v1, p10⟩, ⟨v2, t10⟩, ⟨rfl, by omega⟩, ?_, ?_, ?_, ?_⟩
  · intro q hq
    rw [lf_old (by omega) (by omega), lf_old (by omega) (by omega), lf_old (by omega) (by omega)]
    exact vw q hq
  · intro q hq
    rw [lf_old (by omega) (by omega), lf_old (by omega) (by omega), lf_old (by omega) (by omega), lf_old (by omega) (by omega), lf_old (by omega) (by omega)]
    exact vp q hq
  · intro q hq
    rw [lf_old (by omega) (by omega), lf_old (by omega) (by omega), lf_old (by omega) (by omega)]
    exact vt q hq
  · intro t ht
    by_cases e : t = s
    · subst e
      have q1 : wl (lfH h f t w n) t = w := by unfold wl hN; rw [lf_w, cl_nI (by omega)]
      have q2 : dp (lfH h f t w n) t = n := by unfold dp hN; rw [lf_d, cl_nI (by omega)]
      rw [q1, q2, lf_w, lf_d]
      refine ⟨rfl, hw, rfl, h1, h8, fun k hk => ?_⟩
      have q3 : ly (lfH h f t w n) t k = hN f k := by unfold ly hN; rw [lf_l hk]
      have hb := hf k hk
      have hx := i3_of hb.1
      have hc := i3_cl hb.1
      rw [q3, lf_l hk]
      refine ⟨hx, ?_⟩
      unfold hN
      omega
    · have q1 : wl (lfH h f s w n) t = wl h t := by unfold wl hN; rw [lf_old (by omega) (by omega)]
      have q2 : dp (lfH h f s w n) t = dp h t := by unfold dp hN; rw [lf_old (by omega) (by omega)]
      obtain ⟨a1, a2, a3, a4, a5, a6⟩ := vs t (by omega)
      rw [q1, q2, lf_old (by omega) (by omega), lf_old (by omega) (by omega)]
      refine ⟨a1, a2, a3, a4, a5, fun k hk => ?_⟩
      have q3 : ly (lfH h f s w n) t k = ly h t k := by unfold ly hN; rw [lf_old (by omega) (by omega)]
      rw [q3, lf_old (by omega) (by omega)]
      exact a6 k hk
theorem RH_lf {C P P2 : Nat → Nat → Int32} {h f : Nat → Int32} {s w n : Nat} (hv : HV h) (hs : nS h = s) (h9 : s < 9) (h1 : 1 ≤ n) (h8 : n ≤ 8) (hr : RH C P h) (p0 : P2 0 0 = nI (s + 1)) (p1 : P2 1 = upd (P 1) s (nI w)) (p2 : ∀ t, t ≠ s → P2 2 t = P 2 t) (p2s : P2 2 s = nI n) (p3 : ∀ x, x < 8 * s → P2 3 x = P 3 x) (p3s : ∀ k, k < n → P2 3 (8 * s + k) = f k) : RH C P2 (lfH h f s w n) := by
  obtain ⟨⟨v0, w8⟩, ⟨v1, p10⟩, ⟨v2, t10⟩, ⟨v3, s9⟩, vw, vp, vt, vs⟩ := hv
  have e0 : lfH h f s w n 0 = h 0 := lf_old (by omega) (by omega)
  have e1 : lfH h f s w n 1 = h 1 := lf_old (by omega) (by omega)
  have e2 : lfH h f s w n 2 = h 2 := lf_old (by omega) (by omega)
  have n0 : nW (lfH h f s w n) = nW h := by unfold nW hN; rw [e0]
  have n1 : nP (lfH h f s w n) = nP h := by unfold nP hN; rw [e1]
  have n2 : nT (lfH h f s w n) = nT h := by unfold nT hN; rw [e2]
  have n3 : nS (lfH h f s w n) = s + 1 := by unfold nS hN; rw [lf_n, cl_nI (by omega)]
  obtain ⟨r1, r2, r3, r4⟩ := hr
  refine ⟨⟨by rw [e0]; exact r1.1, fun q hq => ?_⟩, ⟨by rw [e1]; exact r2.1, fun q hq => ?_⟩, ⟨by rw [e2]; exact r3.1, fun q hq => ?_⟩, ⟨by rw [lf_n]; exact p0, fun t ht => ?_⟩⟩
  · rw [n0] at hq
    rw [lf_old (by omega) (by omega), lf_old (by omega) (by omega), lf_old (by omega) (by omega)]
    exact r1.2 q hq
  · rw [n1] at hq
    rw [lf_old (by omega) (by omega), lf_old (by omega) (by omega), lf_old (by omega) (by omega), lf_old (by omega) (by omega), lf_old (by omega) (by omega)]
    exact r2.2 q hq
  · rw [n2] at hq
    rw [lf_old (by omega) (by omega), lf_old (by omega) (by omega), lf_old (by omega) (by omega)]
    exact r3.2 q hq
  · rw [n3] at ht
    by_cases e : t = s
    · subst e
      have q2 : dp (lfH h f t w n) t = n := by unfold dp hN; rw [lf_d, cl_nI (by omega)]
      rw [q2, lf_w, lf_d, p1, upd_s]
      refine ⟨rfl, p2s, fun k hk => ?_⟩
      rw [lf_l hk]
      exact p3s k hk
    · have q2 : dp (lfH h f s w n) t = dp h t := by unfold dp hN; rw [lf_old (by omega) (by omega)]
      have d8 := (vs t (by omega)).2.2.2.2.1
      obtain ⟨a1, a2, a3⟩ := r4.2 t (by omega)
      rw [q2, lf_old (by omega) (by omega), lf_old (by omega) (by omega), p1, upd_n e, p2 t e]
      refine ⟨a1, a2, fun k hk => ?_⟩
      rw [lf_old (by omega) (by omega), p3 _ (by omega)]
      exact a3 k hk
