/-! sets as arguments; has, isIn -/
theorem exB_iff {P : Nat → Bool} : ∀ {n : Nat}, exB P n = true ↔ ∃ i, i < n ∧ P i = true
  | 0 => by simp [exB]
  | n + 1 => by
    unfold exB
    rw [Bool.or_eq_true, exB_iff]
    constructor
    · rintro (⟨i, h1, h2⟩ | h)
      · exact ⟨i, by omega, h2⟩
      · exact ⟨n, by omega, h⟩
    · rintro ⟨i, h1, h2⟩
      by_cases hi : i = n
      · subst hi; exact Or.inr h2
      · exact Or.inl ⟨i, by omega, h2⟩
theorem bs_ofx {x : Int32} (h0 : 0 ≤ x.toInt) (h1 : x.toInt < 1024) : ∃ f : Nat → Bool, x = bs f ∧ ∀ i, f i = x.toNatClampNeg.testBit i := by
  refine ⟨fun i => x.toNatClampNeg.testBit i, ?_, fun i => rfl⟩
  have e0 := i3_cl h0
  have e1 := i3_of h0
  have e2 : nI x.toNatClampNeg = bs (fun i => x.toNatClampNeg.testBit i) := by
    apply bs_of
    intro i
    by_cases hi : i < 10
    · simp [hi]
    · have : x.toNatClampNeg < 2 ^ i := Nat.lt_of_lt_of_le (show x.toNatClampNeg < 2 ^ 10 by omega) (Nat.pow_le_pow_right (by omega) (by omega))
      simp [hi, Nat.testBit_lt_two_pow this]
  rw [← e2]
  exact e1
theorem c_Main_has (f : Nat → Bool) (p : Nat) (M : am_M) (hp : p < 10) : Con 1 mMain_has [aI (bs f), aI (nI p)] M (some (aI (b2i (f p = true)))) M := by
  refine con_of okMain_has [some (aI (bs f)), some (aI (nI p))] (some .boolean) ?_
  intro J hgo
  refine hgo [] _ _ _ _ ?_
  refine br_ (fun h1 => ?_) (fun h1 => ?_)
  · refine hgo [] _ _ _ _ ?_
    refine ob_ (by decide) ⟨?_, rfl⟩
    rw [bs_shr f hp] at h1
    rw [b2i_f (b2i_0.mp h1)]
  · refine hgo [] _ _ _ _ ?_
    refine ob_ (by decide) ⟨?_, rfl⟩
    rw [bs_shr f hp] at h1
    rw [b2i_t (Decidable.not_not.mp (fun q => h1 (b2i_0.mpr q)))]
theorem c_Ref_isIn (f : Nat → Bool) (p : Nat) (M : am_M) (hp : p < 10) : Con 1 mRef_isIn [aI (bs f), aI (nI p)] M (some (aI (b2i (f p = true)))) M := by
  refine con_of okRef_isIn [some (aI (bs f)), some (aI (nI p))] (some .boolean) ?_
  intro J hgo
  refine hgo [] _ _ _ _ ?_
  refine br_ (fun h1 => ?_) (fun h1 => ?_)
  · refine hgo [] _ _ _ _ ?_
    refine ob_ (by decide) ⟨?_, rfl⟩
    rw [bs_shr f hp] at h1
    by_cases hf : f p = true
    · rw [b2i_t hf]
    · rw [b2i_f hf] at h1
      exact absurd h1 (by decide)
  · refine hgo [] _ _ _ _ ?_
    refine ob_ (by decide) ⟨?_, rfl⟩
    rw [bs_shr f hp] at h1
    rw [b2i_f (fun q => h1 (b2i_t q))]
/-! the rest of a division -/
theorem i3_rem {x y : Int32} (hx1 : -1000000 < x.toInt) (hx2 : x.toInt < 1000000) (hy : 0 < y.toInt) : (x - x / y * y).toInt = x.toInt.tmod y.toInt := by
  have rx := i3_rng x
  have ry := i3_rng y
  have hne : y ≠ -1 := by
    intro e
    rw [e, i3_m1] at hy
    omega
  have hd := Int32.toInt_div_of_ne_right x y hne
  have h1 : (x.toInt.tdiv y.toInt * y.toInt).natAbs ≤ x.toInt.natAbs := by
    rw [Int.natAbs_mul, Int.natAbs_tdiv]
    exact Nat.div_mul_le_self _ _
  have h2 := Int.mul_tdiv_add_tmod x.toInt y.toInt
  have h3 : y.toInt * x.toInt.tdiv y.toInt = x.toInt.tdiv y.toInt * y.toInt := Int.mul_comm _ _
  have h4 : (x / y * y).toInt = x.toInt.tdiv y.toInt * y.toInt := by
    rw [i3_mul (by rw [hd]; omega) (by rw [hd]; omega), hd]
  rw [i3_sub (by rw [h4]; omega) (by rw [h4]; omega), h4]
  omega
theorem rem_nI {a r : Nat} (ha : a < 1000000) (h0 : 0 < r) (hr : r < 1000000) : nI a - nI a / nI r * nI r = nI (a % r) := pk_rem (by omega) h0 (by omega)
theorem c_House_leftBy (a r : Nat) (M : am_M) (ha : a < 1000000) (h0 : 0 < r) (hr : r < 1000000) : Con 1 mHouse_leftBy [aI (nI a), aI (nI r)] M (some (aI (nI (a % r)))) M := by
  refine con_of okHouse_leftBy [some (aI (nI a)), some (aI (nI r))] (some .int) ?_
  intro J hgo
  refine hgo [] _ _ _ _ ?_
  refine brt (nI_lt (a := 0) h0 (by omega)) ?_
  refine hgo [] _ _ _ _ ?_
  refine ob_ (nI_ne0 h0 (by omega)) ?_
  refine ⟨?_, rfl⟩
  rw [rem_nI ha h0 hr]
theorem c_Math_abs (x : Int32) (M : am_M) : Con 1 mMath_abs [aI x] M (some (aI (if 0 ≤ x then x else -x))) M := by
  refine con_of okMath_abs [some (aI x)] (some .int) ?_
  intro J hgo
  refine hgo [] _ _ _ _ ?_
  refine br_ (fun h1 => ?_) (fun h1 => ?_)
  · refine hgo [] _ _ _ _ ?_
    exact ⟨by rw [if_pos h1], rfl⟩
  · refine hgo [] _ _ _ _ ?_
    exact ⟨by rw [if_neg h1], rfl⟩
theorem c_Math_max (x y : Int32) (M : am_M) : Con 1 mMath_max [aI x, aI y] M (some (aI (if x < y then y else x))) M := by
  refine con_of okMath_max [some (aI x), some (aI y)] (some .int) ?_
  intro J hgo
  refine hgo [] _ _ _ _ ?_
  refine br_ (fun h1 => ?_) (fun h1 => ?_)
  · refine hgo [] _ _ _ _ ?_
    exact ⟨by rw [if_pos h1], rfl⟩
  · refine hgo [] _ _ _ _ ?_
    exact ⟨by rw [if_neg h1], rfl⟩
theorem c_Math_min (x y : Int32) (M : am_M) : Con 1 mMath_min [aI x, aI y] M (some (aI (if y < x then y else x))) M := by
  refine con_of okMath_min [some (aI x), some (aI y)] (some .int) ?_
  intro J hgo
  refine hgo [] _ _ _ _ ?_
  refine br_ (fun h1 => ?_) (fun h1 => ?_)
  · refine hgo [] _ _ _ _ ?_
    exact ⟨by rw [if_pos h1], rfl⟩
  · refine hgo [] _ _ _ _ ?_
    exact ⟨by rw [if_neg h1], rfl⟩
theorem bs_add {f : Nat → Bool} {p : Nat} (hp : p < 10) : bs f ||| (1 : Int32) <<< (nI p &&& 31) = bs (fun i => f i || decide (i = p)) := by
  rw [bs_one hp, bs_or]
theorem bs_or0 {f : Nat → Bool} : bs f ||| 0 = bs f := by
  rw [← bs_0, bs_or]
  exact bs_cong (fun i _ => by simp)
/-! scrap -/
def scF (n : Nat) (kd re : Nat → Nat) (ap : Nat) (p : Nat) : Bool := decide (p < n) && (!(kd p == 5) && (ap % re p == 0))
theorem scF_s {n m : Nat} {kd re : Nat → Nat} {ap p : Nat} : (decide (p < m + 1) && (!(kd p == 5) && (ap % re p == 0))) = ((decide (p < m) && (!(kd p == 5) && (ap % re p == 0))) || (decide (p = m) && (!(kd m == 5) && (ap % re m == 0)))) := by
  by_cases h : p = m
  · subst h; simp
  · have : decide (p < m + 1) = decide (p < m) := by simp; omega
    simp [h, this]
theorem c_House_printedEvery (n ap : Nat) (kd re : Nat → Nat) (M : am_M) (hn : M 4 0 0 4 = nI n) (h10 : n ≤ 10) (hap : ap ≤ 400) (hk : ∀ p, p < n → M 4 0 4 p = nI (kd p) ∧ kd p ≤ 5) (hr : ∀ p, p < n → M 4 0 8 p = nI (re p) ∧ 1 ≤ re p ∧ re p ≤ 99) : Con 2 mHouse_printedEvery [aR 4 0 0, aI (nI ap)] M (some (aI (bs (scF n kd re ap)))) M := by
  refine con_of okHouse_printedEvery [some (aR 4 0 0), some (aI (nI ap)), none, none] (some .int) ?_
  intro J hgo
  have loop : ∀ m p sv pv, m = n - p → p ≤ n → sv = bs (scF p kd re ap) → pv = nI p → J 4 [some (aR 4 0 0), some (aI (nI ap)), some (aI sv), some (aI pv)] [] M := by
    intro m
    induction m with
    | zero =>
      intro p sv pv hm hp hs hv
      obtain rfl : p = n := by omega
      subst hv
      refine hgo [] _ _ _ _ ?_
      refine brt (show M 4 0 0 4 ≤ nI p by rw [hn]; exact nI_le (Nat.le_refl _) (by omega)) ?_
      refine hgo [] _ _ _ _ ?_
      exact ⟨by rw [hs], rfl⟩
    | succ m ih =>
      intro p sv pv hm hp hs hv
      subst hv
      have hpn : p < n := by omega
      have e3 : (nI p).toNatClampNeg = p := cl_nI (by omega)
      obtain ⟨k1, k2⟩ := hk p hpn
      obtain ⟨r1, r2, r3⟩ := hr p hpn
      have nx : (kd p = 5 ∨ ¬ ap % re p = 0) → J 41 [some (aR 4 0 0), some (aI (nI ap)), some (aI sv), some (aI (nI p))] [] M := by
        intro hno
        refine hgo [] _ _ _ _ ?_
        refine ih (p + 1) _ _ (by omega) (by omega) ?_ (nI_1 p)
        rw [hs]
        apply bs_cong
        intro i hi
        simp only [scF]
        rw [scF_s (n := n)]
        by_cases hip : i = p
        · subst hip
          rcases hno with q | q
          · simp [q]
          · simp [q]
        · simp [hip]
      refine hgo [] _ _ _ _ ?_
      refine brf (show ¬ M 4 0 0 4 ≤ nI p by rw [hn]; exact nI_ge hpn (by omega)) ?_
      refine ob_ (vp_in_nI (by omega) (by omega)) ?_
      refine br_ (fun h1 => ?_) (fun h1 => ?_)
      · have h1 : M 4 0 4 (nI p).toNatClampNeg = 5 := h1
        rw [e3, k1] at h1
        exact nx (Or.inl ((nI_eq (b := 5) (by omega) (by omega)).mp h1))
      · have h1 : ¬ M 4 0 4 (nI p).toNatClampNeg = 5 := h1
        rw [e3, k1] at h1
        have h1 : ¬ kd p = 5 := fun q => h1 (by rw [q]; rfl)
        refine ob_ (vp_in_nI (by omega) (by omega)) ?_
        refine cle (c_House_leftBy ap (re p) M (by omega) (by omega) (by omega)) ?_ rfl ?_
        · show [aI (nI ap), aI (M 4 0 8 (nI p).toNatClampNeg)] = _
          rw [e3, r1]
        refine br_ (fun h2 => ?_) (fun h2 => ?_)
        · have h2 : ap % re p = 0 := (nI_eq (b := 0) (by have := Nat.mod_lt ap (show 0 < re p by omega); omega) (by omega)).mp h2
          refine ih (p + 1) _ _ (by omega) (by omega) ?_ (nI_1 p)
          rw [hs, bs_add (by omega)]
          apply bs_cong
          intro i hi
          simp only [scF]
          rw [scF_s (n := n)]
          have h1b : (kd p == 5) = false := by simp [h1]
          simp [h1b, h2]
        · have h2 : ¬ ap % re p = 0 := fun q => h2 (by rw [q]; rfl)
          exact nx (Or.inr h2)
  refine hgo [4] _ _ _ _ ?_
  refine loop _ 0 _ _ rfl (by omega) ?_ rfl
  rw [← bs_0]
  exact bs_cong (fun i _ => by simp [scF])
theorem c_Main_scrap_state (h k : Int32) (M : am_M) (hn : M 4 0 0 0 = nI 0) : Con 4 mMain_scrap [aR 0 0 0, aI h, aI k] M (some (aI (-1000002))) M := by
  refine con_of okMain_scrap [some (aR 0 0 0), some (aI h), some (aI k)] (some .int) ?_
  intro J hgo
  refine hgo [] _ _ _ _ ?_
  refine cl_ (c_House_stands 0 0 _ hn (by omega)) ?_
  refine brbf (by omega) ?_
  exact ⟨rfl, rfl⟩
theorem c_Main_scrap_bad (w : Nat) (h k : Int32) (M : am_M) (hn : M 4 0 0 0 = nI w) (hw : 0 < w) (hw8 : w ≤ 8) (hb : ¬ ((0 ≤ h ∧ h ≤ 400) ∧ (0 ≤ k ∧ k ≤ 400))) : Con 4 mMain_scrap [aR 0 0 0, aI h, aI k] M (some (aI (-1000001))) M := by
  refine con_of okMain_scrap [some (aR 0 0 0), some (aI h), some (aI k)] (some .int) ?_
  intro J hgo
  have fin : J 35 [some (aR 0 0 0), some (aI h), some (aI k)] [] M := by
    refine hgo [] _ _ _ _ ?_
    exact ⟨rfl, rfl⟩
  refine hgo [] _ _ _ _ ?_
  refine cl_ (c_House_stands w 0 _ hn (by omega)) ?_
  refine brbt hw ?_
  refine hgo [35] _ _ _ _ ?_
  refine br_ (fun _ => fin) (fun h1 => ?_)
  refine br_ (fun _ => fin) (fun h2 => ?_)
  refine br_ (fun _ => fin) (fun h3 => ?_)
  refine brf (fun h4 => hb ?_) fin
  (simp only [vp_in_iff, i3_lt, i3_le, i3_eq, Int32.reduceToInt, i3_m1] at h1 h2 h3 h4 ⊢ <;> omega)
theorem c_Main_scrap_ok (w n a b : Nat) (kd re : Nat → Nat) (M : am_M) (hnw : M 4 0 0 0 = nI w) (hw : 0 < w) (hw8 : w ≤ 8) (ha : a ≤ 400) (hb : b ≤ 400) (hn : M 4 0 0 4 = nI n) (h10 : n ≤ 10) (hk : ∀ p, p < n → M 4 0 4 p = nI (kd p) ∧ kd p ≤ 5) (hr : ∀ p, p < n → M 4 0 8 p = nI (re p) ∧ 1 ≤ re p ∧ re p ≤ 99) : Con 4 mMain_scrap [aR 0 0 0, aI (nI a), aI (nI b)] M (some (aI (bs (scF n kd re (a - b + (b - a)))))) M := by
  refine con_of okMain_scrap [some (aR 0 0 0), some (aI (nI a)), some (aI (nI b))] (some .int) ?_
  intro J hgo
  refine hgo [] _ _ _ _ ?_
  refine cl_ (c_House_stands w 0 _ hnw (by omega)) ?_
  refine brbt hw ?_
  refine hgo [] _ _ _ _ ?_
  refine brf (nI_pos (by omega)) ?_
  refine brf (nI_nlt (a := 400) (b := a) (by omega) (by omega)) ?_
  refine brf (nI_pos (by omega)) ?_
  refine brt (nI_le (b := 400) hb (by omega)) ?_
  refine hgo [] _ _ _ _ ?_
  refine cl_ (c_Math_abs _ _) ?_
  refine cle (c_House_printedEvery n (a - b + (b - a)) kd re M hn h10 (by omega) hk hr) ?_ rfl ?_
  · have e0 : (if 0 ≤ nI a - nI b then nI a - nI b else -(nI a - nI b)) = nI (a - b + (b - a)) := by
      by_cases hab : b ≤ a
      · rw [pk_sub hab, if_pos (nI_pos' (by omega))]
        congr 1
        omega
      · have h1 : (nI a - nI b).toInt = (a : Int) - b := pk_sub_toInt (by omega) (by omega)
        rw [if_neg (by simp only [i3_le, Int32.reduceToInt]; omega), Int32.neg_sub, pk_sub (by omega)]
        congr 1
        omega
    rw [e0]
  · exact ⟨rfl, rfl⟩
theorem c_Ref_scrap_state (h k : Int32) (M : am_M) (hn : M 11 0 0 7 = 0) : Con 3 mRef_scrap [aR 11 0 0, aI h, aI k] M (some (aI (-1000002))) (rT M) := by
  refine con_of okRef_scrap [some (aR 11 0 0), some (aI h), some (aI k), none, none] (some .int) ?_
  intro J hgo
  refine hgo [] _ _ _ _ ?_
  refine brt hn ?_
  exact ⟨rfl, rfl⟩
theorem c_Ref_scrap_bad (h k : Int32) (M : am_M) (hn : M 11 0 0 7 = 1) (hb : ¬ ((0 ≤ h ∧ h ≤ 400) ∧ (0 ≤ k ∧ k ≤ 400))) : Con 3 mRef_scrap [aR 11 0 0, aI h, aI k] M (some (aI (-1000001))) (rT M) := by
  refine con_of okRef_scrap [some (aR 11 0 0), some (aI h), some (aI k), none, none] (some .int) ?_
  intro J hgo
  refine hgo [] _ _ _ _ ?_
  refine brf (show ¬ M 11 0 0 7 = 0 by rw [hn]; decide) ?_
  refine hgo [] _ _ _ _ ?_
  refine cl_ (c_Ref_in h 0 400 _ _ _ rfl (by decide) (by decide) _) ?_
  refine brb (fun h1 => ?_) (fun h1 => ?_)
  · refine hgo [] _ _ _ _ ?_
    exact ⟨rfl, rfl⟩
  · refine cl_ (c_Ref_in k 0 400 _ _ _ rfl (by decide) (by decide) _) ?_
    refine brbf (fun q => hb ⟨h1, q⟩) ?_
    exact ⟨rfl, rfl⟩
theorem dvd_abs {a b r : Nat} (hr : 0 < r) : (((a : Int) - b).tmod r = 0) ↔ (a - b + (b - a)) % r = 0 := by
  have h1 : ((a : Int) - b).tmod r = 0 ↔ (r : Int) ∣ ((a : Int) - b) := ⟨Int.dvd_of_tmod_eq_zero, Int.tmod_eq_zero_of_dvd⟩
  rw [h1, ← Nat.dvd_iff_mod_eq_zero, Int.ofNat_dvd_left]
  have e0 : ((a : Int) - b).natAbs = a - b + (b - a) := by omega
  rw [e0]
theorem c_Ref_scrap_ok (n a b : Nat) (kd re : Nat → Nat) (M : am_M) (hth : M 11 0 0 7 = 1) (ha : a ≤ 400) (hb : b ≤ 400) (hn : M 11 0 4 1 = nI n) (h10 : n ≤ 10) (hk : ∀ p, p < n → M 11 0 4 (28 + 5 * p) = nI (kd p) ∧ kd p ≤ 5) (hr : ∀ p, p < n → M 11 0 4 (32 + 5 * p) = nI (re p) ∧ 1 ≤ re p ∧ re p ≤ 99) : Con 3 mRef_scrap [aR 11 0 0, aI (nI a), aI (nI b)] M (some (aI (bs (scF n kd re (a - b + (b - a)))))) (rT M) := by
  refine con_of okRef_scrap [some (aR 11 0 0), some (aI (nI a)), some (aI (nI b)), none, none] (some .int) ?_
  intro J hgo
  have loop : ∀ m p sv pv, m = n - p → p ≤ n → sv = bs (scF p kd re (a - b + (b - a))) → pv = nI p → J 47 [some (aR 11 0 0), some (aI (nI a)), some (aI (nI b)), some (aI sv), some (aI pv)] [] (rT M) := by
    intro m
    induction m with
    | zero =>
      intro p sv pv hm hp hs hv
      obtain rfl : p = n := by omega
      subst hv
      refine hgo [] _ _ _ _ ?_
      refine ob_ (vp_in_nI (n := 1) (N := 198) (by omega) (by omega)) ?_
      refine brt (show M 11 0 4 1 ≤ nI p by rw [hn]; exact nI_le (Nat.le_refl _) (by omega)) ?_
      refine hgo [] _ _ _ _ ?_
      exact ⟨by rw [hs], rfl⟩
    | succ m ih =>
      intro p sv pv hm hp hs hv
      subst hv
      have hpn : p < n := by omega
      obtain ⟨k1, k2⟩ := hk p hpn
      obtain ⟨r1, r2, r3⟩ := hr p hpn
      have nx : (kd p = 5 ∨ ¬ (a - b + (b - a)) % re p = 0) → J 91 [some (aR 11 0 0), some (aI (nI a)), some (aI (nI b)), some (aI sv), some (aI (nI p))] [aI sv] (rT M) := by
        intro hno
        refine hgo [] _ _ _ _ ?_
        refine ih (p + 1) _ _ (by omega) (by omega) ?_ (nI_1 p)
        rw [hs, bs_or0]
        apply bs_cong
        intro i hi
        simp only [scF]
        rw [scF_s (n := n)]
        by_cases hip : i = p
        · subst hip
          rcases hno with q | q
          · simp [q]
          · simp [q]
        · simp [hip]
      refine hgo [] _ _ _ _ ?_
      refine ob_ (vp_in_nI (n := 1) (N := 198) (by omega) (by omega)) ?_
      refine brf (show ¬ M 11 0 4 1 ≤ nI p by rw [hn]; exact nI_ge hpn (by omega)) ?_
      refine cl_ (c_Ref_of p 0 _ (by omega) (by omega)) ?_
      refine br_ (fun h1 => ?_) (fun h1 => ?_)
      · have h1 : M 11 0 4 (28 + 5 * p) = 5 := h1
        rw [k1] at h1
        exact nx (Or.inl ((nI_eq (b := 5) (by omega) (by omega)).mp h1))
      · have h1 : ¬ M 11 0 4 (28 + 5 * p) = 5 := h1
        rw [k1] at h1
        have h1 : ¬ kd p = 5 := fun q => h1 (by rw [q]; rfl)
        refine cl_ (c_Ref_of p 4 _ (by omega) (by omega)) ?_
        have e5 : rT M 11 0 4 (28 + 5 * p + 4) = nI (re p) := by
          show M 11 0 4 (28 + 5 * p + 4) = _
          rw [← r1]
          congr 1
          omega
        refine ob_ (by rw [e5]; exact nI_ne0 (by omega) (by omega)) ?_
        have e6 : (nI a - nI b - (nI a - nI b) / nI (re p) * nI (re p)).toInt = ((a : Int) - b).tmod (re p) := by
          have e7 := i3_n (n := re p) (by omega)
          rw [i3_rem (by rw [pk_sub_toInt (by omega) (by omega)]; omega) (by rw [pk_sub_toInt (by omega) (by omega)]; omega) (by omega), pk_sub_toInt (by omega) (by omega), e7]
        rw [e5]
        refine br_ (fun h2 => ?_) (fun h2 => ?_)
        · have h2 : (a - b + (b - a)) % re p = 0 := by
            rw [← dvd_abs (by omega), ← e6, h2]
            rfl
          refine hgo [] _ _ _ _ ?_
          refine ih (p + 1) _ _ (by omega) (by omega) ?_ (nI_1 p)
          rw [hs, bs_add (by omega)]
          apply bs_cong
          intro i hi
          simp only [scF]
          rw [scF_s (n := n)]
          have h1b : (kd p == 5) = false := by simp [h1]
          simp [h1b, h2]
        · refine nx (Or.inr (fun q => h2 ?_))
          rw [← dvd_abs (by omega), ← e6] at q
          exact Int32.toInt_inj.mp (by rw [q]; rfl)
  refine hgo [] _ _ _ _ ?_
  refine brf (show ¬ M 11 0 0 7 = 0 by rw [hth]; decide) ?_
  refine hgo [] _ _ _ _ ?_
  refine cl_ (c_Ref_in (nI a) 0 400 _ _ _ rfl (by decide) (by decide) _) ?_
  refine brbt ⟨nI_pos' (by omega), nI_le (b := 400) ha (by omega)⟩ ?_
  refine cl_ (c_Ref_in (nI b) 0 400 _ _ _ rfl (by decide) (by decide) _) ?_
  refine brbt ⟨nI_pos' (by omega), nI_le (b := 400) hb (by omega)⟩ ?_
  refine hgo [47] _ _ _ _ ?_
  refine loop _ 0 _ _ rfl (by omega) ?_ rfl
  rw [← bs_0]
  exact bs_cong (fun i _ => by simp [scF])
/-- the papers' numbers as functions -/
theorem Rel_papF {M : am_M} (hR : Rel M) : (∀ p, p < nP (M 11 0 4) → M 4 0 4 p = nI (hN (M 11 0 4) (28 + 5 * p)) ∧ M 11 0 4 (28 + 5 * p) = nI (hN (M 11 0 4) (28 + 5 * p)) ∧ 1 ≤ hN (M 11 0 4) (28 + 5 * p) ∧ hN (M 11 0 4) (28 + 5 * p) ≤ 5) ∧ (∀ p, p < nP (M 11 0 4) → M 4 0 8 p = nI (hN (M 11 0 4) (32 + 5 * p)) ∧ M 11 0 4 (32 + 5 * p) = nI (hN (M 11 0 4) (32 + 5 * p)) ∧ 1 ≤ hN (M 11 0 4) (32 + 5 * p) ∧ hN (M 11 0 4) (32 + 5 * p) ≤ 99) := by
  refine ⟨fun p hp => ?_, fun p hp => ?_⟩
  · obtain ⟨kd, md, la, pr, re, ⟨g1, g2, g3, g4⟩, -⟩ := Rel_pap hR hp
    have : hN (M 11 0 4) (28 + 5 * p) = kd := by unfold hN; rw [g2]; exact cl_nI (by omega)
    rw [this]
    exact ⟨g1, g2, g3, g4⟩
  · obtain ⟨kd, md, la, pr, re, -, -, -, -, g1, g2, g3, g4⟩ := Rel_pap hR hp
    have : hN (M 11 0 4) (32 + 5 * p) = re := by unfold hN; rw [g2]; exact cl_nI (by omega)
    rw [this]
    exact ⟨g1, g2, g3, g4⟩
theorem Rel_there {M : am_M} (hR : Rel M) : (nW (M 11 0 4) = 0 ∧ M 11 0 0 7 = 0) ∨ (0 < nW (M 11 0 4) ∧ M 11 0 0 7 = 1) := by
  have h := hR.2.2.2.1.2.2.1
  by_cases hw : 0 < nW (M 11 0 4)
  · exact Or.inr ⟨hw, by rw [h, b2i_t hw]⟩
  · exact Or.inl ⟨by omega, by rw [h, b2i_f hw]⟩
theorem op_scrap (h k : Int32) (M : am_M) (hR : Rel M) : OpAt mMain_scrap mRef_scrap [aI h, aI k] M := by
  obtain ⟨w1, w2, w3⟩ := Rel_nw hR
  obtain ⟨p1, p2, p3⟩ := Rel_np hR
  rcases Rel_there hR with ⟨t1, t2⟩ | ⟨t1, t2⟩
  · rw [t1] at w1
    exact op_mk (c_Main_scrap_state h k M w1) (c_Ref_scrap_state h k M t2) (Rel_bad hR)
  · by_cases hb : (0 ≤ h ∧ h ≤ 400) ∧ (0 ≤ k ∧ k ≤ 400)
    · obtain ⟨a, ha, rfl⟩ := intN (a := h) (m := 401) (by have := hb.1; (simp only [vp_in_iff, i3_lt, i3_le, i3_eq, Int32.reduceToInt, i3_m1] at this ⊢ <;> omega))
      obtain ⟨b, hb2, rfl⟩ := intN (a := k) (m := 401) (by have := hb.2; (simp only [vp_in_iff, i3_lt, i3_le, i3_eq, Int32.reduceToInt, i3_m1] at this ⊢ <;> omega))
      obtain ⟨f1, f2⟩ := Rel_papF hR
      exact op_mk (c_Main_scrap_ok _ _ a b (fun p => hN (M 11 0 4) (28 + 5 * p)) (fun p => hN (M 11 0 4) (32 + 5 * p)) M w1 t1 w3 (by omega) (by omega) p1 p3 (fun p hp => ⟨(f1 p hp).1, (f1 p hp).2.2.2⟩) (fun p hp => ⟨(f2 p hp).1, (f2 p hp).2.2⟩)) (c_Ref_scrap_ok _ a b (fun p => hN (M 11 0 4) (28 + 5 * p)) (fun p => hN (M 11 0 4) (32 + 5 * p)) M t2 (by omega) (by omega) p2 p3 (fun p hp => ⟨(f1 p hp).2.1, (f1 p hp).2.2.2⟩) (fun p hp => ⟨(f2 p hp).2.1, (f2 p hp).2.2⟩)) (Rel_bad hR)
    · exact op_mk (c_Main_scrap_bad _ h k M w1 t1 w3 hb) (c_Ref_scrap_bad h k M t2 hb) (Rel_bad hR)
