/-! tells -/
theorem lt11 {k : Nat} (h : k < 11) : k = 0 ∨ k = 1 ∨ k = 2 ∨ k = 3 ∨ k = 4 ∨ k = 5 ∨ k = 6 ∨ k = 7 ∨ k = 8 ∨ k = 9 ∨ k = 10 := by omega
theorem shl1 {n : Nat} (h : n < 11) : (1 : Int32) <<< (nI n &&& 31) = nI (2 ^ n) := by
  rcases lt11 h with rfl | rfl | rfl | rfl | rfl | rfl | rfl | rfl | rfl | rfl | rfl <;> decide
theorem p2le {n : Nat} (h : n < 11) : 2 ^ n ≤ 1024 := by
  rcases lt11 h with rfl | rfl | rfl | rfl | rfl | rfl | rfl | rfl | rfl | rfl | rfl <;> decide
theorem c_Main_isSetOf (x : Int32) (n : Nat) (M : am_M) (hn : n < 11) : Con 1 mMain_isSetOf [aI x, aI (nI n)] M (some (aI (b2i (0 ≤ x.toInt ∧ x.toInt < (2 ^ n : Nat))))) M := by
  have e0 := i3_n (n := 2 ^ n) (by have := p2le hn; omega)
  refine con_of okMain_isSetOf [some (aI x), some (aI (nI n))] (some .boolean) ?_
  intro J hgo
  refine hgo [] _ _ _ _ ?_
  refine br_ (fun h1 => ?_) (fun h1 => ?_)
  · refine hgo [] _ _ _ _ ?_
    refine ob_ (by decide) ⟨?_, rfl⟩
    simp only [i3_lt, Int32.reduceToInt] at h1
    rw [b2i_f (by omega)]
  · refine br_ (fun h2 => ?_) (fun h2 => ?_)
    · refine hgo [] _ _ _ _ ?_
      refine ob_ (by decide) ⟨?_, rfl⟩
      rw [shl1 hn] at h2
      simp only [i3_lt, i3_le, Int32.reduceToInt] at h1 h2
      rw [b2i_f (by omega)]
    · refine hgo [] _ _ _ _ ?_
      refine ob_ (by decide) ⟨?_, rfl⟩
      rw [shl1 hn] at h2
      simp only [i3_lt, i3_le, Int32.reduceToInt] at h1 h2
      rw [b2i_t (by omega)]
def bad2 (re : Nat → Nat) (f : Nat → Bool) (len a b : Nat) : Bool := f a && (f b && (re a % len == re b % len))
def tbB (n : Nat) (re : Nat → Nat) (f : Nat → Bool) (len : Nat) : Bool := !exB (fun b => exB (fun a => bad2 re f len a b) b) n
theorem tbB_f {n : Nat} {re : Nat → Nat} {f : Nat → Bool} {len a b : Nat} (hab : a < b) (hb : b < n) (h : bad2 re f len a b = true) : tbB n re f len = false := by
  unfold tbB
  have h1 : exB (fun b => exB (fun a => bad2 re f len a b) b) n = true := exB_iff.mpr ⟨b, hb, exB_iff.mpr ⟨a, hab, h⟩⟩
  rw [h1]
  rfl
theorem tbB_t {n : Nat} {re : Nat → Nat} {f : Nat → Bool} {len : Nat} (h : ∀ a b, a < b → b < n → bad2 re f len a b = false) : tbB n re f len = true := by
  unfold tbB
  rw [Bool.not_eq_true', ← Bool.not_eq_true]
  intro q
  obtain ⟨b, hb, q2⟩ := exB_iff.mp q
  obtain ⟨a, ha, q3⟩ := exB_iff.mp q2
  rw [h a b ha hb] at q3
  cases q3
theorem c_House_isToldBy (n len : Nat) (re : Nat → Nat) (f : Nat → Bool) (M : am_M) (hn : M 4 0 0 4 = nI n) (h10 : n ≤ 10) (hl : 1 ≤ len) (hl2 : len ≤ 99) (hr : ∀ p, p < n → M 4 0 8 p = nI (re p) ∧ 1 ≤ re p ∧ re p ≤ 99) : Con 2 mHouse_isToldBy [aR 4 0 0, aI (bs f), aI (nI len)] M (some (aI (b2i (tbB n re f len = true)))) M := by
  refine con_of okHouse_isToldBy [some (aR 4 0 0), some (aI (bs f)), some (aI (nI len)), none, none, none] (some .boolean) ?_
  intro J hgo
  have outer : ∀ m a av (y z : Option am_V), m = n - a → a ≤ n → av = nI a → (∀ a2 b, a2 < a → a2 < b → b < n → bad2 re f len a2 b = false) → J 2 [some (aR 4 0 0), some (aI (bs f)), some (aI (nI len)), some (aI av), y, z] [] M := by
    intro m
    induction m with
    | zero =>
      intro a av y z hm ha hv hI
      obtain rfl : a = n := by omega
      subst hv
      refine hgo [] _ _ _ _ ?_
      refine brt (show M 4 0 0 4 ≤ nI a by rw [hn]; exact nI_le (Nat.le_refl _) (by omega)) ?_
      refine hgo [] _ _ _ _ ?_
      refine ob_ (by decide) ⟨?_, rfl⟩
      rw [b2i_t (tbB_t (fun a2 b h1 h2 => hI a2 b (by omega) h1 h2))]
    | succ m ih =>
      intro a av y z hm ha hv hI
      subst hv
      have han : a < n := by omega
      obtain ⟨r1, r2, r3⟩ := hr a han
      have inner : ∀ q b bv (z : Option am_V), q = n - b → a < b → b ≤ n → bv = nI b → (∀ b2, a < b2 → b2 < b → bad2 re f len a b2 = false) → J 15 [some (aR 4 0 0), some (aI (bs f)), some (aI (nI len)), some (aI (nI a)), some (aI bv), z] [] M := by
        intro q
        induction q with
        | zero =>
          intro b bv z hq hab hb hv hI2
          obtain rfl : b = n := by omega
          subst hv
          refine hgo [] _ _ _ _ ?_
          refine brt (show M 4 0 0 4 ≤ nI b by rw [hn]; exact nI_le (Nat.le_refl _) (by omega)) ?_
          refine hgo [] _ _ _ _ ?_
          refine ih (a + 1) _ _ _ (by omega) (by omega) (nI_1 a) (fun a2 b2 h1 h2 h3 => ?_)
          by_cases he : a2 = a
          · subst he; exact hI2 b2 h2 h3
          · exact hI a2 b2 (by omega) h2 h3
        | succ q ih2 =>
          intro b bv z hq hab hb hv hI2
          subst hv
          have hbn : b < n := by omega
          obtain ⟨s1, s2, s3⟩ := hr b hbn
          have nx : ∀ z : Option am_V, bad2 re f len a b = false → J 79 [some (aR 4 0 0), some (aI (bs f)), some (aI (nI len)), some (aI (nI a)), some (aI (nI b)), z] [] M := by
            intro z hg
            refine hgo [] _ _ _ _ ?_
            refine ih2 (b + 1) _ _ (by omega) (by omega) (by omega) (nI_1 b) (fun b2 h1 h2 => ?_)
            by_cases he : b2 = b
            · subst he; exact hg
            · exact hI2 b2 h1 (by omega)
          refine hgo [] _ _ _ _ ?_
          refine brf (show ¬ M 4 0 0 4 ≤ nI b by rw [hn]; exact nI_ge hbn (by omega)) ?_
          refine cl_ (c_Main_has f a _ (by omega)) ?_
          refine brb (fun h1 => ?_) (fun h1 => ?_)
          · refine hgo [] _ _ _ _ ?_
            refine brt rfl ?_
            exact nx _ (by simp [bad2, h1])
          · refine cl_ (c_Main_has f b _ (by omega)) ?_
            refine brb (fun h2 => ?_) (fun h2 => ?_)
            · refine hgo [] _ _ _ _ ?_
              refine brt rfl ?_
              exact nx _ (by simp [bad2, h2])
            · refine hgo [] _ _ _ _ ?_
              refine brf (by decide) ?_
              refine ob_ (vp_in_nI (by omega) (by omega)) ?_
              refine cle (c_House_leftBy (re a) len M (by omega) (by omega) (by omega)) ?_ rfl ?_
              · show [aI (M 4 0 8 (nI a).toNatClampNeg), aI (nI len)] = _
                rw [cl_nI (by omega), r1]
              refine ob_ (vp_in_nI (by omega) (by omega)) ?_
              refine cle (c_House_leftBy (re b) len M (by omega) (by omega) (by omega)) ?_ rfl ?_
              · show [aI (M 4 0 8 (nI b).toNatClampNeg), aI (nI len)] = _
                rw [cl_nI (by omega), s1]
              have l1 := Nat.mod_lt (re a) (show 0 < len by omega)
              have l2 := Nat.mod_lt (re b) (show 0 < len by omega)
              refine br_ (fun h3 => ?_) (fun h3 => ?_)
              · have h3 : re a % len = re b % len := (nI_eq (by omega) (by omega)).mp h3
                refine ob_ (by decide) ⟨?_, rfl⟩
                rw [b2i_f (by rw [tbB_f hab hbn (by simp [bad2, h1, h2, h3])]; decide)]
              · have h3 : ¬ re a % len = re b % len := fun e => h3 (by rw [e])
                exact nx _ (by simp [bad2, h3])
      refine hgo [15] _ _ _ _ ?_
      refine brf (show ¬ M 4 0 0 4 ≤ nI a by rw [hn]; exact nI_ge han (by omega)) ?_
      exact inner _ (a + 1) _ _ rfl (by omega) (by omega) (nI_1 a) (fun b2 h1 h2 => by omega)
  refine hgo [2] _ _ _ _ ?_
  exact outer _ 0 _ _ _ rfl (by omega) rfl (fun a2 b h1 => by omega)
def tlF (n : Nat) (re : Nat → Nat) (f : Nat → Bool) : Nat → Nat → Int32
  | 0, _ => -1000000
  | m + 1, l => if tbB n re f l = true then nI l else tlF n re f m (l + 1)
theorem c_Main_tells_state (x : Int32) (M : am_M) (hn : M 4 0 0 0 = nI 0) : Con 4 mMain_tells [aR 0 0 0, aI x] M (some (aI (-1000002))) M := by
  refine con_of okMain_tells [some (aR 0 0 0), some (aI x), none] (some .int) ?_
  intro J hgo
  refine hgo [] _ _ _ _ ?_
  refine cl_ (c_House_stands 0 0 _ hn (by omega)) ?_
  refine brbf (by omega) ?_
  exact ⟨rfl, rfl⟩
theorem c_Main_tells_bad (w n : Nat) (x : Int32) (M : am_M) (hnw : M 4 0 0 0 = nI w) (hw : 0 < w) (hw8 : w ≤ 8) (hn : M 4 0 0 4 = nI n) (h10 : n ≤ 10) (hb : ¬ (0 ≤ x.toInt ∧ x.toInt < (2 ^ n : Nat))) : Con 4 mMain_tells [aR 0 0 0, aI x] M (some (aI (-1000001))) M := by
  refine con_of okMain_tells [some (aR 0 0 0), some (aI x), none] (some .int) ?_
  intro J hgo
  refine hgo [] _ _ _ _ ?_
  refine cl_ (c_House_stands w 0 _ hnw (by omega)) ?_
  refine brbt hw ?_
  refine hgo [] _ _ _ _ ?_
  refine cle (c_Main_isSetOf x n M (by omega)) (by show [aI x, aI (M 4 0 0 4)] = _; rw [hn]) rfl ?_
  refine brbf hb ?_
  exact ⟨rfl, rfl⟩
theorem c_Main_tells_ok (w n : Nat) (x : Int32) (f : Nat → Bool) (re : Nat → Nat) (M : am_M) (hnw : M 4 0 0 0 = nI w) (hw : 0 < w) (hw8 : w ≤ 8) (hn : M 4 0 0 4 = nI n) (h10 : n ≤ 10) (hb : 0 ≤ x.toInt ∧ x.toInt < (2 ^ n : Nat)) (hx : x = bs f) (hr : ∀ p, p < n → M 4 0 8 p = nI (re p) ∧ 1 ≤ re p ∧ re p ≤ 99) : Con 4 mMain_tells [aR 0 0 0, aI x] M (some (aI (tlF n re f 99 1))) M := by
  refine con_of okMain_tells [some (aR 0 0 0), some (aI x), none] (some .int) ?_
  intro J hgo
  have loop : ∀ m l lv, l + m = 100 → lv = nI l → 1 ≤ l → tlF n re f m l = tlF n re f 99 1 → J 32 [some (aR 0 0 0), some (aI x), some (aI lv)] [] M := by
    intro m
    induction m with
    | zero =>
      intro l lv hm hv hl he
      obtain rfl : l = 100 := by omega
      subst hv
      refine hgo [] _ _ _ _ ?_
      refine brt (by decide) ?_
      refine hgo [] _ _ _ _ ?_
      exact ⟨by rw [← he]; rfl, rfl⟩
    | succ m ih =>
      intro l lv hm hv hl he
      subst hv
      refine hgo [] _ _ _ _ ?_
      refine brf (nI_nlt (a := 99) (b := l) (by omega) (by omega)) ?_
      refine cle (c_House_isToldBy n l re f M hn h10 hl (by omega) hr) (by rw [hx]) rfl ?_
      refine brb (fun h1 => ?_) (fun h1 => ?_)
      · refine hgo [] _ _ _ _ ?_
        refine ih (l + 1) _ (by omega) (nI_1 l) (by omega) ?_
        rw [← he]
        show _ = if tbB n re f l = true then nI l else tlF n re f m (l + 1)
        rw [if_neg h1]
      · refine ⟨?_, rfl⟩
        rw [← he]
        show _ = some (aI (if tbB n re f l = true then nI l else tlF n re f m (l + 1)))
        rw [if_pos h1]
  refine hgo [] _ _ _ _ ?_
  refine cl_ (c_House_stands w 0 _ hnw (by omega)) ?_
  refine brbt hw ?_
  refine hgo [] _ _ _ _ ?_
  refine cle (c_Main_isSetOf x n M (by omega)) (by show [aI x, aI (M 4 0 0 4)] = _; rw [hn]) rfl ?_
  refine brbt hb ?_
  refine hgo [32] _ _ _ _ ?_
  exact loop 99 1 _ rfl rfl (by omega) rfl
/-! the reference -/
theorem c_Ref_tellsBy (n len : Nat) (re : Nat → Nat) (f : Nat → Bool) (M : am_M) (hn : M 11 0 4 1 = nI n) (h10 : n ≤ 10) (hl : 1 ≤ len) (hl2 : len ≤ 99) (hr : ∀ p, p < n → M 11 0 4 (32 + 5 * p) = nI (re p) ∧ 1 ≤ re p ∧ re p ≤ 99) : Con 2 mRef_tellsBy [aR 11 0 0, aI (bs f), aI (nI len)] M (some (aI (b2i (tbB n re f len = true)))) M := by
  have hr2 : ∀ p, p < n → M 11 0 4 (28 + 5 * p + 4) = nI (re p) := by
    intro p hp
    rw [← (hr p hp).1]
    congr 1
    omega
  refine con_of okRef_tellsBy [some (aR 11 0 0), some (aI (bs f)), some (aI (nI len)), none, none, none, none] (some .boolean) ?_
  intro J hgo
  have outer : ∀ m b bv iv (y z : Option am_V), m = n - b → b ≤ n → bv = nI b → iv = b2i (tbB b re f len = true) → J 5 [some (aR 11 0 0), some (aI (bs f)), some (aI (nI len)), some (aI iv), some (aI bv), y, z] [] M := by
    intro m
    induction m with
    | zero =>
      intro b bv iv y z hm hb hv hi
      obtain rfl : b = n := by omega
      subst hv
      refine hgo [] _ _ _ _ ?_
      refine ob_ (vp_in_nI (n := 1) (N := 198) (by omega) (by omega)) ?_
      refine brt (show M 11 0 4 1 ≤ nI b by rw [hn]; exact nI_le (Nat.le_refl _) (by omega)) ?_
      refine hgo [] _ _ _ _ ?_
      refine ob_ (by rw [hi]; exact nar_b) ⟨?_, rfl⟩
      rw [hi]
    | succ m ih =>
      intro b bv iv y z hm hb hv hi
      subst hv
      have hbn : b < n := by omega
      obtain ⟨s1, s2, s3⟩ := hr b hbn
      have inner : ∀ q a av iv (z : Option am_V), q = b - a → a ≤ b → av = nI a → iv = b2i ((tbB b re f len && !exB (fun a => bad2 re f len a b) a) = true) → J 19 [some (aR 11 0 0), some (aI (bs f)), some (aI (nI len)), some (aI iv), some (aI (nI b)), some (aI av), z] [] M := by
        intro q
        induction q with
        | zero =>
          intro a av iv z hq ha hv hi
          obtain rfl : a = b := by omega
          subst hv
          refine hgo [] _ _ _ _ ?_
          refine brt (nI_le (Nat.le_refl _) (by omega)) ?_
          refine hgo [] _ _ _ _ ?_
          refine ih (a + 1) _ _ _ _ (by omega) (by omega) (nI_1 a) ?_
          rw [hi]
          apply b2i_iff
          have : tbB (a + 1) re f len = (tbB a re f len && !exB (fun a2 => bad2 re f len a2 a) a) := by
            simp only [tbB, exB, Bool.not_or]
          rw [this]
        | succ q ih2 =>
          intro a av iv z hq ha hv hi
          subst hv
          obtain ⟨r1, r2, r3⟩ := hr a (by omega)
          have key : ∀ c : Bool, (tbB b re f len && !exB (fun a => bad2 re f len a b) (a + 1)) = ((tbB b re f len && !exB (fun a => bad2 re f len a b) a) && !bad2 re f len a b) := by
            intro _
            simp only [exB, Bool.not_or, Bool.and_assoc]
          have st : ∀ (z : Option am_V) (r : Int32), r = b2i (((tbB b re f len && !exB (fun a => bad2 re f len a b) a) && !bad2 re f len a b) = true) → J 86 [some (aR 11 0 0), some (aI (bs f)), some (aI (nI len)), some (aI iv), some (aI (nI b)), some (aI (nI a)), z] [aI r] M := by
            intro z r hr0
            refine hgo [] _ _ _ _ ?_
            refine ih2 (a + 1) _ _ _ (by omega) (by omega) (nI_1 a) ?_
            rw [hr0]
            apply b2i_iff
            rw [key true]
          have dead : ∀ z : Option am_V, iv = 0 → J 85 [some (aR 11 0 0), some (aI (bs f)), some (aI (nI len)), some (aI iv), some (aI (nI b)), some (aI (nI a)), z] [] M := by
            intro z h0
            refine hgo [86] _ _ _ _ ?_
            refine st _ _ ?_
            rw [hi] at h0
            have h0 := b2i_0.mp h0
            rw [b2i_f (fun q => h0 ((Bool.and_eq_true _ _).mp q).1)]
          have live : ∀ z : Option am_V, ¬ iv = 0 → bad2 re f len a b = false → J 81 [some (aR 11 0 0), some (aI (bs f)), some (aI (nI len)), some (aI iv), some (aI (nI b)), some (aI (nI a)), z] [] M := by
            intro z h0 hg
            refine hgo [] _ _ _ _ ?_
            refine st _ _ ?_
            rw [hi] at h0
            have h0 := Decidable.not_not.mp (fun q => h0 (b2i_0.mpr q))
            rw [b2i_t (by rw [h0, hg]; rfl)]
          refine hgo [] _ _ _ _ ?_
          refine brf (nI_ge (by omega) (by omega)) ?_
          refine cl_ (c_Ref_isIn f b _ (by omega)) ?_
          refine brb (fun h1 => ?_) (fun h1 => ?_)
          · refine hgo [] _ _ _ _ ?_
            refine br_ (fun h0 => dead _ h0) (fun h0 => ?_)
            refine brt rfl ?_
            exact live _ h0 (by simp [bad2, h1])
          · refine cl_ (c_Ref_isIn f a _ (by omega)) ?_
            refine brb (fun h2 => ?_) (fun h2 => ?_)
            · refine hgo [] _ _ _ _ ?_
              refine br_ (fun h0 => dead _ h0) (fun h0 => ?_)
              refine brt rfl ?_
              exact live _ h0 (by simp [bad2, h2])
            · refine hgo [] _ _ _ _ ?_
              refine br_ (fun h0 => dead _ h0) (fun h0 => ?_)
              refine brf (by decide) ?_
              refine cl_ (c_Ref_of b 4 _ (by omega) (by omega)) ?_
              rw [hr2 b hbn]
              refine ob_ (nI_ne0 (by omega) (by omega)) ?_
              refine cl_ (c_Ref_of a 4 _ (by omega) (by omega)) ?_
              rw [hr2 a (by omega)]
              refine ob_ (nI_ne0 (by omega) (by omega)) ?_
              rw [rem_nI (by omega) (by omega) (by omega), rem_nI (by omega) (by omega) (by omega)]
              have l1 := Nat.mod_lt (re a) (show 0 < len by omega)
              have l2 := Nat.mod_lt (re b) (show 0 < len by omega)
              refine br_ (fun h3 => ?_) (fun h3 => ?_)
              · have h3 : re b % len = re a % len := (nI_eq (by omega) (by omega)).mp h3
                refine hgo [86] _ _ _ _ ?_
                refine st _ _ ?_
                rw [b2i_f (by simp [bad2, h1, h2, h3])]
              · have h3 : ¬ re a % len = re b % len := fun e => h3 (by rw [e])
                refine st _ _ ?_
                rw [hi] at h0
                have h0 := Decidable.not_not.mp (fun q => h0 (b2i_0.mpr q))
                rw [b2i_t (by rw [h0]; simp [bad2, h3])]
      refine hgo [19] _ _ _ _ ?_
      refine ob_ (vp_in_nI (n := 1) (N := 198) (by omega) (by omega)) ?_
      refine brf (show ¬ M 11 0 4 1 ≤ nI b by rw [hn]; exact nI_ge hbn (by omega)) ?_
      refine inner _ 0 _ _ _ rfl (by omega) rfl ?_
      rw [hi]
      apply b2i_iff
      simp [exB]
  refine hgo [5] _ _ _ _ ?_
  exact outer _ 0 _ _ _ _ rfl (by omega) rfl rfl
theorem c_Ref_tells_state (x : Int32) (M : am_M) (hn : M 11 0 0 7 = 0) : Con 4 mRef_tells [aR 11 0 0, aI x] M (some (aI (-1000002))) (rT M) := by
  refine con_of okRef_tells [some (aR 11 0 0), some (aI x), none] (some .int) ?_
  intro J hgo
  refine hgo [] _ _ _ _ ?_
  refine brt hn ?_
  exact ⟨rfl, rfl⟩
theorem setIn {x : Int32} {n : Nat} (hn : n < 11) : (0 ≤ x ∧ x ≤ (1 : Int32) <<< (nI n &&& 31) - 1) ↔ (0 ≤ x.toInt ∧ x.toInt < (2 ^ n : Nat)) := by
  have h1 := p2le hn
  have h2 : 0 < 2 ^ n := Nat.two_pow_pos n
  have h3 : nI (2 ^ n) - 1 = nI (2 ^ n - 1) := pk_sub (a := 2 ^ n) (b := 1) h2
  rw [shl1 hn, h3]
  have e0 := i3_n (n := 2 ^ n - 1) (by omega)
  simp only [i3_le, Int32.reduceToInt]
  rw [e0]
  omega
theorem c_Ref_tells_bad (n : Nat) (x : Int32) (M : am_M) (hth : M 11 0 0 7 = 1) (hn : M 11 0 4 1 = nI n) (h10 : n ≤ 10) (hb : ¬ (0 ≤ x.toInt ∧ x.toInt < (2 ^ n : Nat))) : Con 4 mRef_tells [aR 11 0 0, aI x] M (some (aI (-1000001))) (rT M) := by
  refine con_of okRef_tells [some (aR 11 0 0), some (aI x), none] (some .int) ?_
  intro J hgo
  refine hgo [] _ _ _ _ ?_
  refine brf (show ¬ M 11 0 0 7 = 0 by rw [hth]; decide) ?_
  refine hgo [] _ _ _ _ ?_
  refine ob_ (vp_in_nI (n := 1) (N := 198) (by omega) (by omega)) ?_
  refine cl_ (c_Ref_in x 0 ((1 : Int32) <<< (M 11 0 4 1 &&& 31) - 1) _ _ _ rfl (by decide) rfl _) ?_
  refine brbf (by rw [hn, setIn (by omega)]; exact hb) ?_
  exact ⟨rfl, rfl⟩
theorem c_Ref_tells_ok (n : Nat) (x : Int32) (f : Nat → Bool) (re : Nat → Nat) (M : am_M) (hth : M 11 0 0 7 = 1) (hn : M 11 0 4 1 = nI n) (h10 : n ≤ 10) (hb : 0 ≤ x.toInt ∧ x.toInt < (2 ^ n : Nat)) (hx : x = bs f) (hr : ∀ p, p < n → M 11 0 4 (32 + 5 * p) = nI (re p) ∧ 1 ≤ re p ∧ re p ≤ 99) : Con 4 mRef_tells [aR 11 0 0, aI x] M (some (aI (tlF n re f 99 1))) (rT M) := by
  refine con_of okRef_tells [some (aR 11 0 0), some (aI x), none] (some .int) ?_
  intro J hgo
  have loop : ∀ m l lv, l + m = 100 → lv = nI l → 1 ≤ l → tlF n re f m l = tlF n re f 99 1 → J 40 [some (aR 11 0 0), some (aI x), some (aI lv)] [] (rT M) := by
    intro m
    induction m with
    | zero =>
      intro l lv hm hv hl he
      obtain rfl : l = 100 := by omega
      subst hv
      refine hgo [] _ _ _ _ ?_
      refine brt (by decide) ?_
      refine hgo [] _ _ _ _ ?_
      exact ⟨by rw [← he]; rfl, rfl⟩
    | succ m ih =>
      intro l lv hm hv hl he
      subst hv
      refine hgo [] _ _ _ _ ?_
      refine brf (nI_ge (b := 100) (by omega) (by omega)) ?_
      refine cle (c_Ref_tellsBy n l re f (rT M) hn h10 hl (by omega) hr) (by rw [hx]) rfl ?_
      refine brb (fun h1 => ?_) (fun h1 => ?_)
      · refine hgo [] _ _ _ _ ?_
        refine ih (l + 1) _ (by omega) (nI_1 l) (by omega) ?_
        rw [← he]
        show _ = if tbB n re f l = true then nI l else tlF n re f m (l + 1)
        rw [if_neg h1]
      · refine ⟨?_, rfl⟩
        rw [← he]
        show _ = some (aI (if tbB n re f l = true then nI l else tlF n re f m (l + 1)))
        rw [if_pos h1]
  refine hgo [] _ _ _ _ ?_
  refine brf (show ¬ M 11 0 0 7 = 0 by rw [hth]; decide) ?_
  refine hgo [] _ _ _ _ ?_
  refine ob_ (vp_in_nI (n := 1) (N := 198) (by omega) (by omega)) ?_
  refine cl_ (c_Ref_in x 0 ((1 : Int32) <<< (M 11 0 4 1 &&& 31) - 1) _ _ _ rfl (by decide) rfl _) ?_
  refine brbt (by rw [hn, setIn (by omega)]; exact hb) ?_
  refine hgo [40] _ _ _ _ ?_
  exact loop 99 1 _ rfl rfl (by omega) rfl
theorem op_tells (x : Int32) (M : am_M) (hR : Rel M) : OpAt mMain_tells mRef_tells [aI x] M := by
  obtain ⟨w1, w2, w3⟩ := Rel_nw hR
  obtain ⟨p1, p2, p3⟩ := Rel_np hR
  rcases Rel_there hR with ⟨t1, t2⟩ | ⟨t1, t2⟩
  · rw [t1] at w1
    exact op_mk (c_Main_tells_state x M w1) (c_Ref_tells_state x M t2) (Rel_bad hR)
  · by_cases hb : 0 ≤ x.toInt ∧ x.toInt < (2 ^ nP (M 11 0 4) : Nat)
    · have := p2le (show nP (M 11 0 4) < 11 by omega)
      obtain ⟨f, hf, -⟩ := bs_ofx hb.1 (by omega)
      obtain ⟨f1, f2⟩ := Rel_papF hR
      exact op_mk (c_Main_tells_ok _ _ x f (fun p => hN (M 11 0 4) (32 + 5 * p)) M w1 t1 w3 p1 p3 hb hf (fun p hp => ⟨(f2 p hp).1, (f2 p hp).2.2⟩)) (c_Ref_tells_ok _ x f (fun p => hN (M 11 0 4) (32 + 5 * p)) M t2 p2 p3 hb hf (fun p hp => ⟨(f2 p hp).2.1, (f2 p hp).2.2⟩)) (Rel_bad hR)
    · exact op_mk (c_Main_tells_bad _ _ x M w1 t1 w3 p1 p3 hb) (c_Ref_tells_bad _ x M t2 p2 p3 hb) (Rel_bad hR)
