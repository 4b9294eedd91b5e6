/-! rolls -/
def c1 (len : Int32) (s : Int32 × Int32 × Int32) : Int32 × Int32 × Int32 := (s.1 + 1, (if s.2.2 < len then s.2.1 + 1 else s.2.1), (if s.2.2 < len then 1000 else s.2.2) - len)
def cN (len : Int32) : Nat → Int32 × Int32 × Int32 → Int32 × Int32 × Int32
  | 0, s => s
  | n + 1, s => c1 len (cN len n s)
def cW (f : Nat → Bool) (len : Nat → Int32) (cnt : Nat → Nat) : Nat → Int32 × Int32 × Int32
  | 0 => (0, 0, 0)
  | w + 1 => if f w = true then cN (len w) (cnt w) (cW f len cnt w) else cW f len cnt w
def wS (f : Nat → Bool) (wd : Nat → Int32) : Nat → Int32
  | 0 => 0
  | w + 1 => if f w = true then wS f wd w + wd w else wS f wd w
def CS (M2 M : am_M) (s : Int32 × Int32 × Int32) : Prop := (∀ k, k ≠ 9 → M2 k = M k) ∧ M2 9 0 0 0 = s.1 ∧ M2 9 0 0 1 = s.2.1 ∧ M2 9 0 0 2 = s.2.2
def lenI (hg re : Int32) : Int32 := (hg + re - 1) / re * re
theorem c_Main_partsUp (a p : Int32) (M : am_M) (hp : 0 < p) : Con 1 mMain_partsUp [aI a, aI p] M (some (aI ((a + p - 1) / p))) M := by
  refine con_of okMain_partsUp [some (aI a), some (aI p)] (some .int) ?_
  intro J hgo
  refine hgo [] _ _ _ _ ?_
  refine brt hp ?_
  refine hgo [] _ _ _ _ ?_
  refine ob_ (fun e => by rw [e] at hp; exact absurd hp (by decide)) ?_
  exact ⟨rfl, rfl⟩
theorem c_Cutter_cutWall (p w re wd : Nat) (hg : Int32) (s : Int32 × Int32 × Int32) (M1 M : am_M) (hcs : CS M1 M s) (hp : p < 10) (hw : w < 8) (hre : M 4 0 8 p = nI re) (r1 : 1 ≤ re) (r2 : re ≤ 99) (hh : M 4 0 3 w = hg) (hd : M 4 0 2 w = nI wd) (hd2 : wd ≤ 999) : ConP 2 mCutter_cutWall [aR 9 0 0, aR 4 0 0, aI (nI p), aI (nI w)] M1 (fun r M3 => r = none ∧ CS M3 M (cN (lenI hg (nI re)) ((wd + 49) / 50) s)) := by
  have h4 := hcs.1 4 (by decide)
  refine con_of okCutter_cutWall [some (aR 9 0 0), some (aR 4 0 0), some (aI (nI p)), some (aI (nI w)), none, none, none, none] none ?_
  intro J hgo
  have loop : ∀ m c cv v4 v5 v6 M2, m = (wd + 49) / 50 - c → c ≤ (wd + 49) / 50 → cv = nI c → v4 = nI re → v5 = lenI hg (nI re) → v6 = nI ((wd + 49) / 50) → CS M2 M (cN (lenI hg (nI re)) c s) → J 40 [some (aR 9 0 0), some (aR 4 0 0), some (aI (nI p)), some (aI (nI w)), some (aI v4), some (aI v5), some (aI v6), some (aI cv)] [] M2 := by
    intro m
    induction m with
    | zero =>
      intro c cv v4 v5 v6 M2 hm hc hv h4 h5 h6 hC
      have hc : c = (wd + 49) / 50 := by omega
      subst hv h4 h5 h6
      refine hgo [] _ _ _ _ ?_
      refine brt (by rw [hc]; exact nI_le (Nat.le_refl _) (by omega)) ?_
      refine hgo [] _ _ _ _ ?_
      exact ⟨rfl, by rw [← hc]; exact hC⟩
    | succ m ih =>
      intro c cv v4 v5 v6 M2 hm hc hv h4 h5 h6 hC
      subst hv h4 h5 h6
      obtain ⟨q0, q1, q2, q3⟩ := hC
      refine hgo [] _ _ _ _ ?_
      refine brf (nI_ge (by omega) (by omega)) ?_
      refine br_ (fun hl => ?_) (fun hl => ?_)
      · refine hgo [] _ _ _ _ ?_
        refine ih (c + 1) _ _ _ _ _ (by omega) (by omega) (nI_1 c) rfl rfl rfl ?_
        have hl : ¬ (cN (lenI hg (nI re)) c s).2.2 < lenI hg (nI re) := by
          rw [← q3]
          exact Int32.not_lt.mpr hl
        refine ⟨fun k hk => by rw [sA_k hk, sA_k hk]; exact q0 k hk, ?_, ?_, ?_⟩
        · show M2 9 0 0 0 + 1 = _
          rw [q1]
          rfl
        · show M2 9 0 0 1 = (if _ then _ else _)
          rw [if_neg hl, q2]
        · show M2 9 0 0 2 - _ = (if _ then _ else _) - _
          rw [if_neg hl, q3]
      · refine ih (c + 1) _ _ _ _ _ (by omega) (by omega) (nI_1 c) rfl rfl rfl ?_
        have hl : (cN (lenI hg (nI re)) c s).2.2 < lenI hg (nI re) := by
          rw [← q3]
          exact Int32.not_le.mp hl
        refine ⟨fun k hk => by rw [sA_k hk, sA_k hk, sA_k hk, sA_k hk]; exact q0 k hk, ?_, ?_, ?_⟩
        · show M2 9 0 0 0 + 1 = _
          rw [q1]
          rfl
        · show M2 9 0 0 1 + 1 = (if _ then _ else _)
          rw [if_pos hl, q2]
        · show (1000 : Int32) - lenI hg (nI re) = (if (cN (lenI hg (nI re)) c s).2.2 < lenI hg (nI re) then (1000 : Int32) else (cN (lenI hg (nI re)) c s).2.2) - lenI hg (nI re)
          rw [if_pos hl]
  have e1 : M1 4 0 8 (nI p).toNatClampNeg = nI re := by rw [cl_nI (by omega), h4, hre]
  have e2 : M1 4 0 3 (nI w).toNatClampNeg = hg := by rw [cl_nI (by omega), h4, hh]
  have e3 : M1 4 0 2 (nI w).toNatClampNeg = nI wd := by rw [cl_nI (by omega), h4, hd]
  refine hgo [40] _ _ _ _ ?_
  refine ob_ (vp_in_nI (by omega) (by omega)) ?_
  refine ob_ (vp_in_nI (by omega) (by omega)) ?_
  refine cle (c_Main_partsUp hg (nI re) M1 (nI_lt (a := 0) (by omega) (by omega))) (by rw [← e1, ← e2]) rfl ?_
  refine ob_ (vp_in_nI (by omega) (by omega)) ?_
  refine cle (c_Main_partsUp (nI wd) 50 M1 (by decide)) (by rw [← e3]) rfl ?_
  refine loop _ 0 _ _ _ _ _ rfl (by omega) rfl e1 (by rw [e1]; rfl) ?_ hcs
  rw [show (50 : Int32) = nI 50 from rfl, nI_add, show nI (wd + 50) - 1 = nI (wd + 50 - 1) from pk_sub (a := wd + 50) (b := 1) (by omega), pk_div (by omega) (by omega) (by omega)]
  rfl
theorem c_Cutter_widthOf (n : Nat) (f : Nat → Bool) (M : am_M) (hn : M 4 0 0 0 = nI n) (h8 : n ≤ 8) : Con 2 mCutter_widthOf [aR 9 0 0, aR 4 0 0, aI (bs f)] M (some (aI (wS f (M 4 0 2) n))) M := by
  refine con_of okCutter_widthOf [some (aR 9 0 0), some (aR 4 0 0), some (aI (bs f)), none, none] (some .int) ?_
  intro J hgo
  have loop : ∀ m c cv x, m = n - c → c ≤ n → cv = nI c → x = wS f (M 4 0 2) c → J 5 [some (aR 9 0 0), some (aR 4 0 0), some (aI (bs f)), some (aI x), some (aI cv)] [] M := by
    intro m
    induction m with
    | zero =>
      intro c cv x hm hc hv hx
      obtain rfl : c = n := by omega
      subst hv hx
      refine hgo [] _ _ _ _ ?_
      refine brt (show M 4 0 0 0 ≤ nI c by rw [hn]; exact nI_le (Nat.le_refl _) (by omega)) ?_
      refine hgo [] _ _ _ _ ?_
      exact ⟨rfl, rfl⟩
    | succ m ih =>
      intro c cv x hm hc hv hx
      subst hv hx
      have hlt : c < n := by omega
      refine hgo [33] _ _ _ _ ?_
      refine brf (show ¬ M 4 0 0 0 ≤ nI c by rw [hn]; exact nI_ge hlt (by omega)) ?_
      refine cl_ (c_Main_has f c _ (by omega)) ?_
      have nx : ∀ x, x = wS f (M 4 0 2) (c + 1) → J 33 [some (aR 9 0 0), some (aR 4 0 0), some (aI (bs f)), some (aI x), some (aI (nI c))] [] M := by
        intro x hx
        refine hgo [] _ _ _ _ ?_
        exact ih (c + 1) _ _ (by omega) (by omega) (nI_1 c) hx
      refine brb (fun h1 => ?_) (fun h1 => ?_)
      · refine nx _ ?_
        show _ = if f c = true then _ else _
        rw [if_neg h1]
      · refine ob_ (vp_in_nI (by omega) (by omega)) ?_
        refine nx _ ?_
        rw [cl_nI (by omega)]
        show _ = if f c = true then _ else _
        rw [if_pos h1]
  refine hgo [5] _ _ _ _ ?_
  exact loop _ 0 _ _ rfl (by omega) rfl rfl
def rlS (kd : Nat) (f : Nat → Bool) (wdI : Nat → Int32) (len : Nat → Int32) (cnt : Nat → Nat) (n : Nat) : Int32 × Int32 × Int32 := if kd = 5 then (0, (wS f wdI n + 499) / 500, 0) else cW f len cnt n
theorem c_Cutter_cut (nw np p kd re : Nat) (wd : Nat → Nat) (f : Nat → Bool) (M : am_M) (hn : M 4 0 0 0 = nI nw) (h8 : nw ≤ 8) (hnp : M 4 0 0 4 = nI np) (h10 : np ≤ 10) (hp : p < np) (hk : M 4 0 4 p = nI kd) (hk1 : 1 ≤ kd) (hk5 : kd ≤ 5) (hre : M 4 0 8 p = nI re) (r1 : 1 ≤ re) (r2 : re ≤ 99) (hd : ∀ w, w < nw → M 4 0 2 w = nI (wd w) ∧ wd w ≤ 999) : ConP 3 mCutter_cut [aR 9 0 0, aR 4 0 0, aI (nI p), aI (bs f)] M (fun r M3 => r = none ∧ CS M3 M (rlS kd f (M 4 0 2) (fun w => lenI (M 4 0 3 w) (nI re)) (fun w => (wd w + 49) / 50) nw)) := by
  refine con_of okCutter_cut [some (aR 9 0 0), some (aR 4 0 0), some (aI (nI p)), some (aI (bs f)), none] none ?_
  intro J hgo
  have loop : ∀ m c cv M2, m = nw - c → c ≤ nw → cv = nI c → ¬ kd = 5 → CS M2 M (cW f (fun w => lenI (M 4 0 3 w) (nI re)) (fun w => (wd w + 49) / 50) c) → J 44 [some (aR 9 0 0), some (aR 4 0 0), some (aI (nI p)), some (aI (bs f)), some (aI cv)] [] M2 := by
    intro m
    induction m with
    | zero =>
      intro c cv M2 hm hc hv h5 hC
      obtain rfl : c = nw := by omega
      subst hv
      have h4 := hC.1 4 (by decide)
      refine hgo [] _ _ _ _ ?_
      refine brt (show M2 4 0 0 0 ≤ nI c by rw [h4, hn]; exact nI_le (Nat.le_refl _) (by omega)) ?_
      refine hgo [] _ _ _ _ ?_
      refine ⟨rfl, ?_⟩
      unfold rlS
      rw [if_neg h5]
      exact hC
    | succ m ih =>
      intro c cv M2 hm hc hv h5 hC
      subst hv
      have hlt : c < nw := by omega
      have h4 := hC.1 4 (by decide)
      have nx : ∀ M3, CS M3 M (cW f (fun w => lenI (M 4 0 3 w) (nI re)) (fun w => (wd w + 49) / 50) (c + 1)) → J 70 [some (aR 9 0 0), some (aR 4 0 0), some (aI (nI p)), some (aI (bs f)), some (aI (nI c))] [] M3 := by
        intro M3 h3
        refine hgo [] _ _ _ _ ?_
        exact ih (c + 1) _ _ (by omega) (by omega) (nI_1 c) h5 h3
      refine hgo [70] _ _ _ _ ?_
      refine brf (show ¬ M2 4 0 0 0 ≤ nI c by rw [h4, hn]; exact nI_ge hlt (by omega)) ?_
      refine cl_ (c_Main_has f c _ (by omega)) ?_
      refine brb (fun h1 => ?_) (fun h1 => ?_)
      · refine nx _ ?_
        unfold cW
        rw [if_neg h1]
        exact hC
      · refine clp (c_Cutter_cutWall p c re (wd c) _ _ M2 M hC (by omega) (by omega) hre r1 r2 rfl (hd c hlt).1 (hd c hlt).2) ?_
        rintro r M3 ⟨rfl, h3⟩
        refine nx _ ?_
        unfold cW
        rw [if_pos h1]
        exact h3
  refine hgo [44] _ _ _ _ ?_
  refine cl_ (c_House_isOf 0 np p kd 5 _ hnp h10 hp hk hk1 hk5 (by omega)) ?_
  refine brb (fun h1 => ?_) (fun h1 => ?_)
  · have h5 : ¬ kd = 5 := by
      intro e
      subst e
      exact h1 (by decide)
    refine hgo [44] _ _ _ _ ?_
    refine loop _ 0 _ _ rfl (by omega) rfl h5 ?_
    exact ⟨fun k hk => by rw [sA_k hk, sA_k hk, sA_k hk], rfl, rfl, rfl⟩
  · have h5 : kd = 5 := by
      simp [isk] at h1
      exact h1
    refine cl_ (c_Cutter_widthOf nw f _ hn h8) ?_
    refine cl_ (c_Main_partsUp _ 500 _ (by decide)) ?_
    refine ⟨rfl, ?_⟩
    unfold rlS
    rw [if_pos h5]
    refine ⟨fun k hk => by rw [sA_k hk, sA_k hk, sA_k hk, sA_k hk], rfl, ?_, rfl⟩
    show (wS f (M 4 0 2) nw + 500 - 1) / 500 = (wS f (M 4 0 2) nw + 499) / 500
    rw [Int32.sub_eq_add_neg, Int32.add_assoc]
    rfl
