/-! forget -/
theorem c_Main_learnAnew (h : Nat → Int32) (M : am_M) (hv : HV h) (hr : RH (M 4 0) (M 5 0) h) : ConP 6 mMain_learnAnew [aR 0 0 0] M (fun r M2 => r = none ∧ (∀ k, k ≠ 7 → k ≠ 8 → M2 k = M k) ∧ FO (M2 7 0) h ∧ FX (M2 7 0) h ∧ M2 8 0 0 1 = 0) := by
  refine con_of okMain_learnAnew [some (aR 0 0 0)] none ?_
  intro J hgo
  refine hgo [] _ _ _ _ ?_
  refine clp (c_Facts_learn h M hv hr) ?_
  rintro r M2 ⟨rfl, a1, a2, a3⟩
  refine ob_ (by decide) ?_
  exact ⟨rfl, fun k h7 h8 => (sA_k h8).trans (a1 k h7), a2, a3, rfl⟩
theorem fgS {h : Nat → Int32} {x : Int32} {i : Nat} (hi : i ≠ 3) : upd h 3 x i = h i := upd_n hi
theorem HV_fg {h : Nat → Int32} {n : Nat} (hv : HV h) (hn : nS h = n + 1) : HV (upd h 3 (nI n)) ∧ nS (upd h 3 (nI n)) = n := by
  obtain ⟨v0, v1, v2, ⟨v3, s9⟩, hw, hp, ht, hs⟩ := hv
  have e3 : nS (upd h 3 (nI n)) = n := cl_nI (by omega)
  refine ⟨⟨v0, v1, v2, ⟨by rw [e3]; rfl, by omega⟩, fun w hw2 => ?_, fun p hp2 => ?_, fun t ht2 => ?_, fun s hs2 => ?_⟩, e3⟩
  · rw [fgS (by omega), fgS (by omega), fgS (by omega)]
    exact hw w hw2
  · rw [fgS (by omega), fgS (by omega), fgS (by omega), fgS (by omega), fgS (by omega)]
    exact hp p hp2
  · rw [fgS (by omega), fgS (by omega), fgS (by omega)]
    exact ht t ht2
  · rw [e3] at hs2
    have q1 : wl (upd h 3 (nI n)) s = wl h s := by unfold wl hN; rw [fgS (by omega)]
    have q2 : dp (upd h 3 (nI n)) s = dp h s := by unfold dp hN; rw [fgS (by omega)]
    obtain ⟨a1, a2, a3, a4, a5, a6⟩ := hs s (by omega)
    rw [q1, q2, fgS (by omega), fgS (by omega)]
    refine ⟨a1, a2, a3, a4, a5, fun k hk => ?_⟩
    have q3 : ly (upd h 3 (nI n)) s k = ly h s k := by unfold ly hN; rw [fgS (by omega)]
    rw [q3, fgS (by omega)]
    exact a6 k hk
theorem RH_fg {C P P2 : Nat → Nat → Int32} {h : Nat → Int32} {n : Nat} (hv : HV h) (hn : nS h = n + 1) (hr : RH C P h) (h0 : P2 0 0 = nI n) (ho : ∀ o, o ≠ 0 → P2 o = P o) : RH C P2 (upd h 3 (nI n)) := by
  have e3 := (HV_fg hv hn).2
  obtain ⟨r1, r2, r3, r4⟩ := hr
  refine ⟨⟨r1.1, fun w hw => ?_⟩, ⟨r2.1, fun p hp => ?_⟩, ⟨r3.1, fun t ht => ?_⟩, ⟨h0, fun s hs => ?_⟩⟩
  · rw [fgS (by omega), fgS (by omega), fgS (by omega)]
    exact r1.2 w hw
  · rw [fgS (by omega), fgS (by omega), fgS (by omega), fgS (by omega), fgS (by omega)]
    exact r2.2 p hp
  · rw [fgS (by omega), fgS (by omega), fgS (by omega)]
    exact r3.2 t ht
  · rw [e3] at hs
    have q2 : dp (upd h 3 (nI n)) s = dp h s := by unfold dp hN; rw [fgS (by omega)]
    obtain ⟨a1, a2, a3⟩ := r4.2 s (by omega)
    rw [ho 1 (by decide), ho 2 (by decide), ho 3 (by decide), q2, fgS (by omega), fgS (by omega)]
    refine ⟨a1, a2, fun k hk => ?_⟩
    rw [fgS (by omega)]
    exact a3 k hk
