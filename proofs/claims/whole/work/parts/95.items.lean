/-! walls, papers, tenants that are read -/
def addW (h : Nat → Int32) (a b c : Nat) : Nat → Int32 := upd (upd (upd (upd h (4 + 3 * nW h) (nI a)) (5 + 3 * nW h) (nI b)) (6 + 3 * nW h) (nI c)) 0 (nI (nW h + 1))
def addP (h : Nat → Int32) (a b c d e : Nat) : Nat → Int32 := upd (upd (upd (upd (upd (upd h (28 + 5 * nP h) (nI a)) (29 + 5 * nP h) (nI b)) (30 + 5 * nP h) (nI c)) (31 + 5 * nP h) (nI d)) (32 + 5 * nP h) (nI e)) 1 (nI (nP h + 1))
def addT (h : Nat → Int32) (a b c : Nat) : Nat → Int32 := upd (upd (upd (upd h (78 + 3 * nT h) (nI a)) (79 + 3 * nT h) (nI b)) (80 + 3 * nT h) (nI c)) 2 (nI (nT h + 1))
def HD (h : Nat → Int32) : Prop := HV h ∧ nS h = 0
theorem aW_n {h : Nat → Int32} {a b c x : Nat} (h0 : x ≠ 0) (h1 : x < 4 + 3 * nW h ∨ 7 + 3 * nW h ≤ x) : addW h a b c x = h x := by
  unfold addW
  rw [upd_n h0, upd_n (by omega), upd_n (by omega), upd_n (by omega)]
theorem aW_v {h : Nat → Int32} {a b c : Nat} : addW h a b c (4 + 3 * nW h) = nI a ∧ addW h a b c (5 + 3 * nW h) = nI b ∧ addW h a b c (6 + 3 * nW h) = nI c ∧ addW h a b c 0 = nI (nW h + 1) := by
  unfold addW
  refine ⟨?_, ?_, ?_, upd_s⟩
  · rw [upd_n (by omega), upd_n (by omega), upd_n (by omega), upd_s]
  · rw [upd_n (by omega), upd_n (by omega), upd_s]
  · rw [upd_n (by omega), upd_s]
theorem aP_n {h : Nat → Int32} {a b c d e x : Nat} (h0 : x ≠ 1) (h1 : x < 28 + 5 * nP h ∨ 33 + 5 * nP h ≤ x) : addP h a b c d e x = h x := by
  unfold addP
  rw [upd_n h0, upd_n (by omega), upd_n (by omega), upd_n (by omega), upd_n (by omega), upd_n (by omega)]
theorem aP_v {h : Nat → Int32} {a b c d e : Nat} : addP h a b c d e (28 + 5 * nP h) = nI a ∧ addP h a b c d e (29 + 5 * nP h) = nI b ∧ addP h a b c d e (30 + 5 * nP h) = nI c ∧ addP h a b c d e (31 + 5 * nP h) = nI d ∧ addP h a b c d e (32 + 5 * nP h) = nI e ∧ addP h a b c d e 1 = nI (nP h + 1) := by
  unfold addP
  refine ⟨?_, ?_, ?_, ?_, ?_, upd_s⟩
  · rw [upd_n (by omega), upd_n (by omega), upd_n (by omega), upd_n (by omega), upd_n (by omega), upd_s]
  · rw [upd_n (by omega), upd_n (by omega), upd_n (by omega), upd_n (by omega), upd_s]
  · rw [upd_n (by omega), upd_n (by omega), upd_n (by omega), upd_s]
  · rw [upd_n (by omega), upd_n (by omega), upd_s]
  · rw [upd_n (by omega), upd_s]
theorem aT_n {h : Nat → Int32} {a b c x : Nat} (h0 : x ≠ 2) (h1 : x < 78 + 3 * nT h ∨ 81 + 3 * nT h ≤ x) : addT h a b c x = h x := by
  unfold addT
  rw [upd_n h0, upd_n (by omega), upd_n (by omega), upd_n (by omega)]
theorem aT_v {h : Nat → Int32} {a b c : Nat} : addT h a b c (78 + 3 * nT h) = nI a ∧ addT h a b c (79 + 3 * nT h) = nI b ∧ addT h a b c (80 + 3 * nT h) = nI c ∧ addT h a b c 2 = nI (nT h + 1) := by
  unfold addT
  refine ⟨?_, ?_, ?_, upd_s⟩
  · rw [upd_n (by omega), upd_n (by omega), upd_n (by omega), upd_s]
  · rw [upd_n (by omega), upd_n (by omega), upd_s]
  · rw [upd_n (by omega), upd_s]
theorem HD_W {h : Nat → Int32} {a b c : Nat} (hd : HD h) (h8 : nW h < 8) (ha : 1700 ≤ a ∧ a ≤ 1999) (hb : 50 ≤ b ∧ b ≤ 999) (hc : 100 ≤ c ∧ c ≤ 400) : HD (addW h a b c) ∧ nW (addW h a b c) = nW h + 1 ∧ nP (addW h a b c) = nP h ∧ nT (addW h a b c) = nT h := by
  obtain ⟨⟨⟨v0, w8⟩, ⟨v1, p10⟩, ⟨v2, t10⟩, ⟨v3, s9⟩, vw, vp, vt, vs⟩, s0⟩ := hd
  obtain ⟨e4, e5, e6, e0⟩ := aW_v (h := h) (a := a) (b := b) (c := c)
  have n0 : nW (addW h a b c) = nW h + 1 := by unfold nW hN at *; rw [e0, cl_nI (by omega)]
  have n1 : nP (addW h a b c) = nP h := by unfold nP hN; rw [aW_n (by omega) (by omega)]
  have n2 : nT (addW h a b c) = nT h := by unfold nT hN; rw [aW_n (by omega) (by omega)]
  have n3 : nS (addW h a b c) = nS h := by unfold nS hN; rw [aW_n (by omega) (by omega)]
  refine ⟨⟨?_, by rw [n3]; exact s0⟩, n0, n1, n2⟩
  unfold HV
  rw [n0, n1, n2, n3, e0, aW_n (x := 1) (by omega) (by omega), aW_n (x := 2) (by omega) (by omega), aW_n (x := 3) (by omega) (by omega)]
  refine ⟨⟨rfl, by omega⟩, ⟨v1, p10⟩, ⟨v2, t10⟩, ⟨v3, s9⟩, fun w hw => ?_, fun p hp => ?_, fun q hq => ?_, fun s hs => by omega⟩
  · by_cases e : w = nW h
    · subst e
      exact ⟨a, b, c, e4, ha.1, ha.2, e5, hb.1, hb.2, e6, hc.1, hc.2⟩
    · rw [aW_n (by omega) (by omega), aW_n (by omega) (by omega), aW_n (by omega) (by omega)]
      exact vw w (by omega)
  · rw [aW_n (by omega) (by omega), aW_n (by omega) (by omega), aW_n (by omega) (by omega), aW_n (by omega) (by omega), aW_n (by omega) (by omega)]
    exact vp p hp
  · rw [aW_n (by omega) (by omega), aW_n (by omega) (by omega), aW_n (by omega) (by omega)]
    exact vt q hq
theorem HD_P {h : Nat → Int32} {a b c d e : Nat} (hd : HD h) (h8 : nP h < 10) (ha : 1 ≤ a ∧ a ≤ 5) (hb : 1700 ≤ b ∧ b ≤ 1999) (hc : b ≤ c ∧ c ≤ 1999) (hdd : d ≤ 99) (he : 1 ≤ e ∧ e ≤ 99) : HD (addP h a b c d e) ∧ nW (addP h a b c d e) = nW h ∧ nP (addP h a b c d e) = nP h + 1 ∧ nT (addP h a b c d e) = nT h := by
  obtain ⟨⟨⟨v0, w8⟩, ⟨v1, p10⟩, ⟨v2, t10⟩, ⟨v3, s9⟩, vw, vp, vt, vs⟩, s0⟩ := hd
  obtain ⟨e4, e5, e6, e7, e8, e0⟩ := aP_v (h := h) (a := a) (b := b) (c := c) (d := d) (e := e)
  have n0 : nW (addP h a b c d e) = nW h := by unfold nW hN; rw [aP_n (by omega) (by omega)]
  have n1 : nP (addP h a b c d e) = nP h + 1 := by unfold nP hN at *; rw [e0, cl_nI (by omega)]
  have n2 : nT (addP h a b c d e) = nT h := by unfold nT hN; rw [aP_n (by omega) (by omega)]
  have n3 : nS (addP h a b c d e) = nS h := by unfold nS hN; rw [aP_n (by omega) (by omega)]
  refine ⟨⟨?_, by rw [n3]; exact s0⟩, n0, n1, n2⟩
  unfold HV
  rw [n0, n1, n2, n3, e0, aP_n (x := 0) (by omega) (by omega), aP_n (x := 2) (by omega) (by omega), aP_n (x := 3) (by omega) (by omega)]
  refine ⟨⟨v0, w8⟩, ⟨rfl, by omega⟩, ⟨v2, t10⟩, ⟨v3, s9⟩, fun w hw => ?_, fun p hp => ?_, fun q hq => ?_, fun s hs => by omega⟩
  · rw [aP_n (by omega) (by omega), aP_n (by omega) (by omega), aP_n (by omega) (by omega)]
    exact vw w hw
  · by_cases ee : p = nP h
    · subst ee
      exact ⟨a, b, c, d, e, e4, ha.1, ha.2, e5, hb.1, hb.2, e6, hc.1, hc.2, e7, hdd, e8, he.1, he.2⟩
    · rw [aP_n (by omega) (by omega), aP_n (by omega) (by omega), aP_n (by omega) (by omega), aP_n (by omega) (by omega), aP_n (by omega) (by omega)]
      exact vp p (by omega)
  · rw [aP_n (by omega) (by omega), aP_n (by omega) (by omega), aP_n (by omega) (by omega)]
    exact vt q hq
theorem HD_T {h : Nat → Int32} {a b c : Nat} (hd : HD h) (h8 : nT h < 10) (ha : 1700 ≤ a ∧ a ≤ 1999) (hb : a ≤ b ∧ b ≤ 1999) (hc : c ≤ 99) : HD (addT h a b c) ∧ nW (addT h a b c) = nW h ∧ nP (addT h a b c) = nP h ∧ nT (addT h a b c) = nT h + 1 := by
  obtain ⟨⟨⟨v0, w8⟩, ⟨v1, p10⟩, ⟨v2, t10⟩, ⟨v3, s9⟩, vw, vp, vt, vs⟩, s0⟩ := hd
  obtain ⟨e4, e5, e6, e0⟩ := aT_v (h := h) (a := a) (b := b) (c := c)
  have n0 : nW (addT h a b c) = nW h := by unfold nW hN; rw [aT_n (by omega) (by omega)]
  have n1 : nP (addT h a b c) = nP h := by unfold nP hN; rw [aT_n (by omega) (by omega)]
  have n2 : nT (addT h a b c) = nT h + 1 := by unfold nT hN at *; rw [e0, cl_nI (by omega)]
  have n3 : nS (addT h a b c) = nS h := by unfold nS hN; rw [aT_n (by omega) (by omega)]
  refine ⟨⟨?_, by rw [n3]; exact s0⟩, n0, n1, n2⟩
  unfold HV
  rw [n0, n1, n2, n3, e0, aT_n (x := 0) (by omega) (by omega), aT_n (x := 1) (by omega) (by omega), aT_n (x := 3) (by omega) (by omega)]
  refine ⟨⟨v0, w8⟩, ⟨v1, p10⟩, ⟨rfl, by omega⟩, ⟨v3, s9⟩, fun w hw => ?_, fun p hp => ?_, fun q hq => ?_, fun s hs => by omega⟩
  · rw [aT_n (by omega) (by omega), aT_n (by omega) (by omega), aT_n (by omega) (by omega)]
    exact vw w hw
  · rw [aT_n (by omega) (by omega), aT_n (by omega) (by omega), aT_n (by omega) (by omega), aT_n (by omega) (by omega), aT_n (by omega) (by omega)]
    exact vp p hp
  · by_cases ee : q = nT h
    · subst ee
      exact ⟨a, b, c, e4, ha.1, ha.2, e5, hb.1, hb.2, e6, hc⟩
    · rw [aT_n (by omega) (by omega), aT_n (by omega) (by omega), aT_n (by omega) (by omega)]
      exact vt q (by omega)
/-- the class's draft -/
def DR (h : Nat → Int32) (C : Nat → Nat → Int32) : Prop := HD h ∧ RHw C h ∧ RHp C h ∧ RHt C h
theorem DR_W {h : Nat → Int32} {C C2 : Nat → Nat → Int32} {a b c : Nat} (hd : DR h C) (h8 : nW h < 8) (ha : 1700 ≤ a ∧ a ≤ 1999) (hb : 50 ≤ b ∧ b ≤ 999) (hc : 100 ≤ c ∧ c ≤ 400) (k0 : C2 0 = upd (C 0) 0 (nI (nW h + 1))) (k1 : C2 1 = upd (C 1) (nW h) (nI a)) (k2 : C2 2 = upd (C 2) (nW h) (nI b)) (k3 : C2 3 = upd (C 3) (nW h) (nI c)) (ko : ∀ o, o ≠ 0 → (o < 1 ∨ 4 ≤ o) → C2 o = C o) : DR (addW h a b c) C2 := by
  obtain ⟨hd1, r1, r2, r3⟩ := hd
  obtain ⟨g1, n0, n1, n2⟩ := HD_W hd1 h8 ha hb hc
  obtain ⟨e4, e5, e6, e0⟩ := aW_v (h := h) (a := a) (b := b) (c := c)
  have p10 := hd1.1.2.1.2
  refine ⟨g1, ⟨?_, fun w hw => ?_⟩, ⟨?_, fun p hp => ?_⟩, ⟨?_, fun t ht => ?_⟩⟩
  · rw [k0, upd_s, e0]
  · rw [n0] at hw
    rw [k1, k2, k3]
    by_cases e : w = nW h
    · subst e
      rw [upd_s, upd_s, upd_s, e4, e5, e6]
      exact ⟨rfl, rfl, rfl⟩
    · rw [upd_n e, upd_n e, upd_n e, aW_n (by omega) (by omega), aW_n (by omega) (by omega), aW_n (by omega) (by omega)]
      exact r1.2 w (by omega)
  · rw [k0, upd_n (by decide), aW_n (by omega) (by omega)]
    exact r2.1
  · rw [n1] at hp
    rw [ko 4 (by decide) (by decide), ko 5 (by decide) (by decide), ko 6 (by decide) (by decide), ko 7 (by decide) (by decide), ko 8 (by decide) (by decide), aW_n (by omega) (by omega), aW_n (by omega) (by omega), aW_n (by omega) (by omega), aW_n (by omega) (by omega), aW_n (by omega) (by omega)]
    exact r2.2 p hp
  · rw [k0, upd_n (by decide), aW_n (by omega) (by omega)]
    exact r3.1
  · rw [n2] at ht
    rw [ko 9 (by decide) (by decide), ko 10 (by decide) (by decide), ko 11 (by decide) (by decide), aW_n (by omega) (by omega), aW_n (by omega) (by omega), aW_n (by omega) (by omega)]
    exact r3.2 t ht
theorem DR_P {h : Nat → Int32} {C C2 : Nat → Nat → Int32} {a b c d e : Nat} (hd : DR h C) (h8 : nP h < 10) (ha : 1 ≤ a ∧ a ≤ 5) (hb : 1700 ≤ b ∧ b ≤ 1999) (hc : b ≤ c ∧ c ≤ 1999) (hdd : d ≤ 99) (he : 1 ≤ e ∧ e ≤ 99) (k0 : C2 0 = upd (C 0) 4 (nI (nP h + 1))) (k1 : C2 4 = upd (C 4) (nP h) (nI a)) (k2 : C2 5 = upd (C 5) (nP h) (nI b)) (k3 : C2 6 = upd (C 6) (nP h) (nI c)) (k4 : C2 7 = upd (C 7) (nP h) (nI d)) (k5 : C2 8 = upd (C 8) (nP h) (nI e)) (ko : ∀ o, o ≠ 0 → (o < 4 ∨ 9 ≤ o) → C2 o = C o) : DR (addP h a b c d e) C2 := by
  obtain ⟨hd1, r1, r2, r3⟩ := hd
  obtain ⟨g1, n0, n1, n2⟩ := HD_P hd1 h8 ha hb hc hdd he
  obtain ⟨e4, e5, e6, e7, e8, e0⟩ := aP_v (h := h) (a := a) (b := b) (c := c) (d := d) (e := e)
  have w8 := hd1.1.1.2
  refine ⟨g1, ⟨?_, fun w hw => ?_⟩, ⟨?_, fun p hp => ?_⟩, ⟨?_, fun t ht => ?_⟩⟩
  · rw [k0, upd_n (by decide), aP_n (by omega) (by omega)]
    exact r1.1
  · rw [n0] at hw
    rw [ko 1 (by decide) (by decide), ko 2 (by decide) (by decide), ko 3 (by decide) (by decide), aP_n (by omega) (by omega), aP_n (by omega) (by omega), aP_n (by omega) (by omega)]
    exact r1.2 w hw
  · rw [k0, upd_s, e0]
  · rw [n1] at hp
    rw [k1, k2, k3, k4, k5]
    by_cases ee : p = nP h
    · subst ee
      rw [upd_s, upd_s, upd_s, upd_s, upd_s, e4, e5, e6, e7, e8]
      exact ⟨rfl, rfl, rfl, rfl, rfl⟩
    · rw [upd_n ee, upd_n ee, upd_n ee, upd_n ee, upd_n ee, aP_n (by omega) (by omega), aP_n (by omega) (by omega), aP_n (by omega) (by omega), aP_n (by omega) (by omega), aP_n (by omega) (by omega)]
      exact r2.2 p (by omega)
  · rw [k0, upd_n (by decide), aP_n (by omega) (by omega)]
    exact r3.1
  · rw [n2] at ht
    rw [ko 9 (by decide) (by decide), ko 10 (by decide) (by decide), ko 11 (by decide) (by decide), aP_n (by omega) (by omega), aP_n (by omega) (by omega), aP_n (by omega) (by omega)]
    exact r3.2 t ht
theorem DR_T {h : Nat → Int32} {C C2 : Nat → Nat → Int32} {a b c : Nat} (hd : DR h C) (h8 : nT h < 10) (ha : 1700 ≤ a ∧ a ≤ 1999) (hb : a ≤ b ∧ b ≤ 1999) (hc : c ≤ 99) (k0 : C2 0 = upd (C 0) 10 (nI (nT h + 1))) (k1 : C2 9 = upd (C 9) (nT h) (nI a)) (k2 : C2 10 = upd (C 10) (nT h) (nI b)) (k3 : C2 11 = upd (C 11) (nT h) (nI c)) (ko : ∀ o, o ≠ 0 → (o < 9 ∨ 12 ≤ o) → C2 o = C o) : DR (addT h a b c) C2 := by
  obtain ⟨hd1, r1, r2, r3⟩ := hd
  obtain ⟨g1, n0, n1, n2⟩ := HD_T hd1 h8 ha hb hc
  obtain ⟨e4, e5, e6, e0⟩ := aT_v (h := h) (a := a) (b := b) (c := c)
  have p10 := hd1.1.2.1.2
  have w8 := hd1.1.1.2
  refine ⟨g1, ⟨?_, fun w hw => ?_⟩, ⟨?_, fun p hp => ?_⟩, ⟨?_, fun t ht => ?_⟩⟩
  · rw [k0, upd_n (by decide), aT_n (by omega) (by omega)]
    exact r1.1
  · rw [n0] at hw
    rw [ko 1 (by decide) (by decide), ko 2 (by decide) (by decide), ko 3 (by decide) (by decide), aT_n (by omega) (by omega), aT_n (by omega) (by omega), aT_n (by omega) (by omega)]
    exact r1.2 w hw
  · rw [k0, upd_n (by decide), aT_n (by omega) (by omega)]
    exact r2.1
  · rw [n1] at hp
    rw [ko 4 (by decide) (by decide), ko 5 (by decide) (by decide), ko 6 (by decide) (by decide), ko 7 (by decide) (by decide), ko 8 (by decide) (by decide), aT_n (by omega) (by omega), aT_n (by omega) (by omega), aT_n (by omega) (by omega), aT_n (by omega) (by omega), aT_n (by omega) (by omega)]
    exact r2.2 p hp
  · rw [k0, upd_s, e0]
  · rw [n2] at ht
    rw [k1, k2, k3]
    by_cases ee : t = nT h
    · subst ee
      rw [upd_s, upd_s, upd_s, e4, e5, e6]
      exact ⟨rfl, rfl, rfl⟩
    · rw [upd_n ee, upd_n ee, upd_n ee, aT_n (by omega) (by omega), aT_n (by omega) (by omega), aT_n (by omega) (by omega)]
      exact r3.2 t (by omega)
/-! one item, from behind its word -/
def wI (n : Nat) (t : Nat → Nat) (S : PS) : PS := sc n t (nu n t 100 400 (nu n t 50 999 (nu n t 1700 1999 S)))
def wH (n : Nat) (t : Nat → Nat) (S : PS) (h : Nat → Int32) : Nat → Int32 := if sf (wI n t S) = 0 then addW h (nuv t S) (nuv t (nu n t 1700 1999 S)) (nuv t (nu n t 50 999 (nu n t 1700 1999 S))) else h
def pI (n : Nat) (t : Nat → Nat) (S : PS) : PS := sc n t (nu n t 1 99 (nu n t 0 99 (nu n t (nuv t (so n t S)) 1999 (nu n t 1700 1999 (so n t S)))))
def pH (n : Nat) (t : Nat → Nat) (S : PS) (h : Nat → Int32) : Nat → Int32 := if sf (pI n t S) = 0 then addP h (kdn t S) (nuv t (so n t S)) (nuv t (nu n t 1700 1999 (so n t S))) (nuv t (nu n t (nuv t (so n t S)) 1999 (nu n t 1700 1999 (so n t S)))) (nuv t (nu n t 0 99 (nu n t (nuv t (so n t S)) 1999 (nu n t 1700 1999 (so n t S))))) else h
def tI (n : Nat) (t : Nat → Nat) (S : PS) : PS := sc n t (nu n t 0 99 (nu n t (nuv t S) 1999 (nu n t 1700 1999 S)))
def tH (n : Nat) (t : Nat → Nat) (S : PS) (h : Nat → Int32) : Nat → Int32 := if sf (tI n t S) = 0 then addT h (nuv t S) (nuv t (nu n t 1700 1999 S)) (nuv t (nu n t (nuv t S) 1999 (nu n t 1700 1999 S))) else h
theorem WS_so {n : Nat} {t : Nat → Nat} {S : PS} (h : WS n t S) : WS n t (so n t S) ∧ sb S ≤ sb (so n t S) := by
  unfold so
  by_cases q : sf S = 0
  · rw [if_pos q]
    by_cases q2 : kdn t S = 0
    · rw [if_pos q2]
      have := WS_fl (k := 1) (by omega) h
      exact ⟨this.1, by rw [this.2]; exact Nat.le_refl _⟩
    · rw [if_neg q2]
      exact ⟨(WS_nx h).1, (WS_nx h).2.1⟩
  · rw [if_neg q]
    exact ⟨h, Nat.le_refl _⟩
theorem so_ok {n : Nat} {t : Nat → Nat} {S : PS} (h : sf (so n t S) = 0) : sf S = 0 ∧ kdn t S ≠ 0 := by
  unfold so at h
  by_cases q : sf S = 0
  · rw [if_pos q] at h
    refine ⟨q, fun q2 => ?_⟩
    rw [if_pos q2] at h
    unfold fl at h
    rw [if_pos q] at h
    cases h
  · rw [if_neg q] at h
    exact absurd h q
theorem kdn_le {t : Nat → Nat} {S : PS} : kdn t S ≤ 5 := by
  unfold kdn
  repeat' split
  all_goals omega
theorem WS_wI {n : Nat} {t : Nat → Nat} {S : PS} (h : WS n t S) : WS n t (wI n t S) ∧ sb S ≤ sb (wI n t S) := by
  have a1 := WS_nu (lo := 1700) (hi := 1999) h
  have a2 := WS_nu (lo := 50) (hi := 999) a1.1
  have a3 := WS_nu (lo := 100) (hi := 400) a2.1
  have a4 := WS_sc a3.1
  exact ⟨a4.1, by unfold wI; omega⟩
theorem WS_pI {n : Nat} {t : Nat → Nat} {S : PS} (h : WS n t S) : WS n t (pI n t S) ∧ sb S ≤ sb (pI n t S) := by
  have a0 := WS_so h
  have a1 := WS_nu (lo := 1700) (hi := 1999) a0.1
  have a2 := WS_nu (lo := nuv t (so n t S)) (hi := 1999) a1.1
  have a3 := WS_nu (lo := 0) (hi := 99) a2.1
  have a4 := WS_nu (lo := 1) (hi := 99) a3.1
  have a5 := WS_sc a4.1
  exact ⟨a5.1, by unfold pI; omega⟩
theorem WS_tI {n : Nat} {t : Nat → Nat} {S : PS} (h : WS n t S) : WS n t (tI n t S) ∧ sb S ≤ sb (tI n t S) := by
  have a1 := WS_nu (lo := 1700) (hi := 1999) h
  have a2 := WS_nu (lo := nuv t S) (hi := 1999) a1.1
  have a3 := WS_nu (lo := 0) (hi := 99) a2.1
  have a4 := WS_sc a3.1
  exact ⟨a4.1, by unfold tI; omega⟩
theorem wI_ok {n : Nat} {t : Nat → Nat} {S : PS} (h : sf (wI n t S) = 0) : (1700 ≤ nuv t S ∧ nuv t S ≤ 1999) ∧ (50 ≤ nuv t (nu n t 1700 1999 S) ∧ nuv t (nu n t 1700 1999 S) ≤ 999) ∧ (100 ≤ nuv t (nu n t 50 999 (nu n t 1700 1999 S)) ∧ nuv t (nu n t 50 999 (nu n t 1700 1999 S)) ≤ 400) ∧ sf (nu n t 1700 1999 S) = 0 ∧ sf (nu n t 50 999 (nu n t 1700 1999 S)) = 0 ∧ sf (nu n t 100 400 (nu n t 50 999 (nu n t 1700 1999 S))) = 0 := by
  have h1 := sc_ok h
  obtain ⟨a1, a2, a3, a4⟩ := nu_ok h1
  obtain ⟨b1, b2, b3, b4⟩ := nu_ok a1
  obtain ⟨c1, c2, c3, c4⟩ := nu_ok b1
  exact ⟨⟨c3, c4⟩, ⟨b3, b4⟩, ⟨a3, a4⟩, b1, a1, h1⟩
theorem tI_ok {n : Nat} {t : Nat → Nat} {S : PS} (h : sf (tI n t S) = 0) : (1700 ≤ nuv t S ∧ nuv t S ≤ 1999) ∧ (nuv t S ≤ nuv t (nu n t 1700 1999 S) ∧ nuv t (nu n t 1700 1999 S) ≤ 1999) ∧ nuv t (nu n t (nuv t S) 1999 (nu n t 1700 1999 S)) ≤ 99 ∧ sf (nu n t 1700 1999 S) = 0 ∧ sf (nu n t (nuv t S) 1999 (nu n t 1700 1999 S)) = 0 ∧ sf (nu n t 0 99 (nu n t (nuv t S) 1999 (nu n t 1700 1999 S))) = 0 := by
  have h1 := sc_ok h
  obtain ⟨a1, a2, a3, a4⟩ := nu_ok h1
  obtain ⟨b1, b2, b3, b4⟩ := nu_ok a1
  obtain ⟨c1, c2, c3, c4⟩ := nu_ok b1
  exact ⟨⟨c3, c4⟩, ⟨b3, b4⟩, a4, b1, a1, h1⟩
theorem pI_ok {n : Nat} {t : Nat → Nat} {S : PS} (h : sf (pI n t S) = 0) : (1 ≤ kdn t S ∧ kdn t S ≤ 5) ∧ (1700 ≤ nuv t (so n t S) ∧ nuv t (so n t S) ≤ 1999) ∧ (nuv t (so n t S) ≤ nuv t (nu n t 1700 1999 (so n t S)) ∧ nuv t (nu n t 1700 1999 (so n t S)) ≤ 1999) ∧ nuv t (nu n t (nuv t (so n t S)) 1999 (nu n t 1700 1999 (so n t S))) ≤ 99 ∧ (1 ≤ nuv t (nu n t 0 99 (nu n t (nuv t (so n t S)) 1999 (nu n t 1700 1999 (so n t S)))) ∧ nuv t (nu n t 0 99 (nu n t (nuv t (so n t S)) 1999 (nu n t 1700 1999 (so n t S)))) ≤ 99) ∧ sf (nu n t 1700 1999 (so n t S)) = 0 ∧ sf (nu n t (nuv t (so n t S)) 1999 (nu n t 1700 1999 (so n t S))) = 0 ∧ sf (nu n t 0 99 (nu n t (nuv t (so n t S)) 1999 (nu n t 1700 1999 (so n t S)))) = 0 ∧ sf (nu n t 1 99 (nu n t 0 99 (nu n t (nuv t (so n t S)) 1999 (nu n t 1700 1999 (so n t S))))) = 0 := by
  have h1 := sc_ok h
  obtain ⟨z1, z2, z3, z4⟩ := nu_ok h1
  obtain ⟨a1, a2, a3, a4⟩ := nu_ok z1
  obtain ⟨b1, b2, b3, b4⟩ := nu_ok a1
  obtain ⟨c1, c2, c3, c4⟩ := nu_ok b1
  obtain ⟨d1, d2⟩ := so_ok c1
  have := kdn_le (t := t) (S := S)
  exact ⟨⟨by omega, this⟩, ⟨c3, c4⟩, ⟨b3, b4⟩, a4, ⟨z3, z4⟩, b1, a1, z1, h1⟩
