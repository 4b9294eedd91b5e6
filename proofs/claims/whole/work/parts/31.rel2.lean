/-! what the class has learned (the years and the order where there is no ring), and its counts: told below by their own words -/
def FO (F : Nat → Nat → Int32) (h : Nat → Int32) : Prop := F 0 2 = bs (Seen h) ∧ F 0 3 = bs (Ring h) ∧ (∀ w, w < 8 → F 1 w = bs (On h w)) ∧ (∀ p, p < 10 → F 2 p = bs (Ah h p)) ∧ (∀ p, p < 10 → F 3 p = bs (Su h p))
/-- which can follow a set -/
def fo (h : Nat → Int32) (S : Nat → Bool) (p : Nat) : Bool := (Seen h p && !S p) && !exB (fun q => Ah h p q && !S q) 10
def IsL (f : Nat → Bool) (p : Nat) : Prop := p < 10 ∧ f p = true ∧ ∀ q, q < p → f q = false
def gG (g : Nat → Nat) (i p : Nat) : Bool := exB (fun j => g j == p) i
def bL (h : Nat → Int32) (p : Nat) : Int := mxF (fun w => On h w p) (fun w => (hN h (4 + 3 * w) : Int)) (hN h (29 + 5 * p) : Int) (nW h)
def cap (h : Nat → Int32) (p : Nat) : Int := if hN h (28 + 5 * p) = 2 ∨ hN h (28 + 5 * p) = 3 then (hN h (30 + 5 * p) : Int) else 1999
def YL (h : Nat → Int32) (p : Nat) : Int := LL (Ah h) (bL h) p
def YU (h : Nat → Int32) (p : Nat) : Int := - LL (fun a b => Ah h b a) (fun a => - cap h a) p
def NoRing (h : Nat → Int32) : Prop := ∀ p, p < 10 → Ring h p = false
def OrdG (h : Nat → Int32) (m : Nat) (g : Nat → Nat) : Prop := m ≤ 10 ∧ (∀ i, i < m → IsL (fo h (gG g i)) (g i)) ∧ ∀ p, p < 10 → fo h (gG g m) p = false
def FX (F : Nat → Nat → Int32) (h : Nat → Int32) : Prop := (NoRing h → (∃ m g, OrdG h m g ∧ F 0 8 = nI m ∧ ∀ i, i < m → F 4 i = nI (g i)) ∧ ∀ p, p < 10 → Seen h p = true → (F 5 p).toInt = YL h p ∧ (F 6 p).toInt = YU h p) ∧ (¬ NoRing h → F 0 8 = 0)
/-- the relation between the class's cells and the reference's -/
def RelA (x : Nat → Int32) (o : Nat → Int32) : Prop := x 11 = o 10 ∧ x 12 = o 1
def RelH (M : am_M) : Prop := HV (M 11 0 4) ∧ RH (M 4 0) (M 5 0) (M 11 0 4) ∧ M 11 0 0 7 = b2i (0 < nW (M 11 0 4)) ∧ FR (M 11 0 0 18) (M 11 0 7) (M 11 0 8) (M 11 0 9) (M 11 0 4)
/-- a sum of the first n -/
def sm (f : Nat → Nat) : Nat → Nat
  | 0 => 0
  | n + 1 => sm f n + f n
/-- in how many ways a set (as a number) is come to, one at a time -/
def Wf (ok : Nat → Nat → Bool) : Nat → Nat → Nat
  | 0 => fun s => if s = 0 then 1 else 0
  | k + 1 => fun s => if s = 0 then 1 else sm (fun p => if ok s p = true then Wf ok k (s - 2 ^ p) else 0) 10
def foM (h : Nat → Int32) (mu : Nat → Nat → Bool) (S : Nat → Bool) (p : Nat) : Bool := (Seen h p && !S p) && !exB (fun q => mu p q && !S q) 10
def okM (h : Nat → Int32) (mu : Nat → Nat → Bool) (s p : Nat) : Bool := s.testBit p && foM h mu (s - 2 ^ p).testBit p
def Wy (h : Nat → Int32) (mu : Nat → Nat → Bool) (s : Nat) : Nat := Wf (okM h mu) 1024 s
def mu2 (h : Nat → Int32) (a b p q : Nat) : Bool := Ah h p q || (decide (p = b) && decide (q = a))
def sN (h : Nat → Int32) : Nat := bsn (Seen h) 10
/-- the counts, where they are made -/
def OC (O : Nat → Nat → Int32) (h : Nat → Int32) : Prop := O 0 1 = 0 ∨ (O 0 1 = 1 ∧ O 1 (sN h) = nI (Wy h (Ah h) (sN h)) ∧ ∀ a b, a < 10 → b < 10 → a ≠ b → Seen h a = true → Seen h b = true → O 3 (10 * a + b) = nI (Wy h (mu2 h a b) (sN h)))
def RelF (F O : Nat → Nat → Int32) (h : Nat → Int32) : Prop := FO F h ∧ FX F h ∧ OC O h
def RelI (M : am_M) : Prop := Rimg (M 4 2) (M 5 1) (fun i => M 11 0 14 i) (M 11 0 13 0) ∧ Rimg (M 4 3) (M 5 2) (fun i => M 11 0 14 (198 + i)) (M 11 0 13 1) ∧ (M 11 0 13 0 = 1 ∨ M 11 0 13 1 = 1 → M 11 0 0 7 = 1)
def Rel (M : am_M) : Prop :=
  Rrow (M 1 0 1) (M 1 0 2) (M 1 0 3) (M 1 0 4) (M 11 0 1) (M 11 0 2) (M 11 0 3) ∧ Rtape (M 2 0 0 1) (M 2 0 1) (M 11 0 0 9) (M 11 0 6) ∧ RelA (M 0 0 0) (M 11 0 0) ∧ RelH M ∧ RelF (M 7 0) (M 8 0) (M 11 0 4) ∧ RelI M ∧ Rbod (M 10 0 0 1) (M 10 0 1) (M 11 0 0 28) (M 11 0 15)
/-- one call on both, from a memory that is in relation -/
def OpAt (nc nr : Nat) (as : List am_V) (M : am_M) : Prop := ∃ (v : Int32) (d1 : Nat) (Po : Option am_V → am_M → Prop), d1 < 100 ∧ ConP d1 nc (aR 0 0 0 :: as) M Po ∧ ∀ r M1, Po r M1 → r = some (aI v) ∧ ∃ (d2 : Nat) (Po2 : Option am_V → am_M → Prop), d2 < 100 ∧ ConP d2 nr (aR 11 0 0 :: as) M1 Po2 ∧ ∀ r2 M2, Po2 r2 M2 → r2 = some (aI v) ∧ Rel M2
theorem op_mk {nc nr d1 d2 : Nat} {as : List am_V} {M M1 M2 : am_M} {v : Int32} (h1 : Con d1 nc (aR 0 0 0 :: as) M (some (aI v)) M1) (h2 : Con d2 nr (aR 11 0 0 :: as) M1 (some (aI v)) M2) (h : Rel M2) (hd1 : d1 < 100 := by decide) (hd2 : d2 < 100 := by decide) : OpAt nc nr as M :=
  ⟨v, d1, _, hd1, h1, fun r M1' hp => by
    obtain ⟨rfl, rfl⟩ := hp
    exact ⟨rfl, d2, _, hd2, h2, fun r2 M2' hp2 => by
      obtain ⟨rfl, rfl⟩ := hp2
      exact ⟨rfl, h⟩⟩⟩
/-- nothing of what is in relation changed -/
theorem Rel_keep {M M2 : am_M} (h : Rel M) (h1 : M2 1 0 = M 1 0) (h2 : M2 2 0 = M 2 0) (h4 : M2 4 = M 4) (h5 : M2 5 = M 5) (h7 : M2 7 0 = M 7 0) (h8 : M2 8 0 = M 8 0) (h10 : M2 10 0 = M 10 0) (hr : ∀ o, o ≠ 0 → M2 11 0 o = M 11 0 o) (hs : ∀ i, i = 7 ∨ i = 9 ∨ i = 10 ∨ i = 18 ∨ i = 28 → M2 11 0 0 i = M 11 0 0 i) (ha : M2 0 0 0 11 = M 0 0 0 11) (hb : M2 0 0 0 12 = M2 11 0 0 1) : Rel M2 := by
  obtain ⟨g1, g2, g3, g4, g5, g6, g7⟩ := h
  unfold Rel RelH RelI RelA
  rw [h1, h2, h4, h5, h7, h8, h10, ha, hb, hr 1 (by decide), hr 2 (by decide), hr 3 (by decide), hr 4 (by decide), hr 6 (by decide), hr 7 (by decide), hr 8 (by decide), hr 9 (by decide), hr 13 (by decide), hr 14 (by decide), hr 15 (by decide), hs 7 (by decide), hs 9 (by decide), hs 10 (by decide), hs 18 (by decide), hs 28 (by decide)]
  exact ⟨g1, g2, ⟨g3.1, rfl⟩, g4, g5, g6, g7⟩
