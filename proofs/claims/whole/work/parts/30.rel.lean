/-! the house as the reference's row of numbers, and what follows from it -/
def exB (P : Nat → Bool) : Nat → Bool
  | 0 => false
  | n + 1 => exB P n || P n
def hN (h : Nat → Int32) (i : Nat) : Nat := (h i).toNatClampNeg
def nW (h : Nat → Int32) : Nat := hN h 0
def nP (h : Nat → Int32) : Nat := hN h 1
def nT (h : Nat → Int32) : Nat := hN h 2
def nS (h : Nat → Int32) : Nat := hN h 3
def wl (h : Nat → Int32) (s : Nat) : Nat := hN h (108 + 10 * s)
def dp (h : Nat → Int32) (s : Nat) : Nat := hN h (109 + 10 * s)
def ly (h : Nat → Int32) (s k : Nat) : Nat := hN h (110 + 10 * s + k)
def atB (h : Nat → Int32) (s n p : Nat) : Bool := exB (fun k => ly h s k == p) n
def seB (h : Nat → Int32) (n p : Nat) : Bool := exB (fun s => atB h s (dp h s) p) n
def onB (h : Nat → Int32) (n w p : Nat) : Bool := exB (fun s => (wl h s == w) && atB h s (dp h s) p) n
def a1B (h : Nat → Int32) (s m p q : Nat) : Bool := exB (fun k => (ly h s (k + 1) == p) && (ly h s k == q)) m
def ahB (h : Nat → Int32) (n p q : Nat) : Bool := exB (fun s => a1B h s (dp h s - 1) p q) n
def Seen (h : Nat → Int32) (p : Nat) : Bool := seB h (nS h) p
def On (h : Nat → Int32) (w p : Nat) : Bool := onB h (nS h) w p
def Ah (h : Nat → Int32) (p q : Nat) : Bool := ahB h (nS h) p q
def wsh (R : Nat → Nat → Bool) : Nat → Nat → Nat → Bool
  | 0 => R
  | n + 1 => fun p q => wsh R n p q || (wsh R n p n && wsh R n n q)
def Su (h : Nat → Int32) (p q : Nat) : Bool := wsh (Ah h) 10 p q
def Ring (h : Nat → Int32) (p : Nat) : Bool := Su h p p
/-- a valid house -/
def HV (h : Nat → Int32) : Prop :=
  (h 0 = nI (nW h) ∧ nW h ≤ 8) ∧ (h 1 = nI (nP h) ∧ nP h ≤ 10) ∧ (h 2 = nI (nT h) ∧ nT h ≤ 10) ∧ (h 3 = nI (nS h) ∧ nS h ≤ 9) ∧
  (∀ w, w < nW h → ∃ b wd hg : Nat, h (4 + 3 * w) = nI b ∧ 1700 ≤ b ∧ b ≤ 1999 ∧ h (5 + 3 * w) = nI wd ∧ 50 ≤ wd ∧ wd ≤ 999 ∧ h (6 + 3 * w) = nI hg ∧ 100 ≤ hg ∧ hg ≤ 400) ∧
  (∀ p, p < nP h → ∃ kd md la pr re : Nat, h (28 + 5 * p) = nI kd ∧ 1 ≤ kd ∧ kd ≤ 5 ∧ h (29 + 5 * p) = nI md ∧ 1700 ≤ md ∧ md ≤ 1999 ∧ h (30 + 5 * p) = nI la ∧ md ≤ la ∧ la ≤ 1999 ∧ h (31 + 5 * p) = nI pr ∧ pr ≤ 99 ∧ h (32 + 5 * p) = nI re ∧ 1 ≤ re ∧ re ≤ 99) ∧
  (∀ t, t < nT h → ∃ fr to me : Nat, h (78 + 3 * t) = nI fr ∧ 1700 ≤ fr ∧ fr ≤ 1999 ∧ h (79 + 3 * t) = nI to ∧ fr ≤ to ∧ to ≤ 1999 ∧ h (80 + 3 * t) = nI me ∧ me ≤ 99) ∧
  (∀ s, s < nS h → h (108 + 10 * s) = nI (wl h s) ∧ wl h s < nW h ∧ h (109 + 10 * s) = nI (dp h s) ∧ 1 ≤ dp h s ∧ dp h s ≤ 8 ∧ ∀ k, k < dp h s → h (110 + 10 * s + k) = nI (ly h s k) ∧ ly h s k < nP h)
/-- the class's house and spots hold it -/
def RHw (C : Nat → Nat → Int32) (h : Nat → Int32) : Prop := C 0 0 = h 0 ∧ ∀ w, w < nW h → C 1 w = h (4 + 3 * w) ∧ C 2 w = h (5 + 3 * w) ∧ C 3 w = h (6 + 3 * w)
def RHp (C : Nat → Nat → Int32) (h : Nat → Int32) : Prop := C 0 4 = h 1 ∧ ∀ p, p < nP h → C 4 p = h (28 + 5 * p) ∧ C 5 p = h (29 + 5 * p) ∧ C 6 p = h (30 + 5 * p) ∧ C 7 p = h (31 + 5 * p) ∧ C 8 p = h (32 + 5 * p)
def RHt (C : Nat → Nat → Int32) (h : Nat → Int32) : Prop := C 0 10 = h 2 ∧ ∀ t, t < nT h → C 9 t = h (78 + 3 * t) ∧ C 10 t = h (79 + 3 * t) ∧ C 11 t = h (80 + 3 * t)
def RHs (P : Nat → Nat → Int32) (h : Nat → Int32) : Prop := P 0 0 = h 3 ∧ ∀ s, s < nS h → P 1 s = h (108 + 10 * s) ∧ P 2 s = h (109 + 10 * s) ∧ ∀ k, k < dp h s → P 3 (8 * s + k) = h (110 + 10 * s + k)
def RH (C P : Nat → Nat → Int32) (h : Nat → Int32) : Prop := RHw C h ∧ RHp C h ∧ RHt C h ∧ RHs P h
def Rrow (th la si it lane many item : Nat → Int32) : Prop := ∀ r, r < 8 →
  (th r = 0 ∧ lane r = -1 ∧ si r = 0) ∨ (th r = 1 ∧ (0 ≤ la r ∧ la r ≤ 2) ∧ lane r = la r ∧ ∃ n : Nat, n ≤ 40 ∧ si r = nI n ∧ many r = nI n ∧ ∀ i, i < n → it (40 * r + i) = item (40 * r + i))
def Rtape (len : Int32) (bts : Nat → Int32) (taped : Int32) (tape : Nat → Int32) : Prop := ∃ n : Nat, n ≤ 500 ∧ len = nI n ∧ taped = nI n ∧ ∀ i, i < n → bts i = tape i ∧ ∃ c, c < 256 ∧ tape i = nI c
def Rimg (C P : Nat → Nat → Int32) (h : Nat → Int32) (isk : Int32) : Prop := (isk = 0 ∧ C 0 0 = 0) ∨ (isk = 1 ∧ HV h ∧ RH C P h ∧ 1 ≤ nW h)
def Rbod (bg : Int32) (tr : Nat → Int32) (traced : Int32) (trace : Nat → Int32) : Prop := ∃ n : Nat, n ≤ 16 ∧ bg = nI n ∧ traced = nI n ∧ ∀ i, i < n → tr i = trace i
def FR (seen : Int32) (on ahead sure : Nat → Int32) (h : Nat → Int32) : Prop := seen = bs (Seen h) ∧ (∀ w, w < 8 → on w = bs (On h w)) ∧ (∀ p, p < 10 → ahead p = bs (Ah h p)) ∧ ∀ p, p < 10 → sure p = bs (Su h p)
