/-! THE ABSTRACT MACHINE: values are numbers and cells named by (kind, which, place); the memory holds numbers alone -/
abbrev am_V : Type := (Nat × Nat × Nat) ⊕ (Int32 ⊕ Int64)
abbrev aR (k j o : Nat) : am_V := Sum.inl (k, j, o)
abbrev aI (x : Int32) : am_V := Sum.inr (Sum.inl x)
abbrev aL (x : Int64) : am_V := Sum.inr (Sum.inr x)
abbrev am_M : Type := Nat → Nat → Nat → Nat → Int32
abbrev am_L : Type := List (Option am_V)
/-- an entry of a pool: a field (kind, slot), a call (method, arguments, receiver's kind), an int, a long, a reference, a field of a text, arraycopy -/
abbrev am_N : Type := (Nat × Nat) ⊕ ((Nat × Nat × Nat) ⊕ (Int32 ⊕ (Int64 ⊕ (am_V ⊕ (Nat ⊕ Unit)))))
abbrev eF (c s : Nat) : am_N := Sum.inl (c, s)
abbrev eC (n a k : Nat) : am_N := Sum.inr (Sum.inl (n, a, k))
abbrev eI (x : Int32) : am_N := Sum.inr (Sum.inr (Sum.inl x))
abbrev eL (x : Int64) : am_N := Sum.inr (Sum.inr (Sum.inr (Sum.inl x)))
abbrev eR (v : am_V) : am_N := Sum.inr (Sum.inr (Sum.inr (Sum.inr (Sum.inl v))))
abbrev eT (n : Nat) : am_N := Sum.inr (Sum.inr (Sum.inr (Sum.inr (Sum.inr (Sum.inl n)))))
abbrev eX : am_N := Sum.inr (Sum.inr (Sum.inr (Sum.inr (Sum.inr (Sum.inr ())))))
/-- a row of code: its place, the instruction, numbers (locals, targets), its entry -/
abbrev am_E : Type := Nat × Instr × List Nat × Option am_N
def sA (M : am_M) (k j o : Nat) (f : Nat → Int32) : am_M := fun a b c => if a = k ∧ b = j ∧ c = o then f else M a b c
/-- static tables and texts -/
def am_sc : Nat → List Int32
  | 0 => [-1, 0, 0, 2, 1, 0]
  | 1 => [10, 11, 13, 14, 12, 10]
  | _ => [20, 21, 22, 22, 24, 23]
def am_sa : Nat → String × String
  | 0 => ("PaperedOver$House", "ALSO")
  | 1 => ("PaperedOver$Bodies", "SIZES")
  | _ => ("PaperedOver$Bodies", "MARKS")
def am_sl : List Nat := [4, 5, 6, 5, 5, 4, 4, 5]
def am_sb : List (List Int32) := [[119, 97, 108, 108], [112, 97, 112, 101, 114], [116, 101, 110, 97, 110, 116], [112, 108, 97, 105, 110], [115, 116, 97, 109, 112], [110, 101, 119, 115], [114, 101, 115, 116], [112, 97, 105, 110, 116]]
def am_si : Nat → Nat
  | 0 => 57 | 1 => 63 | 2 => 65 | 3 => 106 | 4 => 108 | 5 => 110 | 6 => 112 | _ => 114
def am_sx : Nat → String
  | 0 => "wall" | 1 => "paper" | 2 => "tenant" | 3 => "plain" | 4 => "stamp" | 5 => "news" | 6 => "rest" | _ => "paint"
def am_ro : List (Nat × Nat × Nat) := [(12, 0, 0), (12, 0, 1), (12, 0, 2), (13, 0, 0), (13, 0, 1), (13, 0, 2), (13, 0, 3), (13, 0, 4), (13, 0, 5), (13, 0, 6), (13, 0, 7), (14, 0, 0), (14, 0, 1), (14, 0, 2), (14, 0, 3), (14, 0, 4), (14, 0, 5), (14, 0, 6), (14, 0, 7), (15, 0, 0), (16, 0, 0)]
def am_vl : am_V → Prop := fun v => match v with
  | Sum.inl q => q ∈ am_all ∨ q ∈ am_ro
  | Sum.inr _ => True
/-! the machine's values -/
def cv (ad : Nat × Nat × Nat → Nat) (fv : Value) : am_V → Value := fun v => match v with
  | Sum.inl q => if q.1 = 15 then fv else .ref (ad q)
  | Sum.inr (Sum.inl x) => .int x
  | Sum.inr (Sum.inr x) => .long x
def am_fl (ad : Nat × Nat × Nat → Nat) (M : am_M) (k j : Nat) : Nat → List (Option (Nat → Nat × Nat × Nat)) → List Value
  | _, [] => []
  | i, none :: t => .int (M k j 0 i) :: am_fl ad M k j (i + 1) t
  | i, some g :: t => .ref (ad (g j)) :: am_fl ad M k j (i + 1) t
def am_cell (ad : Nat × Nat × Nat → Nat) (cI cZ : ClassId) (M : am_M) (q : Nat × Nat × Nat) : va_E := match q.2.2 with
  | 0 => .inr (q.1, am_fl ad M q.1 q.2.1 0 (am_ob q.1))
  | o + 1 => match (am_ar q.1)[o]? with
    | some bn => .inl (if bn.1 then cZ else cI, bn.2, .inl (M q.1 q.2.1 (o + 1)))
    | none => .inl (cI, 0, .inl (fun _ => 0))
def am_wl (ad : Nat × Nat × Nat → Nat) (cI cZ : ClassId) (M : am_M) : va_W := am_all.map (fun q => (ad q, am_cell ad cI cZ M q))
def am_Af (ad : Nat × Nat × Nat → Nat) : Nat → Prop := fun a => ∃ q, q ∈ am_all ∧ ad q = a
def gtb : List Cond := lw_tbl.filter goodWord
theorem gm {w : Cond} (i : Nat) (h : lw_tbl[i]? = some w) (g : goodWord w = true) : w ∈ gtb := List.mem_filter.mpr ⟨List.mem_of_getElem? h, g⟩
theorem gtb_good : GoodIn gtb gtb := fun w h => ⟨h, good_of_word (List.mem_filter.mp h).2⟩
def am_nw : List Cond := [.methodLinkNest "PaperedOver$Facts" 107 ⟨"PaperedOver", "has", "(II)Z"⟩ "PaperedOver", .methodLinkNest "PaperedOver$Orders" 51 ⟨"PaperedOver", "has", "(II)Z"⟩ "PaperedOver", .methodLinkNest "PaperedOver$House" 81 ⟨"PaperedOver", "has", "(II)Z"⟩ "PaperedOver", .methodLinkNest "PaperedOver$Cutter" 38 ⟨"PaperedOver", "has", "(II)Z"⟩ "PaperedOver", .methodLinkNest "PaperedOver$Cutter" 29 ⟨"PaperedOver", "partsUp", "(II)I"⟩ "PaperedOver"]
def am_Ev (ad : Nat × Nat × Nat → Nat) (fv : Value) (A : Nat → Prop) (U : State) (H : Heap) : Prop :=
  (∀ w ∈ am_nw, va_Nw w U) ∧
  (∀ i, i < 3 → va_Z (am_sa i).1 (am_sa i).2 "[I" (.ref (ad (12, 0, i))) A U H ∧ va_T .int (ad (12, 0, i)) 6 (fun j => .int ((am_sc i).getD j 0)) A U H) ∧
  va_Z "java/lang/String" "COMPACT_STRINGS" "Z" (.int 1) A U H ∧ va_Z "jdk/internal/util/Preconditions" "SIOOBE_FORMATTER" "Ljava/util/function/BiFunction;" fv A U H ∧ (fv = .null ∨ ∃ t : Nat, fv = .ref t) ∧
  vk_S 8 am_sl am_sb (fun i => ad (13, 0, i)) (fun i => ad (14, 0, i)) A U H ∧ ∀ i, i < 8 → vk_R "PaperedOver$Reader" (am_si i) (am_sx i) (ad (13, 0, i)) U
theorem am_nw_warm {s U : State} (hW : s.WarmedH U.vm) (h : ∀ w ∈ am_nw, va_Nw w s) : ∀ w ∈ am_nw, va_Nw w U := by
  intro w hw
  have h1 := h w hw
  simp only [am_nw, List.mem_cons, List.not_mem_nil, or_false] at hw
  rcases hw with rfl | rfl | rfl | rfl | rfl <;> exact va_Nw.warmM hW h1
theorem am_nw_same {s U : State} (hv : s.vm = U.vm) (h : ∀ w ∈ am_nw, va_Nw w s) : ∀ w ∈ am_nw, va_Nw w U := by
  intro w hw
  have h1 := h w hw
  simp only [am_nw, List.mem_cons, List.not_mem_nil, or_false] at hw
  rcases hw with rfl | rfl | rfl | rfl | rfl <;> exact va_Nw.same rfl hv h1
theorem am_Ev.go {ad : Nat × Nat × Nat → Nat} {fv : Value} {A B : Nat → Prop} {s U : State} {H : Heap} {locs : List Loc} (h : am_Ev ad fv A s s.heap) (hS : va_S A s.heap H locs) (hU : U.heap = H) (hW : s.WarmedH U.vm) (hAB : ∀ q, B q → A q) : am_Ev ad fv B U U.heap := by
  obtain ⟨h1, h2, h3, h4, h5, h6, h7⟩ := h
  rw [hU]
  exact ⟨am_nw_warm hW h1, fun i hi => ⟨(((h2 i hi).1.kept hS.2.1).moved hW.alike).narrow hAB, (((h2 i hi).2.kept hS.2.1).moved hW.alike).narrow hAB⟩, ((h3.kept hS.2.1).moved hW.alike).narrow hAB, ((h4.kept hS.2.1).moved hW.alike).narrow hAB, h5, ((h6.kept hS.2.1).moved hW.alike).narrow hAB, fun i hi => (h7 i hi).warm hW⟩
theorem am_Ev.call {ad : Nat × Nat × Nat → Nat} {fv : Value} {A : Nat → Prop} {U : State} {g : JFrame} {mk : MethodId} {a : Array Value} (h : am_Ev ad fv A U U.heap) : am_Ev ad fv A (U.calling g mk a) (U.calling g mk a).heap := by
  obtain ⟨h1, h2, h3, h4, h5, h6, h7⟩ := h
  exact ⟨am_nw_same (s := U) (U := U.calling g mk a) rfl h1, fun i hi => ⟨(h2 i hi).1.moved (Vm.Alike.refl U.vm), (h2 i hi).2.moved (Vm.Alike.refl U.vm)⟩, h3.moved (Vm.Alike.refl U.vm), h4.moved (Vm.Alike.refl U.vm), h5, h6.moved (Vm.Alike.refl U.vm), fun i hi => (h7 i hi).same rfl⟩
/-! contracts -/
abbrev am_T : Type := MethodName × ByteArray × Nat × Option FieldType
def am_rm (d : Nat) : Room := { frames := d, cells := 0, slots := 0, locals := 64 * d }
def am_ws (t : am_T) : List Cond := .code t.1 t.2.1 t.2.2.1 t.2.2.2 :: gtb
def am_B (D : va_G) (ad : Nat × Nat × Nat → Nat) (fv : Value) (cI cZ : ClassId) (M : am_M) (U : State) : Prop :=
  va_P D am_cls (am_wl ad cI cZ M) U.heap ∧ va_D (am_Af ad) (am_wl ad cI cZ M) ∧ va_K D am_cls [(cI, .int), (cZ, .boolean)] U ∧ am_Ev ad fv (am_Af ad) U U.heap
def am_Q (D : va_G) (ad : Nat × Nat × Nat → Nat) (fv : Value) (cI cZ : ClassId) (Po : Option am_V → am_M → Prop) : Array Value → State → Outcome → State → Prop :=
  fun _ st oc t => ∃ (r : Option am_V) (M2 : am_M), Po r M2 ∧ oc = .returned (r.map (cv ad fv)) ∧ va_P D am_cls (am_wl ad cI cZ M2) t.heap ∧ va_F (am_Af ad) st t
/-- a contract: from the memory M the method comes to its end with an answer and a memory as Po wants them -/
def am_Con (d : Nat) (t : am_T) (as : List am_V) (M : am_M) (Po : Option am_V → am_M → Prop) : Prop :=
  ∀ (l : Launch) (D : va_G) (ad : Nat × Nat × Nat → Nat) (fv : Value) (cI cZ : ClassId), (∀ v ∈ as, am_vl v) → Met l t.1 (am_ws t) (am_rm d) (va_Pc (as.map (cv ad fv)) (am_B D ad fv cI cZ M)) (am_Q D ad fv cI cZ Po) 0 0 (am_Af ad)
/-! events -/
def Br (c A B : Prop) : Prop := (c → A) ∧ (¬ c → B)
def Ob (P A : Prop) : Prop := P ∧ A
theorem br_ {c A B : Prop} (a : c → A) (b : ¬ c → B) : Br c A B := ⟨a, b⟩
theorem brt {c A B : Prop} (h : c) (a : A) : Br c A B := ⟨fun _ => a, fun n => absurd h n⟩
theorem brf {c A B : Prop} (h : ¬ c) (b : B) : Br c A B := ⟨fun n => absurd n h, fun _ => b⟩
theorem ob_ {P A : Prop} (p : P) (a : A) : Ob P A := ⟨p, a⟩
