/-! what is checked of a row of code -/
def am_isw : Instr → Bool
  | .tableswitch _ _ _ _ => true
  | _ => false
def am_ln : Instr → Nat
  | .bipush _ => 2
  | .sipush _ => 3
  | .ldc _ => 2
  | .ldc_w _ => 3
  | .ldc2_w _ => 3
  | .iload _ => 2
  | .lload _ => 2
  | .aload _ => 2
  | .istore _ => 2
  | .iinc _ _ => 3
  | .getfield _ => 3
  | .putfield _ => 3
  | .getstatic _ => 3
  | .if_icmp _ _ => 3
  | .ifCond _ _ => 3
  | .goto _ => 3
  | .invokevirtual _ => 3
  | .invokestatic _ => 3
  | .invokespecial _ => 3
  | .new _ => 3
  | _ => 1
def am_swc (pc : Nat) : Int → List Int → List Nat → Bool
  | _, [], [] => true
  | lo, off :: os, t :: c :: l => decide ((pc : Int) + off = (t : Int)) && decide ((c : Int) = lo) && decide (c < 1000) && am_swc pc (lo + 1) os l
  | _, _, _ => false
def am_eIc (en : Option am_N) (v : Int32) : Bool := match en with
  | some (Sum.inr (Sum.inr (Sum.inl x))) => decide (v = x)
  | _ => true
def am_eLc (en : Option am_N) (v : Int64) : Bool := match en with
  | some (Sum.inr (Sum.inr (Sum.inr (Sum.inl x)))) => decide (v = x)
  | _ => true
def am_n1c (ns : List Nat) (n : Nat) : Bool := match ns with
  | i :: _ => decide (n = i)
  | [] => true
def am_tgc (ns : List Nat) (pc : Nat) (off : Int) : Bool := match ns with
  | t :: _ => decide ((pc : Int) + off = (t : Int))
  | [] => true
def am_sc1 (el : am_E) : Bool := match el.2.1 with
  | .iconst n => am_eIc el.2.2.2 (Int32.ofInt n)
  | .bipush n => am_eIc el.2.2.2 (Int8.ofInt n).toInt32
  | .sipush n => am_eIc el.2.2.2 (Int16.ofInt n).toInt32
  | .lconst n => am_eLc el.2.2.2 (Int64.ofNat (n : Nat))
  | .iload_n n => am_n1c el.2.2.1 n
  | .lload_n n => am_n1c el.2.2.1 n
  | .aload_n n => am_n1c el.2.2.1 n
  | .istore_n n => am_n1c el.2.2.1 n
  | .astore_n n => am_n1c el.2.2.1 n
  | .lstore_n n => am_n1c el.2.2.1 n
  | .iload n => am_n1c el.2.2.1 n
  | .lload n => am_n1c el.2.2.1 n
  | .aload n => am_n1c el.2.2.1 n
  | .istore n => am_n1c el.2.2.1 n
  | .iinc i n => am_n1c el.2.2.1 i && am_eIc el.2.2.2 (Int32.ofInt n)
  | .if_icmp _ off => am_tgc el.2.2.1 el.1 off
  | .ifCond _ off => am_tgc el.2.2.1 el.1 off
  | .goto off => am_tgc el.2.2.1 el.1 off
  | .tableswitch df lo hi offs => am_tgc el.2.2.1 el.1 df && am_swc el.1 lo offs.toList (el.2.2.1.drop 1) && decide (hi + 1 = lo + (offs.toList.length : Int))
  | _ => true
def am_key : Instr → Option (Nat × Nat)
  | .getfield i => some (0, i)
  | .putfield i => some (0, i)
  | .ldc i => some (1, i)
  | .ldc_w i => some (1, i)
  | .ldc2_w i => some (2, i)
  | .getstatic i => some (3, i)
  | .invokevirtual i => some (4, i)
  | .invokestatic i => some (5, i)
  | _ => none
def am_eqV (a b : am_V) : Bool := match a, b with
  | Sum.inl (x, y, z), Sum.inl (x2, y2, z2) => x == x2 && y == y2 && z == z2
  | _, _ => false
theorem am_eqV_ok {a b : am_V} (h : am_eqV a b = true) : a = b := by
  unfold am_eqV at h
  split at h
  · simp only [Bool.and_eq_true, beq_iff_eq] at h
    obtain ⟨⟨rfl, rfl⟩, rfl⟩ := h
    rfl
  · cases h
def am_eqN (a b : am_N) : Bool := match a, b with
  | Sum.inl (x, y), Sum.inl (x2, y2) => x == x2 && y == y2
  | Sum.inr (Sum.inl (x, y, z)), Sum.inr (Sum.inl (x2, y2, z2)) => x == x2 && y == y2 && z == z2
  | Sum.inr (Sum.inr (Sum.inl x)), Sum.inr (Sum.inr (Sum.inl y)) => decide (x = y)
  | Sum.inr (Sum.inr (Sum.inr (Sum.inl x))), Sum.inr (Sum.inr (Sum.inr (Sum.inl y))) => decide (x = y)
  | Sum.inr (Sum.inr (Sum.inr (Sum.inr (Sum.inl x)))), Sum.inr (Sum.inr (Sum.inr (Sum.inr (Sum.inl y)))) => am_eqV x y
  | Sum.inr (Sum.inr (Sum.inr (Sum.inr (Sum.inr (Sum.inl x))))), Sum.inr (Sum.inr (Sum.inr (Sum.inr (Sum.inr (Sum.inl y))))) => x == y
  | Sum.inr (Sum.inr (Sum.inr (Sum.inr (Sum.inr (Sum.inr _))))), Sum.inr (Sum.inr (Sum.inr (Sum.inr (Sum.inr (Sum.inr _))))) => true
  | _, _ => false
theorem am_eqN_ok {a b : am_N} (h : am_eqN a b = true) : a = b := by
  unfold am_eqN at h
  split at h
  · simp only [Bool.and_eq_true, beq_iff_eq] at h
    obtain ⟨rfl, rfl⟩ := h
    rfl
  · simp only [Bool.and_eq_true, beq_iff_eq] at h
    obtain ⟨⟨rfl, rfl⟩, rfl⟩ := h
    rfl
  · rw [of_decide_eq_true h]
  · rw [of_decide_eq_true h]
  · rw [am_eqV_ok h]
  · simp only [beq_iff_eq] at h
    rw [h]
  · rfl
  · cases h
def am_poc (pool : List (Nat × Nat × am_N)) (el : am_E) : Bool := match am_key el.2.1, el.2.2.2 with
  | some (t, i), some e => pool.any (fun q => q.1 == t && q.2.1 == i && am_eqN q.2.2 e)
  | _, _ => true
/-- a code against its bytes and a pool -/
def am_chk (cc : ByteArray) (pool : List (Nat × Nat × am_N)) : List am_E → Bool
  | [] => true
  | el :: L => (match decode cc el.1 with
    | .ok (i, n) => decide (i = el.2.1) && (am_isw i || (n == am_ln i && (match L with | [] => true | e2 :: _ => e2.1 == el.1 + n)))
    | .error _ => false) && am_sc1 el && am_poc pool el && am_chk cc pool L
/-- a call's own words -/
def am_cw (t : am_T) (np : Nat) : Prop := Cond.code t.1 t.2.1 t.2.2.1 t.2.2.2 ∈ gtb ∧ Cond.initialized t.1.cls ∈ gtb ∧ t.1.cls ≠ "java/lang/invoke/MethodHandle" ∧ t.1.cls ≠ "java/lang/invoke/VarHandle" ∧ (parseMethodDescriptor t.1.desc).map (fun d => d.parameters.length) = some np ∧ t.2.2.1 ≤ 45
def am_pk (own : String) (tag idx : Nat) (e : am_N) : Prop := match tag, e with
  | 0, Sum.inl (c, s) => ∃ r : vw_C, am_cls[c]? = some r ∧ s < r.2.2 ∧ Cond.fieldLink own idx (r.2.1 s).1 (r.2.1 s).2.1 (r.2.1 s).2.2.1 ∈ gtb
  | 0, Sum.inr (Sum.inr (Sum.inr (Sum.inr (Sum.inr (Sum.inl n))))) => (n = 0 ∧ Cond.fieldLink own idx "java/lang/String" "coder" "B" ∈ gtb) ∨ (n = 1 ∧ Cond.fieldLink own idx "java/lang/String" "value" "[B" ∈ gtb)
  | 1, Sum.inr (Sum.inr (Sum.inl v)) => Cond.constant own idx v ∈ gtb
  | 1, Sum.inr (Sum.inr (Sum.inr (Sum.inr (Sum.inl v)))) => ∃ i, i < 8 ∧ v = aR 13 0 i ∧ own = "PaperedOver$Reader" ∧ idx = am_si i
  | 2, Sum.inr (Sum.inr (Sum.inr (Sum.inl v))) => Cond.constantLong own idx v ∈ gtb
  | 3, Sum.inr (Sum.inr (Sum.inl v)) => v = 1 ∧ Cond.fieldLink own idx "java/lang/String" "COMPACT_STRINGS" "Z" ∈ gtb
  | 3, Sum.inr (Sum.inr (Sum.inr (Sum.inr (Sum.inl v)))) => (∃ i, i < 3 ∧ v = aR 12 0 i ∧ Cond.fieldLink own idx (am_sa i).1 (am_sa i).2 "[I" ∈ gtb) ∨ (v = aR 15 0 0 ∧ Cond.fieldLink own idx "jdk/internal/util/Preconditions" "SIOOBE_FORMATTER" "Ljava/util/function/BiFunction;" ∈ gtb)
  | 4, Sum.inr (Sum.inl (n, a, kd)) => ∃ np, a = np + 1 ∧ am_cw (mt n) np ∧ Cond.methodLink own idx (mt n).1 ∈ gtb ∧ Cond.instanceMethod (mt n).1 ∈ gtb ∧ Cond.selects (mt n).1.cls (mt n).1 (mt n).1 ∈ gtb ∧ ((∃ r : vw_C, am_cls[kd]? = some r ∧ r.1 = (mt n).1.cls) ∨ (kd = 13 ∧ (mt n).1.cls = "java/lang/String"))
  | 5, Sum.inr (Sum.inl (n, a, _)) => am_cw (mt n) a ∧ Cond.static (mt n).1 ∈ gtb ∧ (Cond.methodLink own idx (mt n).1 ∈ gtb ∨ Cond.methodLinkNest own idx (mt n).1 "PaperedOver" ∈ am_nw)
  | 5, Sum.inr (Sum.inr (Sum.inr (Sum.inr (Sum.inr (Sum.inr _))))) => Cond.methodLink own idx arraycopyName ∈ gtb ∧ Cond.native arraycopyName ∈ gtb ∧ Cond.static arraycopyName ∈ gtb ∧ Cond.initialized "java/lang/System" ∈ gtb
  | _, _ => True
