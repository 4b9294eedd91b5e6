def Cl (d n : Nat) (as : List am_V) (M : am_M) (K : Option am_V → am_M → Prop) : Prop := ∃ (d2 : Nat) (Po : Option am_V → am_M → Prop), d2 < d ∧ ConP d2 n as M Po ∧ ∀ r M2, Po r M2 → K r M2
theorem cl_ {d n d2 : Nat} {as : List am_V} {M M2 : am_M} {r : Option am_V} {K : Option am_V → am_M → Prop} (h : Con d2 n as M r M2) (k : K r M2) (hd : d2 < d := by decide) : Cl d n as M K := ⟨d2, _, hd, h, fun a b hab => by obtain ⟨rfl, rfl⟩ := hab; exact k⟩
theorem clp {d n d2 : Nat} {as : List am_V} {M : am_M} {Po : Option am_V → am_M → Prop} {K : Option am_V → am_M → Prop} (h : ConP d2 n as M Po) (k : ∀ r M2, Po r M2 → K r M2) (hd : d2 < d := by decide) : Cl d n as M K := ⟨d2, _, hd, h, k⟩
def am_nth : am_L → Nat → Option am_V
  | [], _ => none
  | x :: _, 0 => x
  | _ :: t, n + 1 => am_nth t n
def am_set : am_L → Nat → am_V → am_L
  | [], _, _ => []
  | _ :: t, 0, v => some v :: t
  | x :: t, n + 1, v => x :: am_set t n v
def am_none : am_L → Nat → am_L
  | [], _ => []
  | _ :: t, 0 => none :: t
  | x :: t, n + 1 => x :: am_none t n
def am_isL : Option am_V → Bool
  | some (Sum.inr (Sum.inr _)) => true
  | _ => false
/-- a place that may be stored to: not the second half of a long -/
def am_ok1 : am_L → Nat → Bool
  | [], _ => false
  | _ :: _, 0 => true
  | x :: t, n + 1 => match n with
    | 0 => !am_isL x && am_ok1 t 0
    | k + 1 => am_ok1 t (k + 1)
def am_pI (st : List am_V) (f : Int32 → List am_V → Prop) : Prop := match st with
  | Sum.inr (Sum.inl x) :: r => f x r
  | _ => False
def am_pL (st : List am_V) (f : Int64 → List am_V → Prop) : Prop := match st with
  | Sum.inr (Sum.inr x) :: r => f x r
  | _ => False
def am_pR (st : List am_V) (f : Nat → Nat → Nat → List am_V → Prop) : Prop := match st with
  | Sum.inl (k, j, o) :: r => f k j o r
  | _ => False
def am_pA (st : List am_V) (f : am_V → List am_V → Prop) : Prop := match st with
  | Sum.inl (k, j, o) :: r => f (Sum.inl (k, j, o)) r
  | Sum.inr (Sum.inl x) :: r => f (Sum.inr (Sum.inl x)) r
  | _ => False
def am_n1 (ns : List Nat) (f : Nat → Prop) : Prop := match ns with
  | i :: _ => f i
  | [] => False
def am_eI (en : Option am_N) (f : Int32 → Prop) : Prop := match en with
  | some (Sum.inr (Sum.inr (Sum.inl x))) => f x
  | _ => False
def am_ck (b : Bool) (P : Prop) : Prop := match b with
  | true => P
  | false => False
def am_cat : List am_V → Nat
  | [] => 0
  | Sum.inr (Sum.inr _) :: r => 2 + am_cat r
  | _ :: r => 1 + am_cat r
def am_pop : Nat → List am_V → List am_V → Option (List am_V × List am_V)
  | 0, st, acc => some (acc, st)
  | n + 1, v :: st, acc => am_pop n st (v :: acc)
  | _ + 1, [], _ => none
def am_push (r : Option am_V) (rest : List am_V) : List am_V := match r with
  | some v => v :: rest
  | none => rest
def am_al (b : Bool) (k o : Nat) : Option Nat := match o with
  | 0 => none
  | o + 1 => match (am_ar k)[o]? with
    | some q => match q.1, b with
      | true, true => some q.2
      | false, false => some q.2
      | _, _ => none
    | none => none
def am_rcv (k : Nat) (as : List am_V) : Bool := match as with
  | Sum.inl (a, _, o) :: _ => Nat.beq a k && (Nat.beq o 0 || Nat.beq a 13)
  | _ => false
def am_cnd (op : Jvm.ClassFile.Cond) (x y : Int32) (A B : Prop) : Prop := match op with
  | .eq => Br (x = y) A B
  | .ne => Br (x = y) B A
  | .lt => Br (x < y) A B
  | .ge => Br (y ≤ x) A B
  | .gt => Br (y < x) A B
  | .le => Br (x ≤ y) A B
def am_cnd0 (op : Jvm.ClassFile.Cond) (x : Int32) (A B : Prop) : Prop := match op with
  | .eq => Br (x = 0) A B
  | .ne => Br (x = 0) B A
  | .lt => Br (x < 0) A B
  | .ge => Br (0 ≤ x) A B
  | .gt => Br (0 < x) A B
  | .le => Br (x ≤ 0) A B
/-- a switch: the default's target, then target and case, one after the other -/
def am_sw (x : Int32) (K : Nat → Prop) (df : Nat) : List Nat → Prop
  | t :: c :: l => Br (x = Int32.ofNat c) (K t) (am_sw x K df l)
  | _ => K df
def am_ret (ret : Option FieldType) (x : Int32) (P : Prop) : Prop := match ret with
  | some .int => P
  | some ty => Ob (vp_nar ty x = x) P
  | none => False
def am_retL (ret : Option FieldType) (P : Prop) : Prop := match ret with
  | some .long => P
  | _ => False
def am_retV (ret : Option FieldType) (P : Prop) : Prop := match ret with
  | none => P
  | _ => False
/-- an answer is a number -/
def am_res (r : Option am_V) (P : Prop) : Prop := match r with
  | some (Sum.inl _) => False
  | _ => P
def am_call (d n : Nat) (b : Bool) (as rest : List am_V) (M : am_M) (K : List am_V → am_M → Prop) : Prop := am_ck b (am_ck (Nat.ble (am_cat rest) 8) (Cl d n as M (fun r M2 => am_res r (K (am_push r rest) M2))))
def am_callM (d n a : Nat) (kd : Option Nat) (st : List am_V) (M : am_M) (K : List am_V → am_M → Prop) : Prop := match am_pop a st [] with
  | some (as, rest) => am_call d n (match kd with | some k => am_rcv k as | none => true) as rest M K
  | none => False
def am_get (M : am_M) (st : List am_V) (c s : Nat) (K : List am_V → Prop) : Prop := am_pR st fun k j o r => am_ck (Nat.beq k c && Nat.beq o 0) (match (am_ob c)[s]? with
  | some none => K (aI (M k j 0 s) :: r)
  | some (some g) => (match g j with | (k2, j2, o2) => K (Sum.inl (k2, j2, o2) :: r))
  | none => False)
def am_put (M : am_M) (st : List am_V) (c s : Nat) (K : List am_V → am_M → Prop) : Prop := am_pI st fun x r => am_pR r fun k j o r => am_ck (Nat.beq k c && Nat.beq o 0) (match (am_ob c)[s]? with
  | some none => match am_fb c s with
    | false => K r (sA M k j 0 (upd (M k j 0) s x))
    | true => Ob (vp_nar .boolean x = x) (K r (sA M k j 0 (upd (M k j 0) s x)))
  | _ => False)
def am_ild (X : Option (Nat × (Nat → Int32))) (M : am_M) (st : List am_V) (K : List am_V → Prop) : Prop := am_pI st fun i r => am_pR r fun k j o r => match am_al false k o with
  | some n => Ob (vp_in i n) (K (aI (M k j o i.toNatClampNeg) :: r))
  | none => match k with
    | 12 => Ob (vp_in i 6) (K (aI ((am_sc o).getD i.toNatClampNeg 0) :: r))
    | 16 => (match X with | some (L, xs) => Ob (vp_in i L) (K (aI (xs i.toNatClampNeg) :: r)) | none => False)
    | _ => False
def am_bld (M : am_M) (st : List am_V) (K : List am_V → Prop) : Prop := am_pI st fun i r => am_pR r fun k j o r => match am_al true k o with
  | some n => Ob (vp_in i n) (K (aI (M k j o i.toNatClampNeg) :: r))
  | none => match k with
    | 14 => Ob (vp_in i (am_sl.getD o 0)) (K (aI ((am_sb.getD o []).getD i.toNatClampNeg 0) :: r))
    | _ => False
def am_ist (M : am_M) (st : List am_V) (K : List am_V → am_M → Prop) : Prop := am_pI st fun x r => am_pI r fun i r => am_pR r fun k j o r => match am_al false k o with
  | some n => Ob (vp_in i n) (K r (sA M k j o (upd (M k j o) i.toNatClampNeg x)))
  | none => False
def am_bst (M : am_M) (st : List am_V) (K : List am_V → am_M → Prop) : Prop := am_pI st fun x r => am_pI r fun i r => am_pR r fun k j o r => match am_al true k o with
  | some n => Ob (vp_in i n) (K r (sA M k j o (upd (M k j o) i.toNatClampNeg (vp_nar .boolean x))))
  | none => False
def am_len (X : Option (Nat × (Nat → Int32))) (M : am_M) (st : List am_V) (K : List am_V → Prop) : Prop := am_pR st fun k _ o r => match am_al false k o with
  | some n => K (aI (Int32.ofNat n) :: r)
  | none => match k with
    | 12 => K (aI 6 :: r)
    | 14 => K (aI (Int32.ofNat (am_sl.getD o 0)) :: r)
    | 16 => (match X with | some (L, _) => K (aI (Int32.ofNat L) :: r) | none => False)
    | _ => False
def am_cpy (d : Nat) (M : am_M) (st : List am_V) (K : List am_V → am_M → Prop) : Prop := am_pI st fun n r => am_pI r fun dp r => am_pR r fun k1 j1 o1 r => am_pI r fun sp r => am_pR r fun k0 j0 o0 r => am_ck (Nat.ble 1 d && r.isEmpty) (match am_al false k0 o0, am_al false k1 o1 with
  | some n0, some n1 => Ob (¬ sp < 0 ∧ ¬ dp < 0 ∧ ¬ n < 0 ∧ sp.toNatClampNeg + n.toNatClampNeg ≤ n0 ∧ dp.toNatClampNeg + n.toNatClampNeg ≤ n1) (K r (sA M k1 j1 o1 (va_cpy (M k0 j0 o0) (M k1 j1 o1) sp.toNatClampNeg dp.toNatClampNeg n.toNatClampNeg)))
  | _, _ => False)
/-- one instruction: k is what comes behind it, J what stands at a target, Rt what must hold at the end -/
def am_step (d : Nat) (X : Option (Nat × (Nat → Int32))) (ret : Option FieldType) (J : Nat → am_L → List am_V → am_M → Prop) (Rt : Option am_V → am_M → Prop) (el : am_E) (k : am_L → List am_V → am_M → Prop) (lv : am_L) (st : List am_V) (M : am_M) : Prop :=
  match el.2.1 with
  | .iconst _ => am_eI el.2.2.2 fun v => k lv (aI v :: st) M
  | .bipush _ => am_eI el.2.2.2 fun v => k lv (aI v :: st) M
  | .sipush _ => am_eI el.2.2.2 fun v => k lv (aI v :: st) M
  | .ldc _ => (match el.2.2.2 with
    | some (Sum.inr (Sum.inr (Sum.inl v))) => k lv (aI v :: st) M
    | some (Sum.inr (Sum.inr (Sum.inr (Sum.inr (Sum.inl v))))) => k lv (v :: st) M
    | _ => False)
  | .ldc_w _ => am_eI el.2.2.2 fun v => k lv (aI v :: st) M
  | .ldc2_w _ => (match el.2.2.2 with
    | some (Sum.inr (Sum.inr (Sum.inr (Sum.inl v)))) => k lv (aL v :: st) M
    | _ => False)
  | .lconst _ => (match el.2.2.2 with
    | some (Sum.inr (Sum.inr (Sum.inr (Sum.inl v)))) => k lv (aL v :: st) M
    | _ => False)
  | .iload_n _ => am_n1 el.2.2.1 fun i => (match am_nth lv i with | some (Sum.inr (Sum.inl x)) => k lv (aI x :: st) M | _ => False)
  | .iload _ => am_n1 el.2.2.1 fun i => (match am_nth lv i with | some (Sum.inr (Sum.inl x)) => k lv (aI x :: st) M | _ => False)
  | .lload_n _ => am_n1 el.2.2.1 fun i => (match am_nth lv i with | some (Sum.inr (Sum.inr x)) => k lv (aL x :: st) M | _ => False)
  | .lload _ => am_n1 el.2.2.1 fun i => (match am_nth lv i with | some (Sum.inr (Sum.inr x)) => k lv (aL x :: st) M | _ => False)
  | .aload_n _ => am_n1 el.2.2.1 fun i => (match am_nth lv i with | some (Sum.inl (kd, j, o)) => k lv (Sum.inl (kd, j, o) :: st) M | _ => False)
  | .aload _ => am_n1 el.2.2.1 fun i => (match am_nth lv i with | some (Sum.inl (kd, j, o)) => k lv (Sum.inl (kd, j, o) :: st) M | _ => False)
  | .istore_n _ => am_n1 el.2.2.1 fun i => am_pI st fun x r => am_ck (am_ok1 lv i) (k (am_set lv i (aI x)) r M)
  | .istore _ => am_n1 el.2.2.1 fun i => am_pI st fun x r => am_ck (am_ok1 lv i) (k (am_set lv i (aI x)) r M)
  | .astore_n _ => am_n1 el.2.2.1 fun i => am_pR st fun kd j o r => am_ck (am_ok1 lv i && !Nat.beq kd 15) (k (am_set lv i (Sum.inl (kd, j, o))) r M)
  | .lstore_n _ => am_n1 el.2.2.1 fun i => am_pL st fun x r => am_ck (am_ok1 lv i && Nat.blt (i + 1) lv.length) (k (am_none (am_set lv i (aL x)) (i + 1)) r M)
  | .iinc _ _ => am_n1 el.2.2.1 fun i => am_eI el.2.2.2 fun v => (match am_nth lv i with | some (Sum.inr (Sum.inl x)) => am_ck (am_ok1 lv i) (k (am_set lv i (aI (x + v))) st M) | _ => False)
  | .iadd => am_pI st fun y r => am_pI r fun x r => k lv (aI (x + y) :: r) M
  | .isub => am_pI st fun y r => am_pI r fun x r => k lv (aI (x - y) :: r) M
  | .imul => am_pI st fun y r => am_pI r fun x r => k lv (aI (x * y) :: r) M
  | .idiv => am_pI st fun y r => am_pI r fun x r => Ob (¬ y = 0) (k lv (aI (x / y) :: r) M)
  | .irem => am_pI st fun y r => am_pI r fun x r => Ob (¬ y = 0) (k lv (aI (x - x / y * y) :: r) M)
  | .ineg => am_pI st fun x r => k lv (aI (-x) :: r) M
  | .iand => am_pI st fun y r => am_pI r fun x r => k lv (aI (x &&& y) :: r) M
  | .ior => am_pI st fun y r => am_pI r fun x r => k lv (aI (x ||| y) :: r) M
  | .ixor => am_pI st fun y r => am_pI r fun x r => k lv (aI (x ^^^ y) :: r) M
  | .ishl => am_pI st fun y r => am_pI r fun x r => k lv (aI (x <<< (y &&& 31)) :: r) M
  | .ishr => am_pI st fun y r => am_pI r fun x r => k lv (aI (x >>> (y &&& 31)) :: r) M
  | .ladd => am_pL st fun y r => am_pL r fun x r => k lv (aL (x + y) :: r) M
  | .land => am_pL st fun y r => am_pL r fun x r => k lv (aL (x &&& y) :: r) M
  | .lor => am_pL st fun y r => am_pL r fun x r => k lv (aL (x ||| y) :: r) M
  | .lshl => am_pI st fun y r => am_pL r fun x r => k lv (aL (x <<< (y.toInt64 &&& 63)) :: r) M
  | .lshr => am_pI st fun y r => am_pL r fun x r => k lv (aL (x >>> (y.toInt64 &&& 63)) :: r) M
  | .lushr => am_pI st fun y r => am_pL r fun x r => k lv (aL (x.toUInt64 >>> (y.toInt64.toUInt64 &&& Int64.toUInt64 63)).toInt64 :: r) M
  | .lcmp => am_pL st fun y r => am_pL r fun x r => k lv (aI (lg_cmp x y) :: r) M
  | .i2l => am_pI st fun x r => k lv (aL x.toInt64 :: r) M
  | .l2i => am_pL st fun x r => k lv (aI x.toInt32 :: r) M
  | .i2b => am_pI st fun x r => k lv (aI x.toInt8.toInt32 :: r) M
  | .i2s => am_pI st fun x r => k lv (aI x.toInt16.toInt32 :: r) M
  | .i2c => am_pI st fun x r => k lv (aI (x.toUInt32 % 65536).toInt32 :: r) M
  | .dup => am_pA st fun x r => k lv (x :: x :: r) M
  | .dup2 => am_pA st fun x r => am_pA r fun y r => k lv (x :: y :: x :: y :: r) M
  | .pop => am_pA st fun _ r => k lv r M
  | .getfield _ => (match el.2.2.2 with
    | some (Sum.inl (c, s)) => am_get M st c s fun r => k lv r M
    | some (Sum.inr (Sum.inr (Sum.inr (Sum.inr (Sum.inr (Sum.inl n)))))) => am_pR st fun kd _ o r => am_ck (Nat.beq kd 13) (match n with | 0 => k lv (aI 0 :: r) M | _ => k lv (aR 14 0 o :: r) M)
    | _ => False)
  | .putfield _ => (match el.2.2.2 with
    | some (Sum.inl (c, s)) => am_put M st c s fun r M2 => k lv r M2
    | _ => False)
  | .getstatic _ => (match el.2.2.2 with
    | some (Sum.inr (Sum.inr (Sum.inl v))) => k lv (aI v :: st) M
    | some (Sum.inr (Sum.inr (Sum.inr (Sum.inr (Sum.inl v))))) => k lv (v :: st) M
    | _ => False)
  | .arraylength => am_len X M st fun r => k lv r M
  | .iaload => am_ild X M st fun r => k lv r M
  | .baload => am_bld M st fun r => k lv r M
  | .iastore => am_ist M st fun r M2 => k lv r M2
  | .bastore => am_bst M st fun r M2 => k lv r M2
  | .if_icmp op _ => am_n1 el.2.2.1 fun t => am_pI st fun y r => am_pI r fun x r => am_cnd op x y (J t lv r M) (k lv r M)
  | .ifCond op _ => am_n1 el.2.2.1 fun t => am_pI st fun x r => am_cnd0 op x (J t lv r M) (k lv r M)
  | .goto _ => am_n1 el.2.2.1 fun t => J t lv st M
  | .tableswitch _ _ _ _ => (match el.2.2.1 with
    | df :: l => am_pI st fun x r => am_sw x (fun t => J t lv r M) df l
    | [] => False)
  | .invokevirtual _ => (match el.2.2.2 with
    | some (Sum.inr (Sum.inl (n, a, kd))) => am_callM d n a (some kd) st M fun r M2 => k lv r M2
    | _ => False)
  | .invokestatic _ => (match el.2.2.2 with
    | some (Sum.inr (Sum.inl (n, a, _))) => am_callM d n a none st M fun r M2 => k lv r M2
    | some (Sum.inr (Sum.inr (Sum.inr (Sum.inr (Sum.inr (Sum.inr _)))))) => am_cpy d M st fun r M2 => k lv r M2
    | _ => False)
  | .ireturn => am_pI st fun x r => am_ck r.isEmpty (am_ret ret x (Rt (some (aI x)) M))
  | .lreturn => am_pL st fun x r => am_ck r.isEmpty (am_retL ret (Rt (some (aL x)) M))
  | .return_ => am_ck st.isEmpty (am_retV ret (Rt none M))
  | _ => False
def am_to (pc : Nat) : List am_E → List am_E
  | [] => []
  | el :: L => match Nat.beq el.1 pc with
    | true => el :: L
    | false => am_to pc L
/-- what comes behind an instruction: at the places of cut it stands as J -/
def am_rst (d : Nat) (X : Option (Nat × (Nat → Int32))) (ret : Option FieldType) (J : Nat → am_L → List am_V → am_M → Prop) (Rt : Option am_V → am_M → Prop) (cut : List Nat) : List am_E → am_L → List am_V → am_M → Prop
  | [] => fun _ _ _ => False
  | el :: L => match cut.any (Nat.beq el.1) with
    | true => J el.1
    | false => am_step d X ret J Rt el (am_rst d X ret J Rt cut L)
def am_blk (d : Nat) (X : Option (Nat × (Nat → Int32))) (ret : Option FieldType) (J : Nat → am_L → List am_V → am_M → Prop) (Rt : Option am_V → am_M → Prop) (cut : List Nat) : List am_E → am_L → List am_V → am_M → Prop
  | [] => fun _ _ _ => False
  | el :: L => am_step d X ret J Rt el (am_rst d X ret J Rt cut L)
/-- J is closed under the code -/
def am_cl (d : Nat) (X : Option (Nat × (Nat → Int32))) (ret : Option FieldType) (code : List am_E) (J : Nat → am_L → List am_V → am_M → Prop) (Rt : Option am_V → am_M → Prop) : Prop := ∀ (cut : List Nat) (pc : Nat) (lv : am_L) (st : List am_V) (M : am_M), am_blk d X ret J Rt cut (am_to pc code) lv st M → J pc lv st M
def am_args : List am_V → am_L
  | [] => []
  | Sum.inr (Sum.inr x) :: t => some (aL x) :: none :: am_args t
  | v :: t => some v :: am_args t
def am_lv0 (nL : Nat) (as : List am_V) : am_L := am_args as ++ List.replicate (nL - (am_args as).length) none
/-- the code comes to its end as Po wants it -/
def am_Sem (d : Nat) (ret : Option FieldType) (code : List am_E) (lv0 : am_L) (M : am_M) (Po : Option am_V → am_M → Prop) : Prop := ∀ J : Nat → am_L → List am_V → am_M → Prop, am_cl d none ret code J Po → J 0 lv0 [] M
