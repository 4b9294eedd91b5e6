theorem lw_cA {s : State} {args : Array Value} {ty : FieldType} (h : (Cond.arrayClass ty).before args s = true) (hr : ∀ c, s.vm.findClass ("[" ++ ty.toString) = some c → va_RA s c ty) : ∃ cA, ArrOfT s cA ty ∧ va_RA s cA ty := by
  obtain ⟨cA, kA, comp, hfind, hk, hkind⟩ := Cond.arrayClass_spec h
  exact ⟨cA, fun n z => ⟨fun k h => (by cases h), kA, hk, comp, hkind⟩, hr cA hfind⟩
set_option maxHeartbeats 4000000 in
set_option maxRecDepth 100000 in
theorem lw_tabs {s : State} {args : Array Value} (hts : ∀ w ∈ lw_tbl, w.before args s = true) (hgv : (Jvm.Cond.and given_1 narrow_1).before args s = true) {A : Nat → Prop} (hA : ∀ a : Nat, a < s.heap.size → ¬ A a) : ∃ zt : Nat → Nat, ∀ i, i < 3 → va_Z (am_sa i).1 (am_sa i).2 "[I" (.ref (zt i)) A s s.heap ∧ va_T .int (zt i) 6 (fun j => .int ((am_sc i).getD j 0)) A s s.heap := by
  have hs := flat_of_before _ hgv
  obtain ⟨t0, e0, T0⟩ := va_Tof (tm := (Term.static "PaperedOver$House" "ALSO" "[I")) (ty := .int) (N := 6) (f := fun j => .int ((am_sc 0).getD j 0)) (A := A) (by decide) (hs (.arrayOf (Term.static "PaperedOver$House" "ALSO" "[I") .int) (by decide +kernel)) (va_eqt (hs (.eq (.length (Term.static "PaperedOver$House" "ALSO" "[I")) (.int 6)) (by decide +kernel))) (fun j hj => by
    rcases (show j = 0 ∨ j = 1 ∨ j = 2 ∨ j = 3 ∨ j = 4 ∨ j = 5 by omega) with rfl | rfl | rfl | rfl | rfl | rfl
    · exact va_eqt (hs (.eq (.elem (Term.static "PaperedOver$House" "ALSO" "[I") (.int 0)) (.int (-1))) (by decide +kernel))
    · exact va_eqt (hs (.eq (.elem (Term.static "PaperedOver$House" "ALSO" "[I") (.int 1)) (.int 0)) (by decide +kernel))
    · exact va_eqt (hs (.eq (.elem (Term.static "PaperedOver$House" "ALSO" "[I") (.int 2)) (.int 0)) (by decide +kernel))
    · exact va_eqt (hs (.eq (.elem (Term.static "PaperedOver$House" "ALSO" "[I") (.int 3)) (.int 2)) (by decide +kernel))
    · exact va_eqt (hs (.eq (.elem (Term.static "PaperedOver$House" "ALSO" "[I") (.int 4)) (.int 1)) (by decide +kernel))
    · exact va_eqt (hs (.eq (.elem (Term.static "PaperedOver$House" "ALSO" "[I") (.int 5)) (.int 0)) (by decide +kernel))) hA
  have z0 := va_Zref (A := A) (hts (.laysStatic "PaperedOver$House" "ALSO" "[I") (List.mem_of_getElem? (i := 732) (by decide +kernel))) (hts (.initialized "PaperedOver$House") (List.mem_of_getElem? (i := 46) (by decide +kernel))) e0 hA
  obtain ⟨t1, e1, T1⟩ := va_Tof (tm := (Term.static "PaperedOver$Bodies" "SIZES" "[I")) (ty := .int) (N := 6) (f := fun j => .int ((am_sc 1).getD j 0)) (A := A) (by decide) (hs (.arrayOf (Term.static "PaperedOver$Bodies" "SIZES" "[I") .int) (by decide +kernel)) (va_eqt (hs (.eq (.length (Term.static "PaperedOver$Bodies" "SIZES" "[I")) (.int 6)) (by decide +kernel))) (fun j hj => by
    rcases (show j = 0 ∨ j = 1 ∨ j = 2 ∨ j = 3 ∨ j = 4 ∨ j = 5 by omega) with rfl | rfl | rfl | rfl | rfl | rfl
    · exact va_eqt (hs (.eq (.elem (Term.static "PaperedOver$Bodies" "SIZES" "[I") (.int 0)) (.int 10)) (by decide +kernel))
    · exact va_eqt (hs (.eq (.elem (Term.static "PaperedOver$Bodies" "SIZES" "[I") (.int 1)) (.int 11)) (by decide +kernel))
    · exact va_eqt (hs (.eq (.elem (Term.static "PaperedOver$Bodies" "SIZES" "[I") (.int 2)) (.int 13)) (by decide +kernel))
    · exact va_eqt (hs (.eq (.elem (Term.static "PaperedOver$Bodies" "SIZES" "[I") (.int 3)) (.int 14)) (by decide +kernel))
    · exact va_eqt (hs (.eq (.elem (Term.static "PaperedOver$Bodies" "SIZES" "[I") (.int 4)) (.int 12)) (by decide +kernel))
    · exact va_eqt (hs (.eq (.elem (Term.static "PaperedOver$Bodies" "SIZES" "[I") (.int 5)) (.int 10)) (by decide +kernel))) hA
  have z1 := va_Zref (A := A) (hts (.laysStatic "PaperedOver$Bodies" "SIZES" "[I") (List.mem_of_getElem? (i := 987) (by decide +kernel))) (hts (.initialized "PaperedOver$Bodies") (List.mem_of_getElem? (i := 52) (by decide +kernel))) e1 hA
  obtain ⟨t2, e2, T2⟩ := va_Tof (tm := (Term.static "PaperedOver$Bodies" "MARKS" "[I")) (ty := .int) (N := 6) (f := fun j => .int ((am_sc 2).getD j 0)) (A := A) (by decide) (hs (.arrayOf (Term.static "PaperedOver$Bodies" "MARKS" "[I") .int) (by decide +kernel)) (va_eqt (hs (.eq (.length (Term.static "PaperedOver$Bodies" "MARKS" "[I")) (.int 6)) (by decide +kernel))) (fun j hj => by
    rcases (show j = 0 ∨ j = 1 ∨ j = 2 ∨ j = 3 ∨ j = 4 ∨ j = 5 by omega) with rfl | rfl | rfl | rfl | rfl | rfl
    · exact va_eqt (hs (.eq (.elem (Term.static "PaperedOver$Bodies" "MARKS" "[I") (.int 0)) (.int 20)) (by decide +kernel))
    · exact va_eqt (hs (.eq (.elem (Term.static "PaperedOver$Bodies" "MARKS" "[I") (.int 1)) (.int 21)) (by decide +kernel))
    · exact va_eqt (hs (.eq (.elem (Term.static "PaperedOver$Bodies" "MARKS" "[I") (.int 2)) (.int 22)) (by decide +kernel))
    · exact va_eqt (hs (.eq (.elem (Term.static "PaperedOver$Bodies" "MARKS" "[I") (.int 3)) (.int 22)) (by decide +kernel))
    · exact va_eqt (hs (.eq (.elem (Term.static "PaperedOver$Bodies" "MARKS" "[I") (.int 4)) (.int 24)) (by decide +kernel))
    · exact va_eqt (hs (.eq (.elem (Term.static "PaperedOver$Bodies" "MARKS" "[I") (.int 5)) (.int 23)) (by decide +kernel))) hA
  have z2 := va_Zref (A := A) (hts (.laysStatic "PaperedOver$Bodies" "MARKS" "[I") (List.mem_of_getElem? (i := 1001) (by decide +kernel))) (hts (.initialized "PaperedOver$Bodies") (List.mem_of_getElem? (i := 52) (by decide +kernel))) e2 hA
  refine ⟨fun i => if i = 0 then t0 else if i = 1 then t1 else t2, fun i hi => ?_⟩
  rcases (show i = 0 ∨ i = 1 ∨ i = 2 by omega) with rfl | rfl | rfl
  · exact ⟨z0, T0⟩
  · exact ⟨z1, T1⟩
  · exact ⟨z2, T2⟩
set_option maxHeartbeats 4000000 in
set_option maxRecDepth 100000 in
theorem lw_strs {s : State} {args : Array Value} (hts : ∀ w ∈ lw_tbl, w.before args s = true) (hgv : (Jvm.Cond.and given_1 narrow_1).before args s = true) {A : Nat → Prop} (hA : ∀ a : Nat, a < s.heap.size → ¬ A a) : ∃ sk sv : Nat → Nat, vk_S 8 am_sl am_sb sk sv A s s.heap ∧ ∀ i, i < 8 → vk_R "PaperedOver$Reader" (am_si i) (am_sx i) (sk i) s := by
  have hs := flat_of_before _ hgv
  have h1 : ∀ i : Nat, i < 8 → (Cond.exactly (Term.string "PaperedOver$Reader" (am_si i)) "java/lang/String").before args s = true := by
    intro i hi
    rcases (show i = 0 ∨ i = 1 ∨ i = 2 ∨ i = 3 ∨ i = 4 ∨ i = 5 ∨ i = 6 ∨ i = 7 by omega) with rfl | rfl | rfl | rfl | rfl | rfl | rfl | rfl
    · exact hs (.exactly (Term.string "PaperedOver$Reader" 57) "java/lang/String") (by decide +kernel)
    · exact hs (.exactly (Term.string "PaperedOver$Reader" 63) "java/lang/String") (by decide +kernel)
    · exact hs (.exactly (Term.string "PaperedOver$Reader" 65) "java/lang/String") (by decide +kernel)
    · exact hs (.exactly (Term.string "PaperedOver$Reader" 106) "java/lang/String") (by decide +kernel)
    · exact hs (.exactly (Term.string "PaperedOver$Reader" 108) "java/lang/String") (by decide +kernel)
    · exact hs (.exactly (Term.string "PaperedOver$Reader" 110) "java/lang/String") (by decide +kernel)
    · exact hs (.exactly (Term.string "PaperedOver$Reader" 112) "java/lang/String") (by decide +kernel)
    · exact hs (.exactly (Term.string "PaperedOver$Reader" 114) "java/lang/String") (by decide +kernel)
  have h2 : ∀ i : Nat, i < 8 → (Cond.eq (.field (Term.string "PaperedOver$Reader" (am_si i)) "java/lang/String" "coder" "B") (.int 0)).before args s = true := by
    intro i hi
    rcases (show i = 0 ∨ i = 1 ∨ i = 2 ∨ i = 3 ∨ i = 4 ∨ i = 5 ∨ i = 6 ∨ i = 7 by omega) with rfl | rfl | rfl | rfl | rfl | rfl | rfl | rfl
    · exact hs (.eq (.field (Term.string "PaperedOver$Reader" 57) "java/lang/String" "coder" "B") (.int 0)) (by decide +kernel)
    · exact hs (.eq (.field (Term.string "PaperedOver$Reader" 63) "java/lang/String" "coder" "B") (.int 0)) (by decide +kernel)
    · exact hs (.eq (.field (Term.string "PaperedOver$Reader" 65) "java/lang/String" "coder" "B") (.int 0)) (by decide +kernel)
    · exact hs (.eq (.field (Term.string "PaperedOver$Reader" 106) "java/lang/String" "coder" "B") (.int 0)) (by decide +kernel)
    · exact hs (.eq (.field (Term.string "PaperedOver$Reader" 108) "java/lang/String" "coder" "B") (.int 0)) (by decide +kernel)
    · exact hs (.eq (.field (Term.string "PaperedOver$Reader" 110) "java/lang/String" "coder" "B") (.int 0)) (by decide +kernel)
    · exact hs (.eq (.field (Term.string "PaperedOver$Reader" 112) "java/lang/String" "coder" "B") (.int 0)) (by decide +kernel)
    · exact hs (.eq (.field (Term.string "PaperedOver$Reader" 114) "java/lang/String" "coder" "B") (.int 0)) (by decide +kernel)
  have h3 : ∀ i : Nat, i < 8 → (Cond.arrayOf (.field (Term.string "PaperedOver$Reader" (am_si i)) "java/lang/String" "value" "[B") .byte).before args s = true := by
    intro i hi
    rcases (show i = 0 ∨ i = 1 ∨ i = 2 ∨ i = 3 ∨ i = 4 ∨ i = 5 ∨ i = 6 ∨ i = 7 by omega) with rfl | rfl | rfl | rfl | rfl | rfl | rfl | rfl
    · exact hs (.arrayOf (Term.field (Term.string "PaperedOver$Reader" 57) "java/lang/String" "value" "[B") .byte) (by decide +kernel)
    · exact hs (.arrayOf (Term.field (Term.string "PaperedOver$Reader" 63) "java/lang/String" "value" "[B") .byte) (by decide +kernel)
    · exact hs (.arrayOf (Term.field (Term.string "PaperedOver$Reader" 65) "java/lang/String" "value" "[B") .byte) (by decide +kernel)
    · exact hs (.arrayOf (Term.field (Term.string "PaperedOver$Reader" 106) "java/lang/String" "value" "[B") .byte) (by decide +kernel)
    · exact hs (.arrayOf (Term.field (Term.string "PaperedOver$Reader" 108) "java/lang/String" "value" "[B") .byte) (by decide +kernel)
    · exact hs (.arrayOf (Term.field (Term.string "PaperedOver$Reader" 110) "java/lang/String" "value" "[B") .byte) (by decide +kernel)
    · exact hs (.arrayOf (Term.field (Term.string "PaperedOver$Reader" 112) "java/lang/String" "value" "[B") .byte) (by decide +kernel)
    · exact hs (.arrayOf (Term.field (Term.string "PaperedOver$Reader" 114) "java/lang/String" "value" "[B") .byte) (by decide +kernel)
  have h4 : ∀ i : Nat, i < 8 → (Cond.eq (.length (.field (Term.string "PaperedOver$Reader" (am_si i)) "java/lang/String" "value" "[B")) (.int (Int32.ofNat (am_sl.getD i 0)))).before args s = true := by
    intro i hi
    rcases (show i = 0 ∨ i = 1 ∨ i = 2 ∨ i = 3 ∨ i = 4 ∨ i = 5 ∨ i = 6 ∨ i = 7 by omega) with rfl | rfl | rfl | rfl | rfl | rfl | rfl | rfl
    · exact hs (.eq (.length (Term.field (Term.string "PaperedOver$Reader" 57) "java/lang/String" "value" "[B")) (.int 4)) (by decide +kernel)
    · exact hs (.eq (.length (Term.field (Term.string "PaperedOver$Reader" 63) "java/lang/String" "value" "[B")) (.int 5)) (by decide +kernel)
    · exact hs (.eq (.length (Term.field (Term.string "PaperedOver$Reader" 65) "java/lang/String" "value" "[B")) (.int 6)) (by decide +kernel)
    · exact hs (.eq (.length (Term.field (Term.string "PaperedOver$Reader" 106) "java/lang/String" "value" "[B")) (.int 5)) (by decide +kernel)
    · exact hs (.eq (.length (Term.field (Term.string "PaperedOver$Reader" 108) "java/lang/String" "value" "[B")) (.int 5)) (by decide +kernel)
    · exact hs (.eq (.length (Term.field (Term.string "PaperedOver$Reader" 110) "java/lang/String" "value" "[B")) (.int 4)) (by decide +kernel)
    · exact hs (.eq (.length (Term.field (Term.string "PaperedOver$Reader" 112) "java/lang/String" "value" "[B")) (.int 4)) (by decide +kernel)
    · exact hs (.eq (.length (Term.field (Term.string "PaperedOver$Reader" 114) "java/lang/String" "value" "[B")) (.int 5)) (by decide +kernel)
  have h5 : ∀ i : Nat, i < 8 → ∀ j : Nat, j < am_sl.getD i 0 → (Cond.eq (.elem (.field (Term.string "PaperedOver$Reader" (am_si i)) "java/lang/String" "value" "[B") (.int (Int32.ofNat j))) (.int ((am_sb.getD i []).getD j 0))).before args s = true := by
    intro i hi
    rcases (show i = 0 ∨ i = 1 ∨ i = 2 ∨ i = 3 ∨ i = 4 ∨ i = 5 ∨ i = 6 ∨ i = 7 by omega) with rfl | rfl | rfl | rfl | rfl | rfl | rfl | rfl
    · intro j hj
      rcases (show j = 0 ∨ j = 1 ∨ j = 2 ∨ j = 3 by have h9 : j < 4 := hj; omega) with rfl | rfl | rfl | rfl
      · exact hs (.eq (.elem (Term.field (Term.string "PaperedOver$Reader" 57) "java/lang/String" "value" "[B") (.int 0)) (.int 119)) (by decide +kernel)
      · exact hs (.eq (.elem (Term.field (Term.string "PaperedOver$Reader" 57) "java/lang/String" "value" "[B") (.int 1)) (.int 97)) (by decide +kernel)
      · exact hs (.eq (.elem (Term.field (Term.string "PaperedOver$Reader" 57) "java/lang/String" "value" "[B") (.int 2)) (.int 108)) (by decide +kernel)
      · exact hs (.eq (.elem (Term.field (Term.string "PaperedOver$Reader" 57) "java/lang/String" "value" "[B") (.int 3)) (.int 108)) (by decide +kernel)
    · intro j hj
      rcases (show j = 0 ∨ j = 1 ∨ j = 2 ∨ j = 3 ∨ j = 4 by have h9 : j < 5 := hj; omega) with rfl | rfl | rfl | rfl | rfl
      · exact hs (.eq (.elem (Term.field (Term.string "PaperedOver$Reader" 63) "java/lang/String" "value" "[B") (.int 0)) (.int 112)) (by decide +kernel)
      · exact hs (.eq (.elem (Term.field (Term.string "PaperedOver$Reader" 63) "java/lang/String" "value" "[B") (.int 1)) (.int 97)) (by decide +kernel)
      · exact hs (.eq (.elem (Term.field (Term.string "PaperedOver$Reader" 63) "java/lang/String" "value" "[B") (.int 2)) (.int 112)) (by decide +kernel)
      · exact hs (.eq (.elem (Term.field (Term.string "PaperedOver$Reader" 63) "java/lang/String" "value" "[B") (.int 3)) (.int 101)) (by decide +kernel)
      · exact hs (.eq (.elem (Term.field (Term.string "PaperedOver$Reader" 63) "java/lang/String" "value" "[B") (.int 4)) (.int 114)) (by decide +kernel)
    · intro j hj
      rcases (show j = 0 ∨ j = 1 ∨ j = 2 ∨ j = 3 ∨ j = 4 ∨ j = 5 by have h9 : j < 6 := hj; omega) with rfl | rfl | rfl | rfl | rfl | rfl
      · exact hs (.eq (.elem (Term.field (Term.string "PaperedOver$Reader" 65) "java/lang/String" "value" "[B") (.int 0)) (.int 116)) (by decide +kernel)
      · exact hs (.eq (.elem (Term.field (Term.string "PaperedOver$Reader" 65) "java/lang/String" "value" "[B") (.int 1)) (.int 101)) (by decide +kernel)
      · exact hs (.eq (.elem (Term.field (Term.string "PaperedOver$Reader" 65) "java/lang/String" "value" "[B") (.int 2)) (.int 110)) (by decide +kernel)
      · exact hs (.eq (.elem (Term.field (Term.string "PaperedOver$Reader" 65) "java/lang/String" "value" "[B") (.int 3)) (.int 97)) (by decide +kernel)
      · exact hs (.eq (.elem (Term.field (Term.string "PaperedOver$Reader" 65) "java/lang/String" "value" "[B") (.int 4)) (.int 110)) (by decide +kernel)
      · exact hs (.eq (.elem (Term.field (Term.string "PaperedOver$Reader" 65) "java/lang/String" "value" "[B") (.int 5)) (.int 116)) (by decide +kernel)
    · intro j hj
      rcases (show j = 0 ∨ j = 1 ∨ j = 2 ∨ j = 3 ∨ j = 4 by have h9 : j < 5 := hj; omega) with rfl | rfl | rfl | rfl | rfl
      · exact hs (.eq (.elem (Term.field (Term.string "PaperedOver$Reader" 106) "java/lang/String" "value" "[B") (.int 0)) (.int 112)) (by decide +kernel)
      · exact hs (.eq (.elem (Term.field (Term.string "PaperedOver$Reader" 106) "java/lang/String" "value" "[B") (.int 1)) (.int 108)) (by decide +kernel)
      · exact hs (.eq (.elem (Term.field (Term.string "PaperedOver$Reader" 106) "java/lang/String" "value" "[B") (.int 2)) (.int 97)) (by decide +kernel)
      · exact hs (.eq (.elem (Term.field (Term.string "PaperedOver$Reader" 106) "java/lang/String" "value" "[B") (.int 3)) (.int 105)) (by decide +kernel)
      · exact hs (.eq (.elem (Term.field (Term.string "PaperedOver$Reader" 106) "java/lang/String" "value" "[B") (.int 4)) (.int 110)) (by decide +kernel)
    · intro j hj
      rcases (show j = 0 ∨ j = 1 ∨ j = 2 ∨ j = 3 ∨ j = 4 by have h9 : j < 5 := hj; omega) with rfl | rfl | rfl | rfl | rfl
      · exact hs (.eq (.elem (Term.field (Term.string "PaperedOver$Reader" 108) "java/lang/String" "value" "[B") (.int 0)) (.int 115)) (by decide +kernel)
      · exact hs (.eq (.elem (Term.field (Term.string "PaperedOver$Reader" 108) "java/lang/String" "value" "[B") (.int 1)) (.int 116)) (by decide +kernel)
      · exact hs (.eq (.elem (Term.field (Term.string "PaperedOver$Reader" 108) "java/lang/String" "value" "[B") (.int 2)) (.int 97)) (by decide +kernel)
      · exact hs (.eq (.elem (Term.field (Term.string "PaperedOver$Reader" 108) "java/lang/String" "value" "[B") (.int 3)) (.int 109)) (by decide +kernel)
      · exact hs (.eq (.elem (Term.field (Term.string "PaperedOver$Reader" 108) "java/lang/String" "value" "[B") (.int 4)) (.int 112)) (by decide +kernel)
    · intro j hj
      rcases (show j = 0 ∨ j = 1 ∨ j = 2 ∨ j = 3 by have h9 : j < 4 := hj; omega) with rfl | rfl | rfl | rfl
      · exact hs (.eq (.elem (Term.field (Term.string "PaperedOver$Reader" 110) "java/lang/String" "value" "[B") (.int 0)) (.int 110)) (by decide +kernel)
      · exact hs (.eq (.elem (Term.field (Term.string "PaperedOver$Reader" 110) "java/lang/String" "value" "[B") (.int 1)) (.int 101)) (by decide +kernel)
      · exact hs (.eq (.elem (Term.field (Term.string "PaperedOver$Reader" 110) "java/lang/String" "value" "[B") (.int 2)) (.int 119)) (by decide +kernel)
      · exact hs (.eq (.elem (Term.field (Term.string "PaperedOver$Reader" 110) "java/lang/String" "value" "[B") (.int 3)) (.int 115)) (by decide +kernel)
    · intro j hj
      rcases (show j = 0 ∨ j = 1 ∨ j = 2 ∨ j = 3 by have h9 : j < 4 := hj; omega) with rfl | rfl | rfl | rfl
      · exact hs (.eq (.elem (Term.field (Term.string "PaperedOver$Reader" 112) "java/lang/String" "value" "[B") (.int 0)) (.int 114)) (by decide +kernel)
      · exact hs (.eq (.elem (Term.field (Term.string "PaperedOver$Reader" 112) "java/lang/String" "value" "[B") (.int 1)) (.int 101)) (by decide +kernel)
      · exact hs (.eq (.elem (Term.field (Term.string "PaperedOver$Reader" 112) "java/lang/String" "value" "[B") (.int 2)) (.int 115)) (by decide +kernel)
      · exact hs (.eq (.elem (Term.field (Term.string "PaperedOver$Reader" 112) "java/lang/String" "value" "[B") (.int 3)) (.int 116)) (by decide +kernel)
    · intro j hj
      rcases (show j = 0 ∨ j = 1 ∨ j = 2 ∨ j = 3 ∨ j = 4 by have h9 : j < 5 := hj; omega) with rfl | rfl | rfl | rfl | rfl
      · exact hs (.eq (.elem (Term.field (Term.string "PaperedOver$Reader" 114) "java/lang/String" "value" "[B") (.int 0)) (.int 112)) (by decide +kernel)
      · exact hs (.eq (.elem (Term.field (Term.string "PaperedOver$Reader" 114) "java/lang/String" "value" "[B") (.int 1)) (.int 97)) (by decide +kernel)
      · exact hs (.eq (.elem (Term.field (Term.string "PaperedOver$Reader" 114) "java/lang/String" "value" "[B") (.int 2)) (.int 105)) (by decide +kernel)
      · exact hs (.eq (.elem (Term.field (Term.string "PaperedOver$Reader" 114) "java/lang/String" "value" "[B") (.int 3)) (.int 110)) (by decide +kernel)
      · exact hs (.eq (.elem (Term.field (Term.string "PaperedOver$Reader" 114) "java/lang/String" "value" "[B") (.int 4)) (.int 116)) (by decide +kernel)
  have h6 : ∀ i : Nat, i < 8 → ∀ j : Nat, j < 8 → i ≠ j → (Cond.not (Cond.eq (Term.string "PaperedOver$Reader" (am_si i)) (Term.string "PaperedOver$Reader" (am_si j)))).before args s = true ∨ (Cond.not (Cond.eq (Term.string "PaperedOver$Reader" (am_si j)) (Term.string "PaperedOver$Reader" (am_si i)))).before args s = true := by
    intro i hi
    rcases (show i = 0 ∨ i = 1 ∨ i = 2 ∨ i = 3 ∨ i = 4 ∨ i = 5 ∨ i = 6 ∨ i = 7 by omega) with rfl | rfl | rfl | rfl | rfl | rfl | rfl | rfl
    · intro j hj hij
      rcases (show j = 0 ∨ j = 1 ∨ j = 2 ∨ j = 3 ∨ j = 4 ∨ j = 5 ∨ j = 6 ∨ j = 7 by omega) with rfl | rfl | rfl | rfl | rfl | rfl | rfl | rfl
      · exact absurd rfl hij
      · exact Or.inl (hs (.not (.eq (Term.string "PaperedOver$Reader" 57) (Term.string "PaperedOver$Reader" 63))) (by decide +kernel))
      · exact Or.inl (hs (.not (.eq (Term.string "PaperedOver$Reader" 57) (Term.string "PaperedOver$Reader" 65))) (by decide +kernel))
      · exact Or.inl (hs (.not (.eq (Term.string "PaperedOver$Reader" 57) (Term.string "PaperedOver$Reader" 106))) (by decide +kernel))
      · exact Or.inl (hs (.not (.eq (Term.string "PaperedOver$Reader" 57) (Term.string "PaperedOver$Reader" 108))) (by decide +kernel))
      · exact Or.inl (hs (.not (.eq (Term.string "PaperedOver$Reader" 57) (Term.string "PaperedOver$Reader" 110))) (by decide +kernel))
      · exact Or.inl (hs (.not (.eq (Term.string "PaperedOver$Reader" 57) (Term.string "PaperedOver$Reader" 112))) (by decide +kernel))
      · exact Or.inl (hs (.not (.eq (Term.string "PaperedOver$Reader" 57) (Term.string "PaperedOver$Reader" 114))) (by decide +kernel))
    · intro j hj hij
      rcases (show j = 0 ∨ j = 1 ∨ j = 2 ∨ j = 3 ∨ j = 4 ∨ j = 5 ∨ j = 6 ∨ j = 7 by omega) with rfl | rfl | rfl | rfl | rfl | rfl | rfl | rfl
      · exact Or.inr (hs (.not (.eq (Term.string "PaperedOver$Reader" 57) (Term.string "PaperedOver$Reader" 63))) (by decide +kernel))
      · exact absurd rfl hij
      · exact Or.inl (hs (.not (.eq (Term.string "PaperedOver$Reader" 63) (Term.string "PaperedOver$Reader" 65))) (by decide +kernel))
      · exact Or.inl (hs (.not (.eq (Term.string "PaperedOver$Reader" 63) (Term.string "PaperedOver$Reader" 106))) (by decide +kernel))
      · exact Or.inl (hs (.not (.eq (Term.string "PaperedOver$Reader" 63) (Term.string "PaperedOver$Reader" 108))) (by decide +kernel))
      · exact Or.inl (hs (.not (.eq (Term.string "PaperedOver$Reader" 63) (Term.string "PaperedOver$Reader" 110))) (by decide +kernel))
      · exact Or.inl (hs (.not (.eq (Term.string "PaperedOver$Reader" 63) (Term.string "PaperedOver$Reader" 112))) (by decide +kernel))
      · exact Or.inl (hs (.not (.eq (Term.string "PaperedOver$Reader" 63) (Term.string "PaperedOver$Reader" 114))) (by decide +kernel))
    · intro j hj hij
      rcases (show j = 0 ∨ j = 1 ∨ j = 2 ∨ j = 3 ∨ j = 4 ∨ j = 5 ∨ j = 6 ∨ j = 7 by omega) with rfl | rfl | rfl | rfl | rfl | rfl | rfl | rfl
      · exact Or.inr (hs (.not (.eq (Term.string "PaperedOver$Reader" 57) (Term.string "PaperedOver$Reader" 65))) (by decide +kernel))
      · exact Or.inr (hs (.not (.eq (Term.string "PaperedOver$Reader" 63) (Term.string "PaperedOver$Reader" 65))) (by decide +kernel))
      · exact absurd rfl hij
      · exact Or.inl (hs (.not (.eq (Term.string "PaperedOver$Reader" 65) (Term.string "PaperedOver$Reader" 106))) (by decide +kernel))
      · exact Or.inl (hs (.not (.eq (Term.string "PaperedOver$Reader" 65) (Term.string "PaperedOver$Reader" 108))) (by decide +kernel))
      · exact Or.inl (hs (.not (.eq (Term.string "PaperedOver$Reader" 65) (Term.string "PaperedOver$Reader" 110))) (by decide +kernel))
      · exact Or.inl (hs (.not (.eq (Term.string "PaperedOver$Reader" 65) (Term.string "PaperedOver$Reader" 112))) (by decide +kernel))
      · exact Or.inl (hs (.not (.eq (Term.string "PaperedOver$Reader" 65) (Term.string "PaperedOver$Reader" 114))) (by decide +kernel))
    · intro j hj hij
      rcases (show j = 0 ∨ j = 1 ∨ j = 2 ∨ j = 3 ∨ j = 4 ∨ j = 5 ∨ j = 6 ∨ j = 7 by omega) with rfl | rfl | rfl | rfl | rfl | rfl | rfl | rfl
      · exact Or.inr (hs (.not (.eq (Term.string "PaperedOver$Reader" 57) (Term.string "PaperedOver$Reader" 106))) (by decide +kernel))
      · exact Or.inr (hs (.not (.eq (Term.string "PaperedOver$Reader" 63) (Term.string "PaperedOver$Reader" 106))) (by decide +kernel))
      · exact Or.inr (hs (.not (.eq (Term.string "PaperedOver$Reader" 65) (Term.string "PaperedOver$Reader" 106))) (by decide +kernel))
      · exact absurd rfl hij
      · exact Or.inl (hs (.not (.eq (Term.string "PaperedOver$Reader" 106) (Term.string "PaperedOver$Reader" 108))) (by decide +kernel))
      · exact Or.inl (hs (.not (.eq (Term.string "PaperedOver$Reader" 106) (Term.string "PaperedOver$Reader" 110))) (by decide +kernel))
      · exact Or.inl (hs (.not (.eq (Term.string "PaperedOver$Reader" 106) (Term.string "PaperedOver$Reader" 112))) (by decide +kernel))
      · exact Or.inl (hs (.not (.eq (Term.string "PaperedOver$Reader" 106) (Term.string "PaperedOver$Reader" 114))) (by decide +kernel))
    · intro j hj hij
      rcases (show j = 0 ∨ j = 1 ∨ j = 2 ∨ j = 3 ∨ j = 4 ∨ j = 5 ∨ j = 6 ∨ j = 7 by omega) with rfl | rfl | rfl | rfl | rfl | rfl | rfl | rfl
      · exact Or.inr (hs (.not (.eq (Term.string "PaperedOver$Reader" 57) (Term.string "PaperedOver$Reader" 108))) (by decide +kernel))
      · exact Or.inr (hs (.not (.eq (Term.string "PaperedOver$Reader" 63) (Term.string "PaperedOver$Reader" 108))) (by decide +kernel))
      · exact Or.inr (hs (.not (.eq (Term.string "PaperedOver$Reader" 65) (Term.string "PaperedOver$Reader" 108))) (by decide +kernel))
      · exact Or.inr (hs (.not (.eq (Term.string "PaperedOver$Reader" 106) (Term.string "PaperedOver$Reader" 108))) (by decide +kernel))
      · exact absurd rfl hij
      · exact Or.inl (hs (.not (.eq (Term.string "PaperedOver$Reader" 108) (Term.string "PaperedOver$Reader" 110))) (by decide +kernel))
      · exact Or.inl (hs (.not (.eq (Term.string "PaperedOver$Reader" 108) (Term.string "PaperedOver$Reader" 112))) (by decide +kernel))
      · exact Or.inl (hs (.not (.eq (Term.string "PaperedOver$Reader" 108) (Term.string "PaperedOver$Reader" 114))) (by decide +kernel))
    · intro j hj hij
      rcases (show j = 0 ∨ j = 1 ∨ j = 2 ∨ j = 3 ∨ j = 4 ∨ j = 5 ∨ j = 6 ∨ j = 7 by omega) with rfl | rfl | rfl | rfl | rfl | rfl | rfl | rfl
      · exact Or.inr (hs (.not (.eq (Term.string "PaperedOver$Reader" 57) (Term.string "PaperedOver$Reader" 110))) (by decide +kernel))
      · exact Or.inr (hs (.not (.eq (Term.string "PaperedOver$Reader" 63) (Term.string "PaperedOver$Reader" 110))) (by decide +kernel))
      · exact Or.inr (hs (.not (.eq (Term.string "PaperedOver$Reader" 65) (Term.string "PaperedOver$Reader" 110))) (by decide +kernel))
      · exact Or.inr (hs (.not (.eq (Term.string "PaperedOver$Reader" 106) (Term.string "PaperedOver$Reader" 110))) (by decide +kernel))
      · exact Or.inr (hs (.not (.eq (Term.string "PaperedOver$Reader" 108) (Term.string "PaperedOver$Reader" 110))) (by decide +kernel))
      · exact absurd rfl hij
      · exact Or.inl (hs (.not (.eq (Term.string "PaperedOver$Reader" 110) (Term.string "PaperedOver$Reader" 112))) (by decide +kernel))
      · exact Or.inl (hs (.not (.eq (Term.string "PaperedOver$Reader" 110) (Term.string "PaperedOver$Reader" 114))) (by decide +kernel))
    · intro j hj hij
      rcases (show j = 0 ∨ j = 1 ∨ j = 2 ∨ j = 3 ∨ j = 4 ∨ j = 5 ∨ j = 6 ∨ j = 7 by omega) with rfl | rfl | rfl | rfl | rfl | rfl | rfl | rfl
      · exact Or.inr (hs (.not (.eq (Term.string "PaperedOver$Reader" 57) (Term.string "PaperedOver$Reader" 112))) (by decide +kernel))
      · exact Or.inr (hs (.not (.eq (Term.string "PaperedOver$Reader" 63) (Term.string "PaperedOver$Reader" 112))) (by decide +kernel))
      · exact Or.inr (hs (.not (.eq (Term.string "PaperedOver$Reader" 65) (Term.string "PaperedOver$Reader" 112))) (by decide +kernel))
      · exact Or.inr (hs (.not (.eq (Term.string "PaperedOver$Reader" 106) (Term.string "PaperedOver$Reader" 112))) (by decide +kernel))
      · exact Or.inr (hs (.not (.eq (Term.string "PaperedOver$Reader" 108) (Term.string "PaperedOver$Reader" 112))) (by decide +kernel))
      · exact Or.inr (hs (.not (.eq (Term.string "PaperedOver$Reader" 110) (Term.string "PaperedOver$Reader" 112))) (by decide +kernel))
      · exact absurd rfl hij
      · exact Or.inl (hs (.not (.eq (Term.string "PaperedOver$Reader" 112) (Term.string "PaperedOver$Reader" 114))) (by decide +kernel))
    · intro j hj hij
      rcases (show j = 0 ∨ j = 1 ∨ j = 2 ∨ j = 3 ∨ j = 4 ∨ j = 5 ∨ j = 6 ∨ j = 7 by omega) with rfl | rfl | rfl | rfl | rfl | rfl | rfl | rfl
      · exact Or.inr (hs (.not (.eq (Term.string "PaperedOver$Reader" 57) (Term.string "PaperedOver$Reader" 114))) (by decide +kernel))
      · exact Or.inr (hs (.not (.eq (Term.string "PaperedOver$Reader" 63) (Term.string "PaperedOver$Reader" 114))) (by decide +kernel))
      · exact Or.inr (hs (.not (.eq (Term.string "PaperedOver$Reader" 65) (Term.string "PaperedOver$Reader" 114))) (by decide +kernel))
      · exact Or.inr (hs (.not (.eq (Term.string "PaperedOver$Reader" 106) (Term.string "PaperedOver$Reader" 114))) (by decide +kernel))
      · exact Or.inr (hs (.not (.eq (Term.string "PaperedOver$Reader" 108) (Term.string "PaperedOver$Reader" 114))) (by decide +kernel))
      · exact Or.inr (hs (.not (.eq (Term.string "PaperedOver$Reader" 110) (Term.string "PaperedOver$Reader" 114))) (by decide +kernel))
      · exact Or.inr (hs (.not (.eq (Term.string "PaperedOver$Reader" 112) (Term.string "PaperedOver$Reader" 114))) (by decide +kernel))
      · exact absurd rfl hij
  obtain ⟨sk, sv, hS, he⟩ := vk_Sof (N := 8) (tm := fun i => (Term.string "PaperedOver$Reader" (am_si i))) (len := am_sl) (byt := am_sb) (A := A) (by decide) h1 h2 h3 h4 h5 (fun i j hi hj hij => h6 i hi j hj hij) hA
  refine ⟨sk, sv, hS, fun i hi => vk_R.of (A := args) ?_ (he i hi)⟩
  rcases (show i = 0 ∨ i = 1 ∨ i = 2 ∨ i = 3 ∨ i = 4 ∨ i = 5 ∨ i = 6 ∨ i = 7 by omega) with rfl | rfl | rfl | rfl | rfl | rfl | rfl | rfl
  · exact hts (.stringRef "PaperedOver$Reader" 57 "wall") (List.mem_of_getElem? (i := 530) (by decide +kernel))
  · exact hts (.stringRef "PaperedOver$Reader" 63 "paper") (List.mem_of_getElem? (i := 583) (by decide +kernel))
  · exact hts (.stringRef "PaperedOver$Reader" 65 "tenant") (List.mem_of_getElem? (i := 584) (by decide +kernel))
  · exact hts (.stringRef "PaperedOver$Reader" 106 "plain") (List.mem_of_getElem? (i := 621) (by decide +kernel))
  · exact hts (.stringRef "PaperedOver$Reader" 108 "stamp") (List.mem_of_getElem? (i := 622) (by decide +kernel))
  · exact hts (.stringRef "PaperedOver$Reader" 110 "news") (List.mem_of_getElem? (i := 623) (by decide +kernel))
  · exact hts (.stringRef "PaperedOver$Reader" 112 "rest") (List.mem_of_getElem? (i := 624) (by decide +kernel))
  · exact hts (.stringRef "PaperedOver$Reader" 114 "paint") (List.mem_of_getElem? (i := 625) (by decide +kernel))
theorem lw_am_nw {s : State} {args : Array Value} (hts : ∀ w ∈ lw_tbl, w.before args s = true) : ∀ w ∈ am_nw, va_Nw w s := by
  intro w hw
  simp only [am_nw, List.mem_cons, List.not_mem_nil, or_false] at hw
  rcases hw with rfl | rfl | rfl | rfl | rfl
  · exact va_Nw.of rfl (hts _ (List.mem_of_getElem? (i := 696) (by decide +kernel)))
  · exact va_Nw.of rfl (hts _ (List.mem_of_getElem? (i := 819) (by decide +kernel)))
  · exact va_Nw.of rfl (hts _ (List.mem_of_getElem? (i := 933) (by decide +kernel)))
  · exact va_Nw.of rfl (hts _ (List.mem_of_getElem? (i := 947) (by decide +kernel)))
  · exact va_Nw.of rfl (hts _ (List.mem_of_getElem? (i := 948) (by decide +kernel)))
theorem lw_ci_nw {s : State} {args : Array Value} (hts : ∀ w ∈ lw_tbl, w.before args s = true) : ∀ w ∈ ci_nw, va_Nw w s := by
  intro w hw
  simp only [ci_nw, List.mem_cons, List.not_mem_nil, or_false] at hw
  rcases hw with rfl | rfl | rfl | rfl | rfl | rfl | rfl | rfl | rfl | rfl
  · exact va_Nw.of rfl (hts _ (List.mem_of_getElem? (i := 71) (by decide +kernel)))
  · exact va_Nw.of rfl (hts _ (List.mem_of_getElem? (i := 92) (by decide +kernel)))
  · exact va_Nw.of rfl (hts _ (List.mem_of_getElem? (i := 113) (by decide +kernel)))
  · exact va_Nw.of rfl (hts _ (List.mem_of_getElem? (i := 217) (by decide +kernel)))
  · exact va_Nw.of rfl (hts _ (List.mem_of_getElem? (i := 220) (by decide +kernel)))
  · exact va_Nw.of rfl (hts _ (List.mem_of_getElem? (i := 241) (by decide +kernel)))
  · exact va_Nw.of rfl (hts _ (List.mem_of_getElem? (i := 246) (by decide +kernel)))
  · exact va_Nw.of rfl (hts _ (List.mem_of_getElem? (i := 248) (by decide +kernel)))
  · exact va_Nw.of rfl (hts _ (List.mem_of_getElem? (i := 333) (by decide +kernel)))
  · exact va_Nw.of rfl (hts _ (List.mem_of_getElem? (i := 352) (by decide +kernel)))
