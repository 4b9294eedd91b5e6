def w_Bodies (cI cZ : ClassId) (u : Nat → Nat) : va_W := [(u 0, .inr (10, [.ref (u 1), .int 0])), (u 1, .inl (cI, 16, .inl (fun _ => 0)))]
theorem dc_10_0 : decode prog_2_method_1_code 0 = .ok (.aload_n 0, 1) := by decide +kernel
theorem dc_10_1 : decode prog_2_method_1_code 1 = .ok (.invokespecial 1, 3) := by decide +kernel
theorem dc_10_4 : decode prog_2_method_1_code 4 = .ok (.aload_n 0, 1) := by decide +kernel
theorem dc_10_5 : decode prog_2_method_1_code 5 = .ok (.bipush 16, 2) := by decide +kernel
theorem dc_10_7 : decode prog_2_method_1_code 7 = .ok (.newarray .int, 2) := by decide +kernel
theorem dc_10_9 : decode prog_2_method_1_code 9 = .ok (.putfield 9, 3) := by decide +kernel
theorem dc_10_12 : decode prog_2_method_1_code 12 = .ok (.return_, 1) := by decide +kernel
set_option maxHeartbeats 4000000 in
set_option maxRecDepth 100000 in
theorem ci_Bodies (l : Launch) (D : va_G) (cI cZ : ClassId) (h0 sz : Nat) : Met l (⟨"PaperedOver$Bodies", "<init>", "()V"⟩ : MethodName) (.code (⟨"PaperedOver$Bodies", "<init>", "()V"⟩ : MethodName) prog_2_method_1_code 1 none :: gtb) ({ frames := 1, cells := 1, slots := 16, locals := 40 }) (va_Pc [.ref h0] (ci_B D cI cZ h0 (.inr (10, [.null, .int 0])) sz)) (ci_Q (fun u : Nat → Nat => u 0) h0 D (w_Bodies cI cZ) (va_A [(h0, .inr (10, [.null, .int 0]))] sz)) 1 16 (va_A [(h0, .inr (10, [.null, .int 0]))] sz) := by
  refine Met.ofW (cc := prog_2_method_1_code) (maxL := 1) (ret := none) (by decide) rfl ?_
  intro p e s m args below meth c s₁ B hml hv
  obtain ⟨rfl, hsz, hP, hK, hD0, hN⟩ := hv
  have hx := B.exec
  have hb := B.bytes
  have hr := B.returns
  have hts := atoms_spec (ws := .code (⟨"PaperedOver$Bodies", "<init>", "()V"⟩ : MethodName) prog_2_method_1_code 1 none :: gtb) B.pre
  have htg := fun w (h : w ∈ gtb) => hts w (List.mem_cons_of_mem _ h)
  have hown : s.vm.findClass "PaperedOver$Bodies" = some m.cls := findClass_of_methodNamed B.named
  have hlocks := B.notSynchronized
  have hin : meth.name = "<init>" := (name_of_methodNamed B.named B.method).1
  subst hsz
  have hD := hD0.self (sz := s.heap.size)
  generalize hAe : va_A [(h0, .inr (10, [.null, .int 0]))] s.heap.size = A at hD ⊢
  have hA : ∀ q : Nat, s.heap.size ≤ q → A q := fun q h => by rw [← hAe]; exact Or.inr h
  have hS : va_S A s.heap s.heap [] := va_S.rf
  have hl := lv_entry ([.ref h0]) (n := 1) (Nat.le_of_ble_eq_true rfl)
  rw [lg_entry_eq]
  generalize (lg_sl ([.ref h0]) ++ List.replicate (1 - (lg_sl ([.ref h0])).length) Slot.unset).toArray = ls at hl ⊢
  have hl : lv_has ls 1 [(0, .ref h0)] := hl
  refine lv_aload_n hx hb dc_10_0 rfl (lv_at hl 0 rfl) ?_
  refine W.objInit hx hb hown (htg (.methodLink "PaperedOver$Bodies" 1 objectInit) (gm 355 (by decide +kernel) (by decide +kernel))) (htg _ ob_in) (htg _ ob_co) rfl (by rw [hml]; exact hl.1) rfl dc_10_1 (Nat.le_of_ble_eq_true rfl) (Nat.le_of_ble_eq_true rfl) ?_
  refine W.eq (g2 := F0 m 4 ls []) rfl ?_
  refine lv_aload_n hx hb dc_10_4 rfl (lv_at hl 0 rfl) ?_
  refine lv_bipush (v := 16) hx hb dc_10_5 (by decide +kernel) ?_
  refine ci_newI (N' := 16) hx hb htg hK hP hD hS hA (by decide +kernel) (by decide +kernel) (by decide +kernel) (Nat.le_of_ble_eq_true rfl) (Nat.le_of_ble_eq_true rfl) dc_10_7 (fun q1 H hP hD hS => ?_)
  refine W.widen (k := 1) (n := 16) (Nat.le_of_ble_eq_true rfl) (Nat.le_of_ble_eq_true rfl) ?_
  have hP : va_P D am_cls ((h0, .inr (10, [.null, .int 0])) :: ([] ++ [(q1, .inl (cI, 16, .inl (fun _ => 0)))])) H := hP
  have hD : va_D A ((h0, .inr (10, [.null, .int 0])) :: ([] ++ [(q1, .inl (cI, 16, .inl (fun _ => 0)))])) := hD
  refine va_putF (D := D) (ci := 10) (v := .ref q1) (ty := .array .int) (C := rc_10) (T := tc_10) (N := 2) hx hb htg uw_10 yc_10 yo_10 nc_10 hown hK hP hD hS 0 rfl rfl 0 (by decide) (htg (.fieldLink "PaperedOver$Bodies" 9 "PaperedOver$Bodies" "trace" "[I") (gm 356 (by decide +kernel) (by decide +kernel))) (fun _ h9 => h9) rfl hin rfl (by decide +kernel) rfl rfl (Nat.le_of_ble_eq_true rfl) dc_10_9 (fun H locs hP hD hS => ?_)
  have hP : va_P D am_cls ((h0, .inr (10, [.ref q1, .int 0])) :: ([] ++ [(q1, .inl (cI, 16, .inl (fun _ => 0)))])) H := hP
  have hD : va_D A ((h0, .inr (10, [.ref q1, .int 0])) :: ([] ++ [(q1, .inl (cI, 16, .inl (fun _ => 0)))])) := hD
  have hP9 : va_P D am_cls (w_Bodies cI cZ (fun k => [h0, q1].getD k 0)) _ := hP
  have hD9 : va_D A (w_Bodies cI cZ (fun k => [h0, q1].getD k 0)) := hD
  exact W.vret hx hb hr (fun t ht hW => ⟨⟨(fun k => [h0, q1].getD k 0), rfl, rfl, by rw [ht]; exact hP9, hD9⟩, hS.F ht⟩) hS.2.2 dc_10_12
def w_Cutter (cI cZ : ClassId) (u : Nat → Nat) : va_W := [(u 0, .inr (9, [.int 0, .int 0, .int 0]))]
theorem dc_9_0 : decode prog_3_method_1_code 0 = .ok (.aload_n 0, 1) := by decide +kernel
theorem dc_9_1 : decode prog_3_method_1_code 1 = .ok (.invokespecial 1, 3) := by decide +kernel
theorem dc_9_4 : decode prog_3_method_1_code 4 = .ok (.return_, 1) := by decide +kernel
set_option maxHeartbeats 4000000 in
set_option maxRecDepth 100000 in
theorem ci_Cutter (l : Launch) (D : va_G) (cI cZ : ClassId) (h0 sz : Nat) : Met l (⟨"PaperedOver$Cutter", "<init>", "()V"⟩ : MethodName) (.code (⟨"PaperedOver$Cutter", "<init>", "()V"⟩ : MethodName) prog_3_method_1_code 1 none :: gtb) ({ frames := 1, cells := 0, slots := 0, locals := 40 }) (va_Pc [.ref h0] (ci_B D cI cZ h0 (.inr (9, [.int 0, .int 0, .int 0])) sz)) (ci_Q (fun u : Nat → Nat => u 0) h0 D (w_Cutter cI cZ) (va_A [(h0, .inr (9, [.int 0, .int 0, .int 0]))] sz)) 0 0 (va_A [(h0, .inr (9, [.int 0, .int 0, .int 0]))] sz) := by
  refine Met.ofW (cc := prog_3_method_1_code) (maxL := 1) (ret := none) (by decide) rfl ?_
  intro p e s m args below meth c s₁ B hml hv
  obtain ⟨rfl, hsz, hP, hK, hD0, hN⟩ := hv
  have hx := B.exec
  have hb := B.bytes
  have hr := B.returns
  have hts := atoms_spec (ws := .code (⟨"PaperedOver$Cutter", "<init>", "()V"⟩ : MethodName) prog_3_method_1_code 1 none :: gtb) B.pre
  have htg := fun w (h : w ∈ gtb) => hts w (List.mem_cons_of_mem _ h)
  have hown : s.vm.findClass "PaperedOver$Cutter" = some m.cls := findClass_of_methodNamed B.named
  have hlocks := B.notSynchronized
  have hin : meth.name = "<init>" := (name_of_methodNamed B.named B.method).1
  subst hsz
  have hD := hD0.self (sz := s.heap.size)
  generalize hAe : va_A [(h0, .inr (9, [.int 0, .int 0, .int 0]))] s.heap.size = A at hD ⊢
  have hA : ∀ q : Nat, s.heap.size ≤ q → A q := fun q h => by rw [← hAe]; exact Or.inr h
  have hS : va_S A s.heap s.heap [] := va_S.rf
  have hl := lv_entry ([.ref h0]) (n := 1) (Nat.le_of_ble_eq_true rfl)
  rw [lg_entry_eq]
  generalize (lg_sl ([.ref h0]) ++ List.replicate (1 - (lg_sl ([.ref h0])).length) Slot.unset).toArray = ls at hl ⊢
  have hl : lv_has ls 1 [(0, .ref h0)] := hl
  refine lv_aload_n hx hb dc_9_0 rfl (lv_at hl 0 rfl) ?_
  refine W.objInit hx hb hown (htg (.methodLink "PaperedOver$Cutter" 1 objectInit) (gm 336 (by decide +kernel) (by decide +kernel))) (htg _ ob_in) (htg _ ob_co) rfl (by rw [hml]; exact hl.1) rfl dc_9_1 (Nat.le_of_ble_eq_true rfl) (Nat.le_of_ble_eq_true rfl) ?_
  refine W.eq (g2 := F0 m 4 ls []) rfl ?_
  have hP9 : va_P D am_cls (w_Cutter cI cZ (fun k => [h0].getD k 0)) _ := hP
  have hD9 : va_D A (w_Cutter cI cZ (fun k => [h0].getD k 0)) := hD
  exact W.vret hx hb hr (fun t ht hW => ⟨⟨(fun k => [h0].getD k 0), rfl, rfl, by rw [ht]; exact hP9, hD9⟩, hS.F ht⟩) hS.2.2 dc_9_4
def w_Facts (cI cZ : ClassId) (a1 a2 : Nat) (u : Nat → Nat) : va_W := [(u 0, .inr (7, [.ref a1, .ref a2, .int 0, .int 0, .ref (u 1), .ref (u 2), .ref (u 3), .ref (u 4), .int 0, .ref (u 5), .ref (u 6)])), (u 1, .inl (cI, 8, .inl (fun _ => 0))), (u 2, .inl (cI, 10, .inl (fun _ => 0))), (u 3, .inl (cI, 10, .inl (fun _ => 0))), (u 4, .inl (cI, 10, .inl (fun _ => 0))), (u 5, .inl (cI, 10, .inl (fun _ => 0))), (u 6, .inl (cI, 10, .inl (fun _ => 0)))]
theorem dc_7_0 : decode prog_4_method_1_code 0 = .ok (.aload_n 0, 1) := by decide +kernel
theorem dc_7_1 : decode prog_4_method_1_code 1 = .ok (.invokespecial 3, 3) := by decide +kernel
theorem dc_7_4 : decode prog_4_method_1_code 4 = .ok (.aload_n 0, 1) := by decide +kernel
theorem dc_7_5 : decode prog_4_method_1_code 5 = .ok (.bipush 8, 2) := by decide +kernel
theorem dc_7_7 : decode prog_4_method_1_code 7 = .ok (.newarray .int, 2) := by decide +kernel
theorem dc_7_9 : decode prog_4_method_1_code 9 = .ok (.putfield 9, 3) := by decide +kernel
theorem dc_7_12 : decode prog_4_method_1_code 12 = .ok (.aload_n 0, 1) := by decide +kernel
theorem dc_7_13 : decode prog_4_method_1_code 13 = .ok (.bipush 10, 2) := by decide +kernel
theorem dc_7_15 : decode prog_4_method_1_code 15 = .ok (.newarray .int, 2) := by decide +kernel
theorem dc_7_17 : decode prog_4_method_1_code 17 = .ok (.putfield 15, 3) := by decide +kernel
theorem dc_7_20 : decode prog_4_method_1_code 20 = .ok (.aload_n 0, 1) := by decide +kernel
theorem dc_7_21 : decode prog_4_method_1_code 21 = .ok (.bipush 10, 2) := by decide +kernel
theorem dc_7_23 : decode prog_4_method_1_code 23 = .ok (.newarray .int, 2) := by decide +kernel
theorem dc_7_25 : decode prog_4_method_1_code 25 = .ok (.putfield 18, 3) := by decide +kernel
theorem dc_7_28 : decode prog_4_method_1_code 28 = .ok (.aload_n 0, 1) := by decide +kernel
theorem dc_7_29 : decode prog_4_method_1_code 29 = .ok (.bipush 10, 2) := by decide +kernel
theorem dc_7_31 : decode prog_4_method_1_code 31 = .ok (.newarray .int, 2) := by decide +kernel
theorem dc_7_33 : decode prog_4_method_1_code 33 = .ok (.putfield 21, 3) := by decide +kernel
theorem dc_7_36 : decode prog_4_method_1_code 36 = .ok (.aload_n 0, 1) := by decide +kernel
theorem dc_7_37 : decode prog_4_method_1_code 37 = .ok (.bipush 10, 2) := by decide +kernel
theorem dc_7_39 : decode prog_4_method_1_code 39 = .ok (.newarray .int, 2) := by decide +kernel
theorem dc_7_41 : decode prog_4_method_1_code 41 = .ok (.putfield 24, 3) := by decide +kernel
theorem dc_7_44 : decode prog_4_method_1_code 44 = .ok (.aload_n 0, 1) := by decide +kernel
theorem dc_7_45 : decode prog_4_method_1_code 45 = .ok (.bipush 10, 2) := by decide +kernel
theorem dc_7_47 : decode prog_4_method_1_code 47 = .ok (.newarray .int, 2) := by decide +kernel
theorem dc_7_49 : decode prog_4_method_1_code 49 = .ok (.putfield 27, 3) := by decide +kernel
theorem dc_7_52 : decode prog_4_method_1_code 52 = .ok (.aload_n 0, 1) := by decide +kernel
theorem dc_7_53 : decode prog_4_method_1_code 53 = .ok (.aload_n 1, 1) := by decide +kernel
theorem dc_7_54 : decode prog_4_method_1_code 54 = .ok (.putfield 30, 3) := by decide +kernel
theorem dc_7_57 : decode prog_4_method_1_code 57 = .ok (.aload_n 0, 1) := by decide +kernel
theorem dc_7_58 : decode prog_4_method_1_code 58 = .ok (.aload_n 2, 1) := by decide +kernel
theorem dc_7_59 : decode prog_4_method_1_code 59 = .ok (.putfield 34, 3) := by decide +kernel
theorem dc_7_62 : decode prog_4_method_1_code 62 = .ok (.return_, 1) := by decide +kernel
set_option maxHeartbeats 4000000 in
set_option maxRecDepth 100000 in
theorem ci_Facts (l : Launch) (D : va_G) (cI cZ : ClassId) (h0 sz : Nat) (a1 a2 : Nat) : Met l (⟨"PaperedOver$Facts", "<init>", "(LPaperedOver$House;LPaperedOver$Spots;)V"⟩ : MethodName) (.code (⟨"PaperedOver$Facts", "<init>", "(LPaperedOver$House;LPaperedOver$Spots;)V"⟩ : MethodName) prog_4_method_1_code 3 none :: gtb) ({ frames := 1, cells := 6, slots := 58, locals := 40 }) (va_Pc [.ref h0, .ref a1, .ref a2] (ci_B D cI cZ h0 (.inr (7, [.null, .null, .int 0, .int 0, .null, .null, .null, .null, .int 0, .null, .null])) sz)) (ci_Q (fun u : Nat → Nat => u 0) h0 D (w_Facts cI cZ a1 a2) (va_A [(h0, .inr (7, [.null, .null, .int 0, .int 0, .null, .null, .null, .null, .int 0, .null, .null]))] sz)) 6 58 (va_A [(h0, .inr (7, [.null, .null, .int 0, .int 0, .null, .null, .null, .null, .int 0, .null, .null]))] sz) := by
  refine Met.ofW (cc := prog_4_method_1_code) (maxL := 3) (ret := none) (by decide) rfl ?_
  intro p e s m args below meth c s₁ B hml hv
  obtain ⟨rfl, hsz, hP, hK, hD0, hN⟩ := hv
  have hx := B.exec
  have hb := B.bytes
  have hr := B.returns
  have hts := atoms_spec (ws := .code (⟨"PaperedOver$Facts", "<init>", "(LPaperedOver$House;LPaperedOver$Spots;)V"⟩ : MethodName) prog_4_method_1_code 3 none :: gtb) B.pre
  have htg := fun w (h : w ∈ gtb) => hts w (List.mem_cons_of_mem _ h)
  have hown : s.vm.findClass "PaperedOver$Facts" = some m.cls := findClass_of_methodNamed B.named
  have hlocks := B.notSynchronized
  have hin : meth.name = "<init>" := (name_of_methodNamed B.named B.method).1
  subst hsz
  have hD := hD0.self (sz := s.heap.size)
  generalize hAe : va_A [(h0, .inr (7, [.null, .null, .int 0, .int 0, .null, .null, .null, .null, .int 0, .null, .null]))] s.heap.size = A at hD ⊢
  have hA : ∀ q : Nat, s.heap.size ≤ q → A q := fun q h => by rw [← hAe]; exact Or.inr h
  have hS : va_S A s.heap s.heap [] := va_S.rf
  have hl := lv_entry ([.ref h0, .ref a1, .ref a2]) (n := 3) (Nat.le_of_ble_eq_true rfl)
  rw [lg_entry_eq]
  generalize (lg_sl ([.ref h0, .ref a1, .ref a2]) ++ List.replicate (3 - (lg_sl ([.ref h0, .ref a1, .ref a2])).length) Slot.unset).toArray = ls at hl ⊢
  have hl : lv_has ls 3 [(0, .ref h0), (1, .ref a1), (2, .ref a2)] := hl
  refine lv_aload_n hx hb dc_7_0 rfl (lv_at hl 0 rfl) ?_
  refine W.objInit hx hb hown (htg (.methodLink "PaperedOver$Facts" 3 objectInit) (gm 263 (by decide +kernel) (by decide +kernel))) (htg _ ob_in) (htg _ ob_co) rfl (by rw [hml]; exact hl.1) rfl dc_7_1 (Nat.le_of_ble_eq_true rfl) (Nat.le_of_ble_eq_true rfl) ?_
  refine W.eq (g2 := F0 m 4 ls []) rfl ?_
  refine lv_aload_n hx hb dc_7_4 rfl (lv_at hl 0 rfl) ?_
  refine lv_bipush (v := 8) hx hb dc_7_5 (by decide +kernel) ?_
  refine ci_newI (N' := 8) hx hb htg hK hP hD hS hA (by decide +kernel) (by decide +kernel) (by decide +kernel) (Nat.le_of_ble_eq_true rfl) (Nat.le_of_ble_eq_true rfl) dc_7_7 (fun q1 H hP hD hS => ?_)
  refine W.widen (k := 1) (n := 8) (Nat.le_of_ble_eq_true rfl) (Nat.le_of_ble_eq_true rfl) ?_
  have hP : va_P D am_cls ((h0, .inr (7, [.null, .null, .int 0, .int 0, .null, .null, .null, .null, .int 0, .null, .null])) :: ([] ++ [(q1, .inl (cI, 8, .inl (fun _ => 0)))])) H := hP
  have hD : va_D A ((h0, .inr (7, [.null, .null, .int 0, .int 0, .null, .null, .null, .null, .int 0, .null, .null])) :: ([] ++ [(q1, .inl (cI, 8, .inl (fun _ => 0)))])) := hD
  refine va_putF (D := D) (ci := 7) (v := .ref q1) (ty := .array .int) (C := rc_7) (T := tc_7) (N := 11) hx hb htg uw_7 yc_7 yo_7 nc_7 hown hK hP hD hS 0 rfl rfl 4 (by decide) (htg (.fieldLink "PaperedOver$Facts" 9 "PaperedOver$Facts" "on" "[I") (gm 271 (by decide +kernel) (by decide +kernel))) (fun _ h9 => h9) rfl hin rfl (by decide +kernel) rfl rfl (Nat.le_of_ble_eq_true rfl) dc_7_9 (fun H locs hP hD hS => ?_)
  have hP : va_P D am_cls ((h0, .inr (7, [.null, .null, .int 0, .int 0, .ref q1, .null, .null, .null, .int 0, .null, .null])) :: ([] ++ [(q1, .inl (cI, 8, .inl (fun _ => 0)))])) H := hP
  have hD : va_D A ((h0, .inr (7, [.null, .null, .int 0, .int 0, .ref q1, .null, .null, .null, .int 0, .null, .null])) :: ([] ++ [(q1, .inl (cI, 8, .inl (fun _ => 0)))])) := hD
  refine lv_aload_n hx hb dc_7_12 rfl (lv_at hl 0 rfl) ?_
  refine lv_bipush (v := 10) hx hb dc_7_13 (by decide +kernel) ?_
  refine ci_newI (N' := 10) hx hb htg hK hP hD hS hA (by decide +kernel) (by decide +kernel) (by decide +kernel) (Nat.le_of_ble_eq_true rfl) (Nat.le_of_ble_eq_true rfl) dc_7_15 (fun q2 H hP hD hS => ?_)
  refine W.widen (k := 2) (n := 18) (Nat.le_of_ble_eq_true rfl) (Nat.le_of_ble_eq_true rfl) ?_
  have hP : va_P D am_cls ((h0, .inr (7, [.null, .null, .int 0, .int 0, .ref q1, .null, .null, .null, .int 0, .null, .null])) :: (([] ++ [(q1, .inl (cI, 8, .inl (fun _ => 0)))]) ++ [(q2, .inl (cI, 10, .inl (fun _ => 0)))])) H := hP
  have hD : va_D A ((h0, .inr (7, [.null, .null, .int 0, .int 0, .ref q1, .null, .null, .null, .int 0, .null, .null])) :: (([] ++ [(q1, .inl (cI, 8, .inl (fun _ => 0)))]) ++ [(q2, .inl (cI, 10, .inl (fun _ => 0)))])) := hD
  refine va_putF (D := D) (ci := 7) (v := .ref q2) (ty := .array .int) (C := rc_7) (T := tc_7) (N := 11) hx hb htg uw_7 yc_7 yo_7 nc_7 hown hK hP hD hS 0 rfl rfl 5 (by decide) (htg (.fieldLink "PaperedOver$Facts" 15 "PaperedOver$Facts" "ahead" "[I") (gm 273 (by decide +kernel) (by decide +kernel))) (fun _ h9 => h9) rfl hin rfl (by decide +kernel) rfl rfl (Nat.le_of_ble_eq_true rfl) dc_7_17 (fun H locs hP hD hS => ?_)
  have hP : va_P D am_cls ((h0, .inr (7, [.null, .null, .int 0, .int 0, .ref q1, .ref q2, .null, .null, .int 0, .null, .null])) :: (([] ++ [(q1, .inl (cI, 8, .inl (fun _ => 0)))]) ++ [(q2, .inl (cI, 10, .inl (fun _ => 0)))])) H := hP
  have hD : va_D A ((h0, .inr (7, [.null, .null, .int 0, .int 0, .ref q1, .ref q2, .null, .null, .int 0, .null, .null])) :: (([] ++ [(q1, .inl (cI, 8, .inl (fun _ => 0)))]) ++ [(q2, .inl (cI, 10, .inl (fun _ => 0)))])) := hD
  refine lv_aload_n hx hb dc_7_20 rfl (lv_at hl 0 rfl) ?_
  refine lv_bipush (v := 10) hx hb dc_7_21 (by decide +kernel) ?_
  refine ci_newI (N' := 10) hx hb htg hK hP hD hS hA (by decide +kernel) (by decide +kernel) (by decide +kernel) (Nat.le_of_ble_eq_true rfl) (Nat.le_of_ble_eq_true rfl) dc_7_23 (fun q3 H hP hD hS => ?_)
  refine W.widen (k := 3) (n := 28) (Nat.le_of_ble_eq_true rfl) (Nat.le_of_ble_eq_true rfl) ?_
  have hP : va_P D am_cls ((h0, .inr (7, [.null, .null, .int 0, .int 0, .ref q1, .ref q2, .null, .null, .int 0, .null, .null])) :: ((([] ++ [(q1, .inl (cI, 8, .inl (fun _ => 0)))]) ++ [(q2, .inl (cI, 10, .inl (fun _ => 0)))]) ++ [(q3, .inl (cI, 10, .inl (fun _ => 0)))])) H := hP
  have hD : va_D A ((h0, .inr (7, [.null, .null, .int 0, .int 0, .ref q1, .ref q2, .null, .null, .int 0, .null, .null])) :: ((([] ++ [(q1, .inl (cI, 8, .inl (fun _ => 0)))]) ++ [(q2, .inl (cI, 10, .inl (fun _ => 0)))]) ++ [(q3, .inl (cI, 10, .inl (fun _ => 0)))])) := hD
  refine va_putF (D := D) (ci := 7) (v := .ref q3) (ty := .array .int) (C := rc_7) (T := tc_7) (N := 11) hx hb htg uw_7 yc_7 yo_7 nc_7 hown hK hP hD hS 0 rfl rfl 6 (by decide) (htg (.fieldLink "PaperedOver$Facts" 18 "PaperedOver$Facts" "sure" "[I") (gm 274 (by decide +kernel) (by decide +kernel))) (fun _ h9 => h9) rfl hin rfl (by decide +kernel) rfl rfl (Nat.le_of_ble_eq_true rfl) dc_7_25 (fun H locs hP hD hS => ?_)
  have hP : va_P D am_cls ((h0, .inr (7, [.null, .null, .int 0, .int 0, .ref q1, .ref q2, .ref q3, .null, .int 0, .null, .null])) :: ((([] ++ [(q1, .inl (cI, 8, .inl (fun _ => 0)))]) ++ [(q2, .inl (cI, 10, .inl (fun _ => 0)))]) ++ [(q3, .inl (cI, 10, .inl (fun _ => 0)))])) H := hP
  have hD : va_D A ((h0, .inr (7, [.null, .null, .int 0, .int 0, .ref q1, .ref q2, .ref q3, .null, .int 0, .null, .null])) :: ((([] ++ [(q1, .inl (cI, 8, .inl (fun _ => 0)))]) ++ [(q2, .inl (cI, 10, .inl (fun _ => 0)))]) ++ [(q3, .inl (cI, 10, .inl (fun _ => 0)))])) := hD
  refine lv_aload_n hx hb dc_7_28 rfl (lv_at hl 0 rfl) ?_
  refine lv_bipush (v := 10) hx hb dc_7_29 (by decide +kernel) ?_
  refine ci_newI (N' := 10) hx hb htg hK hP hD hS hA (by decide +kernel) (by decide +kernel) (by decide +kernel) (Nat.le_of_ble_eq_true rfl) (Nat.le_of_ble_eq_true rfl) dc_7_31 (fun q4 H hP hD hS => ?_)
  refine W.widen (k := 4) (n := 38) (Nat.le_of_ble_eq_true rfl) (Nat.le_of_ble_eq_true rfl) ?_
  have hP : va_P D am_cls ((h0, .inr (7, [.null, .null, .int 0, .int 0, .ref q1, .ref q2, .ref q3, .null, .int 0, .null, .null])) :: (((([] ++ [(q1, .inl (cI, 8, .inl (fun _ => 0)))]) ++ [(q2, .inl (cI, 10, .inl (fun _ => 0)))]) ++ [(q3, .inl (cI, 10, .inl (fun _ => 0)))]) ++ [(q4, .inl (cI, 10, .inl (fun _ => 0)))])) H := hP
  have hD : va_D A ((h0, .inr (7, [.null, .null, .int 0, .int 0, .ref q1, .ref q2, .ref q3, .null, .int 0, .null, .null])) :: (((([] ++ [(q1, .inl (cI, 8, .inl (fun _ => 0)))]) ++ [(q2, .inl (cI, 10, .inl (fun _ => 0)))]) ++ [(q3, .inl (cI, 10, .inl (fun _ => 0)))]) ++ [(q4, .inl (cI, 10, .inl (fun _ => 0)))])) := hD
  refine va_putF (D := D) (ci := 7) (v := .ref q4) (ty := .array .int) (C := rc_7) (T := tc_7) (N := 11) hx hb htg uw_7 yc_7 yo_7 nc_7 hown hK hP hD hS 0 rfl rfl 7 (by decide) (htg (.fieldLink "PaperedOver$Facts" 21 "PaperedOver$Facts" "earliest" "[I") (gm 277 (by decide +kernel) (by decide +kernel))) (fun _ h9 => h9) rfl hin rfl (by decide +kernel) rfl rfl (Nat.le_of_ble_eq_true rfl) dc_7_33 (fun H locs hP hD hS => ?_)
  have hP : va_P D am_cls ((h0, .inr (7, [.null, .null, .int 0, .int 0, .ref q1, .ref q2, .ref q3, .ref q4, .int 0, .null, .null])) :: (((([] ++ [(q1, .inl (cI, 8, .inl (fun _ => 0)))]) ++ [(q2, .inl (cI, 10, .inl (fun _ => 0)))]) ++ [(q3, .inl (cI, 10, .inl (fun _ => 0)))]) ++ [(q4, .inl (cI, 10, .inl (fun _ => 0)))])) H := hP
  have hD : va_D A ((h0, .inr (7, [.null, .null, .int 0, .int 0, .ref q1, .ref q2, .ref q3, .ref q4, .int 0, .null, .null])) :: (((([] ++ [(q1, .inl (cI, 8, .inl (fun _ => 0)))]) ++ [(q2, .inl (cI, 10, .inl (fun _ => 0)))]) ++ [(q3, .inl (cI, 10, .inl (fun _ => 0)))]) ++ [(q4, .inl (cI, 10, .inl (fun _ => 0)))])) := hD
  refine lv_aload_n hx hb dc_7_36 rfl (lv_at hl 0 rfl) ?_
  refine lv_bipush (v := 10) hx hb dc_7_37 (by decide +kernel) ?_
  refine ci_newI (N' := 10) hx hb htg hK hP hD hS hA (by decide +kernel) (by decide +kernel) (by decide +kernel) (Nat.le_of_ble_eq_true rfl) (Nat.le_of_ble_eq_true rfl) dc_7_39 (fun q5 H hP hD hS => ?_)
  refine W.widen (k := 5) (n := 48) (Nat.le_of_ble_eq_true rfl) (Nat.le_of_ble_eq_true rfl) ?_
  have hP : va_P D am_cls ((h0, .inr (7, [.null, .null, .int 0, .int 0, .ref q1, .ref q2, .ref q3, .ref q4, .int 0, .null, .null])) :: ((((([] ++ [(q1, .inl (cI, 8, .inl (fun _ => 0)))]) ++ [(q2, .inl (cI, 10, .inl (fun _ => 0)))]) ++ [(q3, .inl (cI, 10, .inl (fun _ => 0)))]) ++ [(q4, .inl (cI, 10, .inl (fun _ => 0)))]) ++ [(q5, .inl (cI, 10, .inl (fun _ => 0)))])) H := hP
  have hD : va_D A ((h0, .inr (7, [.null, .null, .int 0, .int 0, .ref q1, .ref q2, .ref q3, .ref q4, .int 0, .null, .null])) :: ((((([] ++ [(q1, .inl (cI, 8, .inl (fun _ => 0)))]) ++ [(q2, .inl (cI, 10, .inl (fun _ => 0)))]) ++ [(q3, .inl (cI, 10, .inl (fun _ => 0)))]) ++ [(q4, .inl (cI, 10, .inl (fun _ => 0)))]) ++ [(q5, .inl (cI, 10, .inl (fun _ => 0)))])) := hD
  refine va_putF (D := D) (ci := 7) (v := .ref q5) (ty := .array .int) (C := rc_7) (T := tc_7) (N := 11) hx hb htg uw_7 yc_7 yo_7 nc_7 hown hK hP hD hS 0 rfl rfl 9 (by decide) (htg (.fieldLink "PaperedOver$Facts" 24 "PaperedOver$Facts" "least" "[I") (gm 281 (by decide +kernel) (by decide +kernel))) (fun _ h9 => h9) rfl hin rfl (by decide +kernel) rfl rfl (Nat.le_of_ble_eq_true rfl) dc_7_41 (fun H locs hP hD hS => ?_)
  have hP : va_P D am_cls ((h0, .inr (7, [.null, .null, .int 0, .int 0, .ref q1, .ref q2, .ref q3, .ref q4, .int 0, .ref q5, .null])) :: ((((([] ++ [(q1, .inl (cI, 8, .inl (fun _ => 0)))]) ++ [(q2, .inl (cI, 10, .inl (fun _ => 0)))]) ++ [(q3, .inl (cI, 10, .inl (fun _ => 0)))]) ++ [(q4, .inl (cI, 10, .inl (fun _ => 0)))]) ++ [(q5, .inl (cI, 10, .inl (fun _ => 0)))])) H := hP
  have hD : va_D A ((h0, .inr (7, [.null, .null, .int 0, .int 0, .ref q1, .ref q2, .ref q3, .ref q4, .int 0, .ref q5, .null])) :: ((((([] ++ [(q1, .inl (cI, 8, .inl (fun _ => 0)))]) ++ [(q2, .inl (cI, 10, .inl (fun _ => 0)))]) ++ [(q3, .inl (cI, 10, .inl (fun _ => 0)))]) ++ [(q4, .inl (cI, 10, .inl (fun _ => 0)))]) ++ [(q5, .inl (cI, 10, .inl (fun _ => 0)))])) := hD
  refine lv_aload_n hx hb dc_7_44 rfl (lv_at hl 0 rfl) ?_
  refine lv_bipush (v := 10) hx hb dc_7_45 (by decide +kernel) ?_
  refine ci_newI (N' := 10) hx hb htg hK hP hD hS hA (by decide +kernel) (by decide +kernel) (by decide +kernel) (Nat.le_of_ble_eq_true rfl) (Nat.le_of_ble_eq_true rfl) dc_7_47 (fun q6 H hP hD hS => ?_)
  refine W.widen (k := 6) (n := 58) (Nat.le_of_ble_eq_true rfl) (Nat.le_of_ble_eq_true rfl) ?_
  have hP : va_P D am_cls ((h0, .inr (7, [.null, .null, .int 0, .int 0, .ref q1, .ref q2, .ref q3, .ref q4, .int 0, .ref q5, .null])) :: (((((([] ++ [(q1, .inl (cI, 8, .inl (fun _ => 0)))]) ++ [(q2, .inl (cI, 10, .inl (fun _ => 0)))]) ++ [(q3, .inl (cI, 10, .inl (fun _ => 0)))]) ++ [(q4, .inl (cI, 10, .inl (fun _ => 0)))]) ++ [(q5, .inl (cI, 10, .inl (fun _ => 0)))]) ++ [(q6, .inl (cI, 10, .inl (fun _ => 0)))])) H := hP
  have hD : va_D A ((h0, .inr (7, [.null, .null, .int 0, .int 0, .ref q1, .ref q2, .ref q3, .ref q4, .int 0, .ref q5, .null])) :: (((((([] ++ [(q1, .inl (cI, 8, .inl (fun _ => 0)))]) ++ [(q2, .inl (cI, 10, .inl (fun _ => 0)))]) ++ [(q3, .inl (cI, 10, .inl (fun _ => 0)))]) ++ [(q4, .inl (cI, 10, .inl (fun _ => 0)))]) ++ [(q5, .inl (cI, 10, .inl (fun _ => 0)))]) ++ [(q6, .inl (cI, 10, .inl (fun _ => 0)))])) := hD
  refine va_putF (D := D) (ci := 7) (v := .ref q6) (ty := .array .int) (C := rc_7) (T := tc_7) (N := 11) hx hb htg uw_7 yc_7 yo_7 nc_7 hown hK hP hD hS 0 rfl rfl 10 (by decide) (htg (.fieldLink "PaperedOver$Facts" 27 "PaperedOver$Facts" "most" "[I") (gm 283 (by decide +kernel) (by decide +kernel))) (fun _ h9 => h9) rfl hin rfl (by decide +kernel) rfl rfl (Nat.le_of_ble_eq_true rfl) dc_7_49 (fun H locs hP hD hS => ?_)
  have hP : va_P D am_cls ((h0, .inr (7, [.null, .null, .int 0, .int 0, .ref q1, .ref q2, .ref q3, .ref q4, .int 0, .ref q5, .ref q6])) :: (((((([] ++ [(q1, .inl (cI, 8, .inl (fun _ => 0)))]) ++ [(q2, .inl (cI, 10, .inl (fun _ => 0)))]) ++ [(q3, .inl (cI, 10, .inl (fun _ => 0)))]) ++ [(q4, .inl (cI, 10, .inl (fun _ => 0)))]) ++ [(q5, .inl (cI, 10, .inl (fun _ => 0)))]) ++ [(q6, .inl (cI, 10, .inl (fun _ => 0)))])) H := hP
  have hD : va_D A ((h0, .inr (7, [.null, .null, .int 0, .int 0, .ref q1, .ref q2, .ref q3, .ref q4, .int 0, .ref q5, .ref q6])) :: (((((([] ++ [(q1, .inl (cI, 8, .inl (fun _ => 0)))]) ++ [(q2, .inl (cI, 10, .inl (fun _ => 0)))]) ++ [(q3, .inl (cI, 10, .inl (fun _ => 0)))]) ++ [(q4, .inl (cI, 10, .inl (fun _ => 0)))]) ++ [(q5, .inl (cI, 10, .inl (fun _ => 0)))]) ++ [(q6, .inl (cI, 10, .inl (fun _ => 0)))])) := hD
  refine lv_aload_n hx hb dc_7_52 rfl (lv_at hl 0 rfl) ?_
  refine lv_aload_n hx hb dc_7_53 rfl (lv_at hl 1 rfl) ?_
  refine va_putF (D := D) (ci := 7) (v := .ref a1) (ty := .object "PaperedOver$House") (C := rc_7) (T := tc_7) (N := 11) hx hb htg uw_7 yc_7 yo_7 nc_7 hown hK hP hD hS 0 rfl rfl 0 (by decide) (htg (.fieldLink "PaperedOver$Facts" 30 "PaperedOver$Facts" "house" "LPaperedOver$House;") (gm 264 (by decide +kernel) (by decide +kernel))) (fun _ h9 => h9) rfl hin rfl (by decide +kernel) rfl rfl (Nat.le_of_ble_eq_true rfl) dc_7_54 (fun H locs hP hD hS => ?_)
  have hP : va_P D am_cls ((h0, .inr (7, [.ref a1, .null, .int 0, .int 0, .ref q1, .ref q2, .ref q3, .ref q4, .int 0, .ref q5, .ref q6])) :: (((((([] ++ [(q1, .inl (cI, 8, .inl (fun _ => 0)))]) ++ [(q2, .inl (cI, 10, .inl (fun _ => 0)))]) ++ [(q3, .inl (cI, 10, .inl (fun _ => 0)))]) ++ [(q4, .inl (cI, 10, .inl (fun _ => 0)))]) ++ [(q5, .inl (cI, 10, .inl (fun _ => 0)))]) ++ [(q6, .inl (cI, 10, .inl (fun _ => 0)))])) H := hP
  have hD : va_D A ((h0, .inr (7, [.ref a1, .null, .int 0, .int 0, .ref q1, .ref q2, .ref q3, .ref q4, .int 0, .ref q5, .ref q6])) :: (((((([] ++ [(q1, .inl (cI, 8, .inl (fun _ => 0)))]) ++ [(q2, .inl (cI, 10, .inl (fun _ => 0)))]) ++ [(q3, .inl (cI, 10, .inl (fun _ => 0)))]) ++ [(q4, .inl (cI, 10, .inl (fun _ => 0)))]) ++ [(q5, .inl (cI, 10, .inl (fun _ => 0)))]) ++ [(q6, .inl (cI, 10, .inl (fun _ => 0)))])) := hD
  refine lv_aload_n hx hb dc_7_57 rfl (lv_at hl 0 rfl) ?_
  refine lv_aload_n hx hb dc_7_58 rfl (lv_at hl 2 rfl) ?_
  refine va_putF (D := D) (ci := 7) (v := .ref a2) (ty := .object "PaperedOver$Spots") (C := rc_7) (T := tc_7) (N := 11) hx hb htg uw_7 yc_7 yo_7 nc_7 hown hK hP hD hS 0 rfl rfl 1 (by decide) (htg (.fieldLink "PaperedOver$Facts" 34 "PaperedOver$Facts" "spots" "LPaperedOver$Spots;") (gm 265 (by decide +kernel) (by decide +kernel))) (fun _ h9 => h9) rfl hin rfl (by decide +kernel) rfl rfl (Nat.le_of_ble_eq_true rfl) dc_7_59 (fun H locs hP hD hS => ?_)
  have hP : va_P D am_cls ((h0, .inr (7, [.ref a1, .ref a2, .int 0, .int 0, .ref q1, .ref q2, .ref q3, .ref q4, .int 0, .ref q5, .ref q6])) :: (((((([] ++ [(q1, .inl (cI, 8, .inl (fun _ => 0)))]) ++ [(q2, .inl (cI, 10, .inl (fun _ => 0)))]) ++ [(q3, .inl (cI, 10, .inl (fun _ => 0)))]) ++ [(q4, .inl (cI, 10, .inl (fun _ => 0)))]) ++ [(q5, .inl (cI, 10, .inl (fun _ => 0)))]) ++ [(q6, .inl (cI, 10, .inl (fun _ => 0)))])) H := hP
  have hD : va_D A ((h0, .inr (7, [.ref a1, .ref a2, .int 0, .int 0, .ref q1, .ref q2, .ref q3, .ref q4, .int 0, .ref q5, .ref q6])) :: (((((([] ++ [(q1, .inl (cI, 8, .inl (fun _ => 0)))]) ++ [(q2, .inl (cI, 10, .inl (fun _ => 0)))]) ++ [(q3, .inl (cI, 10, .inl (fun _ => 0)))]) ++ [(q4, .inl (cI, 10, .inl (fun _ => 0)))]) ++ [(q5, .inl (cI, 10, .inl (fun _ => 0)))]) ++ [(q6, .inl (cI, 10, .inl (fun _ => 0)))])) := hD
  have hP9 : va_P D am_cls (w_Facts cI cZ a1 a2 (fun k => [h0, q1, q2, q3, q4, q5, q6].getD k 0)) _ := hP
  have hD9 : va_D A (w_Facts cI cZ a1 a2 (fun k => [h0, q1, q2, q3, q4, q5, q6].getD k 0)) := hD
  exact W.vret hx hb hr (fun t ht hW => ⟨⟨(fun k => [h0, q1, q2, q3, q4, q5, q6].getD k 0), rfl, rfl, by rw [ht]; exact hP9, hD9⟩, hS.F ht⟩) hS.2.2 dc_7_62
def w_House (cI cZ : ClassId) (u : Nat → Nat) : va_W := [(u 0, .inr (4, [.int 0, .ref (u 1), .ref (u 2), .ref (u 3), .int 0, .ref (u 4), .ref (u 5), .ref (u 6), .ref (u 7), .ref (u 8), .int 0, .ref (u 9), .ref (u 10), .ref (u 11)])), (u 1, .inl (cI, 8, .inl (fun _ => 0))), (u 2, .inl (cI, 8, .inl (fun _ => 0))), (u 3, .inl (cI, 8, .inl (fun _ => 0))), (u 4, .inl (cI, 10, .inl (fun _ => 0))), (u 5, .inl (cI, 10, .inl (fun _ => 0))), (u 6, .inl (cI, 10, .inl (fun _ => 0))), (u 7, .inl (cI, 10, .inl (fun _ => 0))), (u 8, .inl (cI, 10, .inl (fun _ => 0))), (u 9, .inl (cI, 10, .inl (fun _ => 0))), (u 10, .inl (cI, 10, .inl (fun _ => 0))), (u 11, .inl (cI, 10, .inl (fun _ => 0)))]
theorem dc_4_0 : decode prog_5_method_1_code 0 = .ok (.aload_n 0, 1) := by decide +kernel
theorem dc_4_1 : decode prog_5_method_1_code 1 = .ok (.invokespecial 1, 3) := by decide +kernel
theorem dc_4_4 : decode prog_5_method_1_code 4 = .ok (.aload_n 0, 1) := by decide +kernel
theorem dc_4_5 : decode prog_5_method_1_code 5 = .ok (.bipush 8, 2) := by decide +kernel
theorem dc_4_7 : decode prog_5_method_1_code 7 = .ok (.newarray .int, 2) := by decide +kernel
theorem dc_4_9 : decode prog_5_method_1_code 9 = .ok (.putfield 9, 3) := by decide +kernel
theorem dc_4_12 : decode prog_5_method_1_code 12 = .ok (.aload_n 0, 1) := by decide +kernel
theorem dc_4_13 : decode prog_5_method_1_code 13 = .ok (.bipush 8, 2) := by decide +kernel
theorem dc_4_15 : decode prog_5_method_1_code 15 = .ok (.newarray .int, 2) := by decide +kernel
theorem dc_4_17 : decode prog_5_method_1_code 17 = .ok (.putfield 13, 3) := by decide +kernel
theorem dc_4_20 : decode prog_5_method_1_code 20 = .ok (.aload_n 0, 1) := by decide +kernel
theorem dc_4_21 : decode prog_5_method_1_code 21 = .ok (.bipush 8, 2) := by decide +kernel
theorem dc_4_23 : decode prog_5_method_1_code 23 = .ok (.newarray .int, 2) := by decide +kernel
theorem dc_4_25 : decode prog_5_method_1_code 25 = .ok (.putfield 16, 3) := by decide +kernel
theorem dc_4_28 : decode prog_5_method_1_code 28 = .ok (.aload_n 0, 1) := by decide +kernel
theorem dc_4_29 : decode prog_5_method_1_code 29 = .ok (.bipush 10, 2) := by decide +kernel
theorem dc_4_31 : decode prog_5_method_1_code 31 = .ok (.newarray .int, 2) := by decide +kernel
theorem dc_4_33 : decode prog_5_method_1_code 33 = .ok (.putfield 19, 3) := by decide +kernel
theorem dc_4_36 : decode prog_5_method_1_code 36 = .ok (.aload_n 0, 1) := by decide +kernel
theorem dc_4_37 : decode prog_5_method_1_code 37 = .ok (.bipush 10, 2) := by decide +kernel
theorem dc_4_39 : decode prog_5_method_1_code 39 = .ok (.newarray .int, 2) := by decide +kernel
theorem dc_4_41 : decode prog_5_method_1_code 41 = .ok (.putfield 22, 3) := by decide +kernel
theorem dc_4_44 : decode prog_5_method_1_code 44 = .ok (.aload_n 0, 1) := by decide +kernel
theorem dc_4_45 : decode prog_5_method_1_code 45 = .ok (.bipush 10, 2) := by decide +kernel
theorem dc_4_47 : decode prog_5_method_1_code 47 = .ok (.newarray .int, 2) := by decide +kernel
theorem dc_4_49 : decode prog_5_method_1_code 49 = .ok (.putfield 25, 3) := by decide +kernel
theorem dc_4_52 : decode prog_5_method_1_code 52 = .ok (.aload_n 0, 1) := by decide +kernel
theorem dc_4_53 : decode prog_5_method_1_code 53 = .ok (.bipush 10, 2) := by decide +kernel
theorem dc_4_55 : decode prog_5_method_1_code 55 = .ok (.newarray .int, 2) := by decide +kernel
theorem dc_4_57 : decode prog_5_method_1_code 57 = .ok (.putfield 28, 3) := by decide +kernel
theorem dc_4_60 : decode prog_5_method_1_code 60 = .ok (.aload_n 0, 1) := by decide +kernel
theorem dc_4_61 : decode prog_5_method_1_code 61 = .ok (.bipush 10, 2) := by decide +kernel
theorem dc_4_63 : decode prog_5_method_1_code 63 = .ok (.newarray .int, 2) := by decide +kernel
theorem dc_4_65 : decode prog_5_method_1_code 65 = .ok (.putfield 31, 3) := by decide +kernel
theorem dc_4_68 : decode prog_5_method_1_code 68 = .ok (.aload_n 0, 1) := by decide +kernel
theorem dc_4_69 : decode prog_5_method_1_code 69 = .ok (.bipush 10, 2) := by decide +kernel
theorem dc_4_71 : decode prog_5_method_1_code 71 = .ok (.newarray .int, 2) := by decide +kernel
theorem dc_4_73 : decode prog_5_method_1_code 73 = .ok (.putfield 34, 3) := by decide +kernel
theorem dc_4_76 : decode prog_5_method_1_code 76 = .ok (.aload_n 0, 1) := by decide +kernel
theorem dc_4_77 : decode prog_5_method_1_code 77 = .ok (.bipush 10, 2) := by decide +kernel
theorem dc_4_79 : decode prog_5_method_1_code 79 = .ok (.newarray .int, 2) := by decide +kernel
theorem dc_4_81 : decode prog_5_method_1_code 81 = .ok (.putfield 37, 3) := by decide +kernel
theorem dc_4_84 : decode prog_5_method_1_code 84 = .ok (.aload_n 0, 1) := by decide +kernel
theorem dc_4_85 : decode prog_5_method_1_code 85 = .ok (.bipush 10, 2) := by decide +kernel
theorem dc_4_87 : decode prog_5_method_1_code 87 = .ok (.newarray .int, 2) := by decide +kernel
theorem dc_4_89 : decode prog_5_method_1_code 89 = .ok (.putfield 40, 3) := by decide +kernel
theorem dc_4_92 : decode prog_5_method_1_code 92 = .ok (.return_, 1) := by decide +kernel
set_option maxHeartbeats 4000000 in
set_option maxRecDepth 100000 in
theorem ci_House (l : Launch) (D : va_G) (cI cZ : ClassId) (h0 sz : Nat) : Met l (⟨"PaperedOver$House", "<init>", "()V"⟩ : MethodName) (.code (⟨"PaperedOver$House", "<init>", "()V"⟩ : MethodName) prog_5_method_1_code 1 none :: gtb) ({ frames := 1, cells := 11, slots := 104, locals := 40 }) (va_Pc [.ref h0] (ci_B D cI cZ h0 (.inr (4, [.int 0, .null, .null, .null, .int 0, .null, .null, .null, .null, .null, .int 0, .null, .null, .null])) sz)) (ci_Q (fun u : Nat → Nat => u 0) h0 D (w_House cI cZ) (va_A [(h0, .inr (4, [.int 0, .null, .null, .null, .int 0, .null, .null, .null, .null, .null, .int 0, .null, .null, .null]))] sz)) 11 104 (va_A [(h0, .inr (4, [.int 0, .null, .null, .null, .int 0, .null, .null, .null, .null, .null, .int 0, .null, .null, .null]))] sz) := by
  refine Met.ofW (cc := prog_5_method_1_code) (maxL := 1) (ret := none) (by decide) rfl ?_
  intro p e s m args below meth c s₁ B hml hv
  obtain ⟨rfl, hsz, hP, hK, hD0, hN⟩ := hv
  have hx := B.exec
  have hb := B.bytes
  have hr := B.returns
  have hts := atoms_spec (ws := .code (⟨"PaperedOver$House", "<init>", "()V"⟩ : MethodName) prog_5_method_1_code 1 none :: gtb) B.pre
  have htg := fun w (h : w ∈ gtb) => hts w (List.mem_cons_of_mem _ h)
  have hown : s.vm.findClass "PaperedOver$House" = some m.cls := findClass_of_methodNamed B.named
  have hlocks := B.notSynchronized
  have hin : meth.name = "<init>" := (name_of_methodNamed B.named B.method).1
  subst hsz
  have hD := hD0.self (sz := s.heap.size)
  generalize hAe : va_A [(h0, .inr (4, [.int 0, .null, .null, .null, .int 0, .null, .null, .null, .null, .null, .int 0, .null, .null, .null]))] s.heap.size = A at hD ⊢
  have hA : ∀ q : Nat, s.heap.size ≤ q → A q := fun q h => by rw [← hAe]; exact Or.inr h
  have hS : va_S A s.heap s.heap [] := va_S.rf
  have hl := lv_entry ([.ref h0]) (n := 1) (Nat.le_of_ble_eq_true rfl)
  rw [lg_entry_eq]
  generalize (lg_sl ([.ref h0]) ++ List.replicate (1 - (lg_sl ([.ref h0])).length) Slot.unset).toArray = ls at hl ⊢
  have hl : lv_has ls 1 [(0, .ref h0)] := hl
  refine lv_aload_n hx hb dc_4_0 rfl (lv_at hl 0 rfl) ?_
  refine W.objInit hx hb hown (htg (.methodLink "PaperedOver$House" 1 objectInit) (gm 116 (by decide +kernel) (by decide +kernel))) (htg _ ob_in) (htg _ ob_co) rfl (by rw [hml]; exact hl.1) rfl dc_4_1 (Nat.le_of_ble_eq_true rfl) (Nat.le_of_ble_eq_true rfl) ?_
  refine W.eq (g2 := F0 m 4 ls []) rfl ?_
  refine lv_aload_n hx hb dc_4_4 rfl (lv_at hl 0 rfl) ?_
  refine lv_bipush (v := 8) hx hb dc_4_5 (by decide +kernel) ?_
  refine ci_newI (N' := 8) hx hb htg hK hP hD hS hA (by decide +kernel) (by decide +kernel) (by decide +kernel) (Nat.le_of_ble_eq_true rfl) (Nat.le_of_ble_eq_true rfl) dc_4_7 (fun q1 H hP hD hS => ?_)
  refine W.widen (k := 1) (n := 8) (Nat.le_of_ble_eq_true rfl) (Nat.le_of_ble_eq_true rfl) ?_
  have hP : va_P D am_cls ((h0, .inr (4, [.int 0, .null, .null, .null, .int 0, .null, .null, .null, .null, .null, .int 0, .null, .null, .null])) :: ([] ++ [(q1, .inl (cI, 8, .inl (fun _ => 0)))])) H := hP
  have hD : va_D A ((h0, .inr (4, [.int 0, .null, .null, .null, .int 0, .null, .null, .null, .null, .null, .int 0, .null, .null, .null])) :: ([] ++ [(q1, .inl (cI, 8, .inl (fun _ => 0)))])) := hD
  refine va_putF (D := D) (ci := 4) (v := .ref q1) (ty := .array .int) (C := rc_4) (T := tc_4) (N := 14) hx hb htg uw_4 yc_4 yo_4 nc_4 hown hK hP hD hS 0 rfl rfl 1 (by decide) (htg (.fieldLink "PaperedOver$House" 9 "PaperedOver$House" "built" "[I") (gm 122 (by decide +kernel) (by decide +kernel))) (fun _ h9 => h9) rfl hin rfl (by decide +kernel) rfl rfl (Nat.le_of_ble_eq_true rfl) dc_4_9 (fun H locs hP hD hS => ?_)
  have hP : va_P D am_cls ((h0, .inr (4, [.int 0, .ref q1, .null, .null, .int 0, .null, .null, .null, .null, .null, .int 0, .null, .null, .null])) :: ([] ++ [(q1, .inl (cI, 8, .inl (fun _ => 0)))])) H := hP
  have hD : va_D A ((h0, .inr (4, [.int 0, .ref q1, .null, .null, .int 0, .null, .null, .null, .null, .null, .int 0, .null, .null, .null])) :: ([] ++ [(q1, .inl (cI, 8, .inl (fun _ => 0)))])) := hD
  refine lv_aload_n hx hb dc_4_12 rfl (lv_at hl 0 rfl) ?_
  refine lv_bipush (v := 8) hx hb dc_4_13 (by decide +kernel) ?_
  refine ci_newI (N' := 8) hx hb htg hK hP hD hS hA (by decide +kernel) (by decide +kernel) (by decide +kernel) (Nat.le_of_ble_eq_true rfl) (Nat.le_of_ble_eq_true rfl) dc_4_15 (fun q2 H hP hD hS => ?_)
  refine W.widen (k := 2) (n := 16) (Nat.le_of_ble_eq_true rfl) (Nat.le_of_ble_eq_true rfl) ?_
  have hP : va_P D am_cls ((h0, .inr (4, [.int 0, .ref q1, .null, .null, .int 0, .null, .null, .null, .null, .null, .int 0, .null, .null, .null])) :: (([] ++ [(q1, .inl (cI, 8, .inl (fun _ => 0)))]) ++ [(q2, .inl (cI, 8, .inl (fun _ => 0)))])) H := hP
  have hD : va_D A ((h0, .inr (4, [.int 0, .ref q1, .null, .null, .int 0, .null, .null, .null, .null, .null, .int 0, .null, .null, .null])) :: (([] ++ [(q1, .inl (cI, 8, .inl (fun _ => 0)))]) ++ [(q2, .inl (cI, 8, .inl (fun _ => 0)))])) := hD
  refine va_putF (D := D) (ci := 4) (v := .ref q2) (ty := .array .int) (C := rc_4) (T := tc_4) (N := 14) hx hb htg uw_4 yc_4 yo_4 nc_4 hown hK hP hD hS 0 rfl rfl 2 (by decide) (htg (.fieldLink "PaperedOver$House" 13 "PaperedOver$House" "wide" "[I") (gm 124 (by decide +kernel) (by decide +kernel))) (fun _ h9 => h9) rfl hin rfl (by decide +kernel) rfl rfl (Nat.le_of_ble_eq_true rfl) dc_4_17 (fun H locs hP hD hS => ?_)
  have hP : va_P D am_cls ((h0, .inr (4, [.int 0, .ref q1, .ref q2, .null, .int 0, .null, .null, .null, .null, .null, .int 0, .null, .null, .null])) :: (([] ++ [(q1, .inl (cI, 8, .inl (fun _ => 0)))]) ++ [(q2, .inl (cI, 8, .inl (fun _ => 0)))])) H := hP
  have hD : va_D A ((h0, .inr (4, [.int 0, .ref q1, .ref q2, .null, .int 0, .null, .null, .null, .null, .null, .int 0, .null, .null, .null])) :: (([] ++ [(q1, .inl (cI, 8, .inl (fun _ => 0)))]) ++ [(q2, .inl (cI, 8, .inl (fun _ => 0)))])) := hD
  refine lv_aload_n hx hb dc_4_20 rfl (lv_at hl 0 rfl) ?_
  refine lv_bipush (v := 8) hx hb dc_4_21 (by decide +kernel) ?_
  refine ci_newI (N' := 8) hx hb htg hK hP hD hS hA (by decide +kernel) (by decide +kernel) (by decide +kernel) (Nat.le_of_ble_eq_true rfl) (Nat.le_of_ble_eq_true rfl) dc_4_23 (fun q3 H hP hD hS => ?_)
  refine W.widen (k := 3) (n := 24) (Nat.le_of_ble_eq_true rfl) (Nat.le_of_ble_eq_true rfl) ?_
  have hP : va_P D am_cls ((h0, .inr (4, [.int 0, .ref q1, .ref q2, .null, .int 0, .null, .null, .null, .null, .null, .int 0, .null, .null, .null])) :: ((([] ++ [(q1, .inl (cI, 8, .inl (fun _ => 0)))]) ++ [(q2, .inl (cI, 8, .inl (fun _ => 0)))]) ++ [(q3, .inl (cI, 8, .inl (fun _ => 0)))])) H := hP
  have hD : va_D A ((h0, .inr (4, [.int 0, .ref q1, .ref q2, .null, .int 0, .null, .null, .null, .null, .null, .int 0, .null, .null, .null])) :: ((([] ++ [(q1, .inl (cI, 8, .inl (fun _ => 0)))]) ++ [(q2, .inl (cI, 8, .inl (fun _ => 0)))]) ++ [(q3, .inl (cI, 8, .inl (fun _ => 0)))])) := hD
  refine va_putF (D := D) (ci := 4) (v := .ref q3) (ty := .array .int) (C := rc_4) (T := tc_4) (N := 14) hx hb htg uw_4 yc_4 yo_4 nc_4 hown hK hP hD hS 0 rfl rfl 3 (by decide) (htg (.fieldLink "PaperedOver$House" 16 "PaperedOver$House" "high" "[I") (gm 126 (by decide +kernel) (by decide +kernel))) (fun _ h9 => h9) rfl hin rfl (by decide +kernel) rfl rfl (Nat.le_of_ble_eq_true rfl) dc_4_25 (fun H locs hP hD hS => ?_)
  have hP : va_P D am_cls ((h0, .inr (4, [.int 0, .ref q1, .ref q2, .ref q3, .int 0, .null, .null, .null, .null, .null, .int 0, .null, .null, .null])) :: ((([] ++ [(q1, .inl (cI, 8, .inl (fun _ => 0)))]) ++ [(q2, .inl (cI, 8, .inl (fun _ => 0)))]) ++ [(q3, .inl (cI, 8, .inl (fun _ => 0)))])) H := hP
  have hD : va_D A ((h0, .inr (4, [.int 0, .ref q1, .ref q2, .ref q3, .int 0, .null, .null, .null, .null, .null, .int 0, .null, .null, .null])) :: ((([] ++ [(q1, .inl (cI, 8, .inl (fun _ => 0)))]) ++ [(q2, .inl (cI, 8, .inl (fun _ => 0)))]) ++ [(q3, .inl (cI, 8, .inl (fun _ => 0)))])) := hD
  refine lv_aload_n hx hb dc_4_28 rfl (lv_at hl 0 rfl) ?_
  refine lv_bipush (v := 10) hx hb dc_4_29 (by decide +kernel) ?_
  refine ci_newI (N' := 10) hx hb htg hK hP hD hS hA (by decide +kernel) (by decide +kernel) (by decide +kernel) (Nat.le_of_ble_eq_true rfl) (Nat.le_of_ble_eq_true rfl) dc_4_31 (fun q4 H hP hD hS => ?_)
  refine W.widen (k := 4) (n := 34) (Nat.le_of_ble_eq_true rfl) (Nat.le_of_ble_eq_true rfl) ?_
  have hP : va_P D am_cls ((h0, .inr (4, [.int 0, .ref q1, .ref q2, .ref q3, .int 0, .null, .null, .null, .null, .null, .int 0, .null, .null, .null])) :: (((([] ++ [(q1, .inl (cI, 8, .inl (fun _ => 0)))]) ++ [(q2, .inl (cI, 8, .inl (fun _ => 0)))]) ++ [(q3, .inl (cI, 8, .inl (fun _ => 0)))]) ++ [(q4, .inl (cI, 10, .inl (fun _ => 0)))])) H := hP
  have hD : va_D A ((h0, .inr (4, [.int 0, .ref q1, .ref q2, .ref q3, .int 0, .null, .null, .null, .null, .null, .int 0, .null, .null, .null])) :: (((([] ++ [(q1, .inl (cI, 8, .inl (fun _ => 0)))]) ++ [(q2, .inl (cI, 8, .inl (fun _ => 0)))]) ++ [(q3, .inl (cI, 8, .inl (fun _ => 0)))]) ++ [(q4, .inl (cI, 10, .inl (fun _ => 0)))])) := hD
  refine va_putF (D := D) (ci := 4) (v := .ref q4) (ty := .array .int) (C := rc_4) (T := tc_4) (N := 14) hx hb htg uw_4 yc_4 yo_4 nc_4 hown hK hP hD hS 0 rfl rfl 5 (by decide) (htg (.fieldLink "PaperedOver$House" 19 "PaperedOver$House" "kinds" "[I") (gm 131 (by decide +kernel) (by decide +kernel))) (fun _ h9 => h9) rfl hin rfl (by decide +kernel) rfl rfl (Nat.le_of_ble_eq_true rfl) dc_4_33 (fun H locs hP hD hS => ?_)
  have hP : va_P D am_cls ((h0, .inr (4, [.int 0, .ref q1, .ref q2, .ref q3, .int 0, .ref q4, .null, .null, .null, .null, .int 0, .null, .null, .null])) :: (((([] ++ [(q1, .inl (cI, 8, .inl (fun _ => 0)))]) ++ [(q2, .inl (cI, 8, .inl (fun _ => 0)))]) ++ [(q3, .inl (cI, 8, .inl (fun _ => 0)))]) ++ [(q4, .inl (cI, 10, .inl (fun _ => 0)))])) H := hP
  have hD : va_D A ((h0, .inr (4, [.int 0, .ref q1, .ref q2, .ref q3, .int 0, .ref q4, .null, .null, .null, .null, .int 0, .null, .null, .null])) :: (((([] ++ [(q1, .inl (cI, 8, .inl (fun _ => 0)))]) ++ [(q2, .inl (cI, 8, .inl (fun _ => 0)))]) ++ [(q3, .inl (cI, 8, .inl (fun _ => 0)))]) ++ [(q4, .inl (cI, 10, .inl (fun _ => 0)))])) := hD
  refine lv_aload_n hx hb dc_4_36 rfl (lv_at hl 0 rfl) ?_
  refine lv_bipush (v := 10) hx hb dc_4_37 (by decide +kernel) ?_
  refine ci_newI (N' := 10) hx hb htg hK hP hD hS hA (by decide +kernel) (by decide +kernel) (by decide +kernel) (Nat.le_of_ble_eq_true rfl) (Nat.le_of_ble_eq_true rfl) dc_4_39 (fun q5 H hP hD hS => ?_)
  refine W.widen (k := 5) (n := 44) (Nat.le_of_ble_eq_true rfl) (Nat.le_of_ble_eq_true rfl) ?_
  have hP : va_P D am_cls ((h0, .inr (4, [.int 0, .ref q1, .ref q2, .ref q3, .int 0, .ref q4, .null, .null, .null, .null, .int 0, .null, .null, .null])) :: ((((([] ++ [(q1, .inl (cI, 8, .inl (fun _ => 0)))]) ++ [(q2, .inl (cI, 8, .inl (fun _ => 0)))]) ++ [(q3, .inl (cI, 8, .inl (fun _ => 0)))]) ++ [(q4, .inl (cI, 10, .inl (fun _ => 0)))]) ++ [(q5, .inl (cI, 10, .inl (fun _ => 0)))])) H := hP
  have hD : va_D A ((h0, .inr (4, [.int 0, .ref q1, .ref q2, .ref q3, .int 0, .ref q4, .null, .null, .null, .null, .int 0, .null, .null, .null])) :: ((((([] ++ [(q1, .inl (cI, 8, .inl (fun _ => 0)))]) ++ [(q2, .inl (cI, 8, .inl (fun _ => 0)))]) ++ [(q3, .inl (cI, 8, .inl (fun _ => 0)))]) ++ [(q4, .inl (cI, 10, .inl (fun _ => 0)))]) ++ [(q5, .inl (cI, 10, .inl (fun _ => 0)))])) := hD
  refine va_putF (D := D) (ci := 4) (v := .ref q5) (ty := .array .int) (C := rc_4) (T := tc_4) (N := 14) hx hb htg uw_4 yc_4 yo_4 nc_4 hown hK hP hD hS 0 rfl rfl 6 (by decide) (htg (.fieldLink "PaperedOver$House" 22 "PaperedOver$House" "made" "[I") (gm 134 (by decide +kernel) (by decide +kernel))) (fun _ h9 => h9) rfl hin rfl (by decide +kernel) rfl rfl (Nat.le_of_ble_eq_true rfl) dc_4_41 (fun H locs hP hD hS => ?_)
  have hP : va_P D am_cls ((h0, .inr (4, [.int 0, .ref q1, .ref q2, .ref q3, .int 0, .ref q4, .ref q5, .null, .null, .null, .int 0, .null, .null, .null])) :: ((((([] ++ [(q1, .inl (cI, 8, .inl (fun _ => 0)))]) ++ [(q2, .inl (cI, 8, .inl (fun _ => 0)))]) ++ [(q3, .inl (cI, 8, .inl (fun _ => 0)))]) ++ [(q4, .inl (cI, 10, .inl (fun _ => 0)))]) ++ [(q5, .inl (cI, 10, .inl (fun _ => 0)))])) H := hP
  have hD : va_D A ((h0, .inr (4, [.int 0, .ref q1, .ref q2, .ref q3, .int 0, .ref q4, .ref q5, .null, .null, .null, .int 0, .null, .null, .null])) :: ((((([] ++ [(q1, .inl (cI, 8, .inl (fun _ => 0)))]) ++ [(q2, .inl (cI, 8, .inl (fun _ => 0)))]) ++ [(q3, .inl (cI, 8, .inl (fun _ => 0)))]) ++ [(q4, .inl (cI, 10, .inl (fun _ => 0)))]) ++ [(q5, .inl (cI, 10, .inl (fun _ => 0)))])) := hD
  refine lv_aload_n hx hb dc_4_44 rfl (lv_at hl 0 rfl) ?_
  refine lv_bipush (v := 10) hx hb dc_4_45 (by decide +kernel) ?_
  refine ci_newI (N' := 10) hx hb htg hK hP hD hS hA (by decide +kernel) (by decide +kernel) (by decide +kernel) (Nat.le_of_ble_eq_true rfl) (Nat.le_of_ble_eq_true rfl) dc_4_47 (fun q6 H hP hD hS => ?_)
  refine W.widen (k := 6) (n := 54) (Nat.le_of_ble_eq_true rfl) (Nat.le_of_ble_eq_true rfl) ?_
  have hP : va_P D am_cls ((h0, .inr (4, [.int 0, .ref q1, .ref q2, .ref q3, .int 0, .ref q4, .ref q5, .null, .null, .null, .int 0, .null, .null, .null])) :: (((((([] ++ [(q1, .inl (cI, 8, .inl (fun _ => 0)))]) ++ [(q2, .inl (cI, 8, .inl (fun _ => 0)))]) ++ [(q3, .inl (cI, 8, .inl (fun _ => 0)))]) ++ [(q4, .inl (cI, 10, .inl (fun _ => 0)))]) ++ [(q5, .inl (cI, 10, .inl (fun _ => 0)))]) ++ [(q6, .inl (cI, 10, .inl (fun _ => 0)))])) H := hP
  have hD : va_D A ((h0, .inr (4, [.int 0, .ref q1, .ref q2, .ref q3, .int 0, .ref q4, .ref q5, .null, .null, .null, .int 0, .null, .null, .null])) :: (((((([] ++ [(q1, .inl (cI, 8, .inl (fun _ => 0)))]) ++ [(q2, .inl (cI, 8, .inl (fun _ => 0)))]) ++ [(q3, .inl (cI, 8, .inl (fun _ => 0)))]) ++ [(q4, .inl (cI, 10, .inl (fun _ => 0)))]) ++ [(q5, .inl (cI, 10, .inl (fun _ => 0)))]) ++ [(q6, .inl (cI, 10, .inl (fun _ => 0)))])) := hD
  refine va_putF (D := D) (ci := 4) (v := .ref q6) (ty := .array .int) (C := rc_4) (T := tc_4) (N := 14) hx hb htg uw_4 yc_4 yo_4 nc_4 hown hK hP hD hS 0 rfl rfl 7 (by decide) (htg (.fieldLink "PaperedOver$House" 25 "PaperedOver$House" "last" "[I") (gm 138 (by decide +kernel) (by decide +kernel))) (fun _ h9 => h9) rfl hin rfl (by decide +kernel) rfl rfl (Nat.le_of_ble_eq_true rfl) dc_4_49 (fun H locs hP hD hS => ?_)
  have hP : va_P D am_cls ((h0, .inr (4, [.int 0, .ref q1, .ref q2, .ref q3, .int 0, .ref q4, .ref q5, .ref q6, .null, .null, .int 0, .null, .null, .null])) :: (((((([] ++ [(q1, .inl (cI, 8, .inl (fun _ => 0)))]) ++ [(q2, .inl (cI, 8, .inl (fun _ => 0)))]) ++ [(q3, .inl (cI, 8, .inl (fun _ => 0)))]) ++ [(q4, .inl (cI, 10, .inl (fun _ => 0)))]) ++ [(q5, .inl (cI, 10, .inl (fun _ => 0)))]) ++ [(q6, .inl (cI, 10, .inl (fun _ => 0)))])) H := hP
  have hD : va_D A ((h0, .inr (4, [.int 0, .ref q1, .ref q2, .ref q3, .int 0, .ref q4, .ref q5, .ref q6, .null, .null, .int 0, .null, .null, .null])) :: (((((([] ++ [(q1, .inl (cI, 8, .inl (fun _ => 0)))]) ++ [(q2, .inl (cI, 8, .inl (fun _ => 0)))]) ++ [(q3, .inl (cI, 8, .inl (fun _ => 0)))]) ++ [(q4, .inl (cI, 10, .inl (fun _ => 0)))]) ++ [(q5, .inl (cI, 10, .inl (fun _ => 0)))]) ++ [(q6, .inl (cI, 10, .inl (fun _ => 0)))])) := hD
  refine lv_aload_n hx hb dc_4_52 rfl (lv_at hl 0 rfl) ?_
  refine lv_bipush (v := 10) hx hb dc_4_53 (by decide +kernel) ?_
  refine ci_newI (N' := 10) hx hb htg hK hP hD hS hA (by decide +kernel) (by decide +kernel) (by decide +kernel) (Nat.le_of_ble_eq_true rfl) (Nat.le_of_ble_eq_true rfl) dc_4_55 (fun q7 H hP hD hS => ?_)
  refine W.widen (k := 7) (n := 64) (Nat.le_of_ble_eq_true rfl) (Nat.le_of_ble_eq_true rfl) ?_
  have hP : va_P D am_cls ((h0, .inr (4, [.int 0, .ref q1, .ref q2, .ref q3, .int 0, .ref q4, .ref q5, .ref q6, .null, .null, .int 0, .null, .null, .null])) :: ((((((([] ++ [(q1, .inl (cI, 8, .inl (fun _ => 0)))]) ++ [(q2, .inl (cI, 8, .inl (fun _ => 0)))]) ++ [(q3, .inl (cI, 8, .inl (fun _ => 0)))]) ++ [(q4, .inl (cI, 10, .inl (fun _ => 0)))]) ++ [(q5, .inl (cI, 10, .inl (fun _ => 0)))]) ++ [(q6, .inl (cI, 10, .inl (fun _ => 0)))]) ++ [(q7, .inl (cI, 10, .inl (fun _ => 0)))])) H := hP
  have hD : va_D A ((h0, .inr (4, [.int 0, .ref q1, .ref q2, .ref q3, .int 0, .ref q4, .ref q5, .ref q6, .null, .null, .int 0, .null, .null, .null])) :: ((((((([] ++ [(q1, .inl (cI, 8, .inl (fun _ => 0)))]) ++ [(q2, .inl (cI, 8, .inl (fun _ => 0)))]) ++ [(q3, .inl (cI, 8, .inl (fun _ => 0)))]) ++ [(q4, .inl (cI, 10, .inl (fun _ => 0)))]) ++ [(q5, .inl (cI, 10, .inl (fun _ => 0)))]) ++ [(q6, .inl (cI, 10, .inl (fun _ => 0)))]) ++ [(q7, .inl (cI, 10, .inl (fun _ => 0)))])) := hD
  refine va_putF (D := D) (ci := 4) (v := .ref q7) (ty := .array .int) (C := rc_4) (T := tc_4) (N := 14) hx hb htg uw_4 yc_4 yo_4 nc_4 hown hK hP hD hS 0 rfl rfl 8 (by decide) (htg (.fieldLink "PaperedOver$House" 28 "PaperedOver$House" "prices" "[I") (gm 141 (by decide +kernel) (by decide +kernel))) (fun _ h9 => h9) rfl hin rfl (by decide +kernel) rfl rfl (Nat.le_of_ble_eq_true rfl) dc_4_57 (fun H locs hP hD hS => ?_)
  have hP : va_P D am_cls ((h0, .inr (4, [.int 0, .ref q1, .ref q2, .ref q3, .int 0, .ref q4, .ref q5, .ref q6, .ref q7, .null, .int 0, .null, .null, .null])) :: ((((((([] ++ [(q1, .inl (cI, 8, .inl (fun _ => 0)))]) ++ [(q2, .inl (cI, 8, .inl (fun _ => 0)))]) ++ [(q3, .inl (cI, 8, .inl (fun _ => 0)))]) ++ [(q4, .inl (cI, 10, .inl (fun _ => 0)))]) ++ [(q5, .inl (cI, 10, .inl (fun _ => 0)))]) ++ [(q6, .inl (cI, 10, .inl (fun _ => 0)))]) ++ [(q7, .inl (cI, 10, .inl (fun _ => 0)))])) H := hP
  have hD : va_D A ((h0, .inr (4, [.int 0, .ref q1, .ref q2, .ref q3, .int 0, .ref q4, .ref q5, .ref q6, .ref q7, .null, .int 0, .null, .null, .null])) :: ((((((([] ++ [(q1, .inl (cI, 8, .inl (fun _ => 0)))]) ++ [(q2, .inl (cI, 8, .inl (fun _ => 0)))]) ++ [(q3, .inl (cI, 8, .inl (fun _ => 0)))]) ++ [(q4, .inl (cI, 10, .inl (fun _ => 0)))]) ++ [(q5, .inl (cI, 10, .inl (fun _ => 0)))]) ++ [(q6, .inl (cI, 10, .inl (fun _ => 0)))]) ++ [(q7, .inl (cI, 10, .inl (fun _ => 0)))])) := hD
  refine lv_aload_n hx hb dc_4_60 rfl (lv_at hl 0 rfl) ?_
  refine lv_bipush (v := 10) hx hb dc_4_61 (by decide +kernel) ?_
  refine ci_newI (N' := 10) hx hb htg hK hP hD hS hA (by decide +kernel) (by decide +kernel) (by decide +kernel) (Nat.le_of_ble_eq_true rfl) (Nat.le_of_ble_eq_true rfl) dc_4_63 (fun q8 H hP hD hS => ?_)
  refine W.widen (k := 8) (n := 74) (Nat.le_of_ble_eq_true rfl) (Nat.le_of_ble_eq_true rfl) ?_
  have hP : va_P D am_cls ((h0, .inr (4, [.int 0, .ref q1, .ref q2, .ref q3, .int 0, .ref q4, .ref q5, .ref q6, .ref q7, .null, .int 0, .null, .null, .null])) :: (((((((([] ++ [(q1, .inl (cI, 8, .inl (fun _ => 0)))]) ++ [(q2, .inl (cI, 8, .inl (fun _ => 0)))]) ++ [(q3, .inl (cI, 8, .inl (fun _ => 0)))]) ++ [(q4, .inl (cI, 10, .inl (fun _ => 0)))]) ++ [(q5, .inl (cI, 10, .inl (fun _ => 0)))]) ++ [(q6, .inl (cI, 10, .inl (fun _ => 0)))]) ++ [(q7, .inl (cI, 10, .inl (fun _ => 0)))]) ++ [(q8, .inl (cI, 10, .inl (fun _ => 0)))])) H := hP
  have hD : va_D A ((h0, .inr (4, [.int 0, .ref q1, .ref q2, .ref q3, .int 0, .ref q4, .ref q5, .ref q6, .ref q7, .null, .int 0, .null, .null, .null])) :: (((((((([] ++ [(q1, .inl (cI, 8, .inl (fun _ => 0)))]) ++ [(q2, .inl (cI, 8, .inl (fun _ => 0)))]) ++ [(q3, .inl (cI, 8, .inl (fun _ => 0)))]) ++ [(q4, .inl (cI, 10, .inl (fun _ => 0)))]) ++ [(q5, .inl (cI, 10, .inl (fun _ => 0)))]) ++ [(q6, .inl (cI, 10, .inl (fun _ => 0)))]) ++ [(q7, .inl (cI, 10, .inl (fun _ => 0)))]) ++ [(q8, .inl (cI, 10, .inl (fun _ => 0)))])) := hD
  refine va_putF (D := D) (ci := 4) (v := .ref q8) (ty := .array .int) (C := rc_4) (T := tc_4) (N := 14) hx hb htg uw_4 yc_4 yo_4 nc_4 hown hK hP hD hS 0 rfl rfl 9 (by decide) (htg (.fieldLink "PaperedOver$House" 31 "PaperedOver$House" "repeats" "[I") (gm 145 (by decide +kernel) (by decide +kernel))) (fun _ h9 => h9) rfl hin rfl (by decide +kernel) rfl rfl (Nat.le_of_ble_eq_true rfl) dc_4_65 (fun H locs hP hD hS => ?_)
  have hP : va_P D am_cls ((h0, .inr (4, [.int 0, .ref q1, .ref q2, .ref q3, .int 0, .ref q4, .ref q5, .ref q6, .ref q7, .ref q8, .int 0, .null, .null, .null])) :: (((((((([] ++ [(q1, .inl (cI, 8, .inl (fun _ => 0)))]) ++ [(q2, .inl (cI, 8, .inl (fun _ => 0)))]) ++ [(q3, .inl (cI, 8, .inl (fun _ => 0)))]) ++ [(q4, .inl (cI, 10, .inl (fun _ => 0)))]) ++ [(q5, .inl (cI, 10, .inl (fun _ => 0)))]) ++ [(q6, .inl (cI, 10, .inl (fun _ => 0)))]) ++ [(q7, .inl (cI, 10, .inl (fun _ => 0)))]) ++ [(q8, .inl (cI, 10, .inl (fun _ => 0)))])) H := hP
  have hD : va_D A ((h0, .inr (4, [.int 0, .ref q1, .ref q2, .ref q3, .int 0, .ref q4, .ref q5, .ref q6, .ref q7, .ref q8, .int 0, .null, .null, .null])) :: (((((((([] ++ [(q1, .inl (cI, 8, .inl (fun _ => 0)))]) ++ [(q2, .inl (cI, 8, .inl (fun _ => 0)))]) ++ [(q3, .inl (cI, 8, .inl (fun _ => 0)))]) ++ [(q4, .inl (cI, 10, .inl (fun _ => 0)))]) ++ [(q5, .inl (cI, 10, .inl (fun _ => 0)))]) ++ [(q6, .inl (cI, 10, .inl (fun _ => 0)))]) ++ [(q7, .inl (cI, 10, .inl (fun _ => 0)))]) ++ [(q8, .inl (cI, 10, .inl (fun _ => 0)))])) := hD
  refine lv_aload_n hx hb dc_4_68 rfl (lv_at hl 0 rfl) ?_
  refine lv_bipush (v := 10) hx hb dc_4_69 (by decide +kernel) ?_
  refine ci_newI (N' := 10) hx hb htg hK hP hD hS hA (by decide +kernel) (by decide +kernel) (by decide +kernel) (Nat.le_of_ble_eq_true rfl) (Nat.le_of_ble_eq_true rfl) dc_4_71 (fun q9 H hP hD hS => ?_)
  refine W.widen (k := 9) (n := 84) (Nat.le_of_ble_eq_true rfl) (Nat.le_of_ble_eq_true rfl) ?_
  have hP : va_P D am_cls ((h0, .inr (4, [.int 0, .ref q1, .ref q2, .ref q3, .int 0, .ref q4, .ref q5, .ref q6, .ref q7, .ref q8, .int 0, .null, .null, .null])) :: ((((((((([] ++ [(q1, .inl (cI, 8, .inl (fun _ => 0)))]) ++ [(q2, .inl (cI, 8, .inl (fun _ => 0)))]) ++ [(q3, .inl (cI, 8, .inl (fun _ => 0)))]) ++ [(q4, .inl (cI, 10, .inl (fun _ => 0)))]) ++ [(q5, .inl (cI, 10, .inl (fun _ => 0)))]) ++ [(q6, .inl (cI, 10, .inl (fun _ => 0)))]) ++ [(q7, .inl (cI, 10, .inl (fun _ => 0)))]) ++ [(q8, .inl (cI, 10, .inl (fun _ => 0)))]) ++ [(q9, .inl (cI, 10, .inl (fun _ => 0)))])) H := hP
  have hD : va_D A ((h0, .inr (4, [.int 0, .ref q1, .ref q2, .ref q3, .int 0, .ref q4, .ref q5, .ref q6, .ref q7, .ref q8, .int 0, .null, .null, .null])) :: ((((((((([] ++ [(q1, .inl (cI, 8, .inl (fun _ => 0)))]) ++ [(q2, .inl (cI, 8, .inl (fun _ => 0)))]) ++ [(q3, .inl (cI, 8, .inl (fun _ => 0)))]) ++ [(q4, .inl (cI, 10, .inl (fun _ => 0)))]) ++ [(q5, .inl (cI, 10, .inl (fun _ => 0)))]) ++ [(q6, .inl (cI, 10, .inl (fun _ => 0)))]) ++ [(q7, .inl (cI, 10, .inl (fun _ => 0)))]) ++ [(q8, .inl (cI, 10, .inl (fun _ => 0)))]) ++ [(q9, .inl (cI, 10, .inl (fun _ => 0)))])) := hD
  refine va_putF (D := D) (ci := 4) (v := .ref q9) (ty := .array .int) (C := rc_4) (T := tc_4) (N := 14) hx hb htg uw_4 yc_4 yo_4 nc_4 hown hK hP hD hS 0 rfl rfl 11 (by decide) (htg (.fieldLink "PaperedOver$House" 34 "PaperedOver$House" "from" "[I") (gm 153 (by decide +kernel) (by decide +kernel))) (fun _ h9 => h9) rfl hin rfl (by decide +kernel) rfl rfl (Nat.le_of_ble_eq_true rfl) dc_4_73 (fun H locs hP hD hS => ?_)
  have hP : va_P D am_cls ((h0, .inr (4, [.int 0, .ref q1, .ref q2, .ref q3, .int 0, .ref q4, .ref q5, .ref q6, .ref q7, .ref q8, .int 0, .ref q9, .null, .null])) :: ((((((((([] ++ [(q1, .inl (cI, 8, .inl (fun _ => 0)))]) ++ [(q2, .inl (cI, 8, .inl (fun _ => 0)))]) ++ [(q3, .inl (cI, 8, .inl (fun _ => 0)))]) ++ [(q4, .inl (cI, 10, .inl (fun _ => 0)))]) ++ [(q5, .inl (cI, 10, .inl (fun _ => 0)))]) ++ [(q6, .inl (cI, 10, .inl (fun _ => 0)))]) ++ [(q7, .inl (cI, 10, .inl (fun _ => 0)))]) ++ [(q8, .inl (cI, 10, .inl (fun _ => 0)))]) ++ [(q9, .inl (cI, 10, .inl (fun _ => 0)))])) H := hP
  have hD : va_D A ((h0, .inr (4, [.int 0, .ref q1, .ref q2, .ref q3, .int 0, .ref q4, .ref q5, .ref q6, .ref q7, .ref q8, .int 0, .ref q9, .null, .null])) :: ((((((((([] ++ [(q1, .inl (cI, 8, .inl (fun _ => 0)))]) ++ [(q2, .inl (cI, 8, .inl (fun _ => 0)))]) ++ [(q3, .inl (cI, 8, .inl (fun _ => 0)))]) ++ [(q4, .inl (cI, 10, .inl (fun _ => 0)))]) ++ [(q5, .inl (cI, 10, .inl (fun _ => 0)))]) ++ [(q6, .inl (cI, 10, .inl (fun _ => 0)))]) ++ [(q7, .inl (cI, 10, .inl (fun _ => 0)))]) ++ [(q8, .inl (cI, 10, .inl (fun _ => 0)))]) ++ [(q9, .inl (cI, 10, .inl (fun _ => 0)))])) := hD
  refine lv_aload_n hx hb dc_4_76 rfl (lv_at hl 0 rfl) ?_
  refine lv_bipush (v := 10) hx hb dc_4_77 (by decide +kernel) ?_
  refine ci_newI (N' := 10) hx hb htg hK hP hD hS hA (by decide +kernel) (by decide +kernel) (by decide +kernel) (Nat.le_of_ble_eq_true rfl) (Nat.le_of_ble_eq_true rfl) dc_4_79 (fun q10 H hP hD hS => ?_)
  refine W.widen (k := 10) (n := 94) (Nat.le_of_ble_eq_true rfl) (Nat.le_of_ble_eq_true rfl) ?_
  have hP : va_P D am_cls ((h0, .inr (4, [.int 0, .ref q1, .ref q2, .ref q3, .int 0, .ref q4, .ref q5, .ref q6, .ref q7, .ref q8, .int 0, .ref q9, .null, .null])) :: (((((((((([] ++ [(q1, .inl (cI, 8, .inl (fun _ => 0)))]) ++ [(q2, .inl (cI, 8, .inl (fun _ => 0)))]) ++ [(q3, .inl (cI, 8, .inl (fun _ => 0)))]) ++ [(q4, .inl (cI, 10, .inl (fun _ => 0)))]) ++ [(q5, .inl (cI, 10, .inl (fun _ => 0)))]) ++ [(q6, .inl (cI, 10, .inl (fun _ => 0)))]) ++ [(q7, .inl (cI, 10, .inl (fun _ => 0)))]) ++ [(q8, .inl (cI, 10, .inl (fun _ => 0)))]) ++ [(q9, .inl (cI, 10, .inl (fun _ => 0)))]) ++ [(q10, .inl (cI, 10, .inl (fun _ => 0)))])) H := hP
  have hD : va_D A ((h0, .inr (4, [.int 0, .ref q1, .ref q2, .ref q3, .int 0, .ref q4, .ref q5, .ref q6, .ref q7, .ref q8, .int 0, .ref q9, .null, .null])) :: (((((((((([] ++ [(q1, .inl (cI, 8, .inl (fun _ => 0)))]) ++ [(q2, .inl (cI, 8, .inl (fun _ => 0)))]) ++ [(q3, .inl (cI, 8, .inl (fun _ => 0)))]) ++ [(q4, .inl (cI, 10, .inl (fun _ => 0)))]) ++ [(q5, .inl (cI, 10, .inl (fun _ => 0)))]) ++ [(q6, .inl (cI, 10, .inl (fun _ => 0)))]) ++ [(q7, .inl (cI, 10, .inl (fun _ => 0)))]) ++ [(q8, .inl (cI, 10, .inl (fun _ => 0)))]) ++ [(q9, .inl (cI, 10, .inl (fun _ => 0)))]) ++ [(q10, .inl (cI, 10, .inl (fun _ => 0)))])) := hD
  refine va_putF (D := D) (ci := 4) (v := .ref q10) (ty := .array .int) (C := rc_4) (T := tc_4) (N := 14) hx hb htg uw_4 yc_4 yo_4 nc_4 hown hK hP hD hS 0 rfl rfl 12 (by decide) (htg (.fieldLink "PaperedOver$House" 37 "PaperedOver$House" "to" "[I") (gm 155 (by decide +kernel) (by decide +kernel))) (fun _ h9 => h9) rfl hin rfl (by decide +kernel) rfl rfl (Nat.le_of_ble_eq_true rfl) dc_4_81 (fun H locs hP hD hS => ?_)
  have hP : va_P D am_cls ((h0, .inr (4, [.int 0, .ref q1, .ref q2, .ref q3, .int 0, .ref q4, .ref q5, .ref q6, .ref q7, .ref q8, .int 0, .ref q9, .ref q10, .null])) :: (((((((((([] ++ [(q1, .inl (cI, 8, .inl (fun _ => 0)))]) ++ [(q2, .inl (cI, 8, .inl (fun _ => 0)))]) ++ [(q3, .inl (cI, 8, .inl (fun _ => 0)))]) ++ [(q4, .inl (cI, 10, .inl (fun _ => 0)))]) ++ [(q5, .inl (cI, 10, .inl (fun _ => 0)))]) ++ [(q6, .inl (cI, 10, .inl (fun _ => 0)))]) ++ [(q7, .inl (cI, 10, .inl (fun _ => 0)))]) ++ [(q8, .inl (cI, 10, .inl (fun _ => 0)))]) ++ [(q9, .inl (cI, 10, .inl (fun _ => 0)))]) ++ [(q10, .inl (cI, 10, .inl (fun _ => 0)))])) H := hP
  have hD : va_D A ((h0, .inr (4, [.int 0, .ref q1, .ref q2, .ref q3, .int 0, .ref q4, .ref q5, .ref q6, .ref q7, .ref q8, .int 0, .ref q9, .ref q10, .null])) :: (((((((((([] ++ [(q1, .inl (cI, 8, .inl (fun _ => 0)))]) ++ [(q2, .inl (cI, 8, .inl (fun _ => 0)))]) ++ [(q3, .inl (cI, 8, .inl (fun _ => 0)))]) ++ [(q4, .inl (cI, 10, .inl (fun _ => 0)))]) ++ [(q5, .inl (cI, 10, .inl (fun _ => 0)))]) ++ [(q6, .inl (cI, 10, .inl (fun _ => 0)))]) ++ [(q7, .inl (cI, 10, .inl (fun _ => 0)))]) ++ [(q8, .inl (cI, 10, .inl (fun _ => 0)))]) ++ [(q9, .inl (cI, 10, .inl (fun _ => 0)))]) ++ [(q10, .inl (cI, 10, .inl (fun _ => 0)))])) := hD
  refine lv_aload_n hx hb dc_4_84 rfl (lv_at hl 0 rfl) ?_
  refine lv_bipush (v := 10) hx hb dc_4_85 (by decide +kernel) ?_
  refine ci_newI (N' := 10) hx hb htg hK hP hD hS hA (by decide +kernel) (by decide +kernel) (by decide +kernel) (Nat.le_of_ble_eq_true rfl) (Nat.le_of_ble_eq_true rfl) dc_4_87 (fun q11 H hP hD hS => ?_)
  refine W.widen (k := 11) (n := 104) (Nat.le_of_ble_eq_true rfl) (Nat.le_of_ble_eq_true rfl) ?_
  have hP : va_P D am_cls ((h0, .inr (4, [.int 0, .ref q1, .ref q2, .ref q3, .int 0, .ref q4, .ref q5, .ref q6, .ref q7, .ref q8, .int 0, .ref q9, .ref q10, .null])) :: ((((((((((([] ++ [(q1, .inl (cI, 8, .inl (fun _ => 0)))]) ++ [(q2, .inl (cI, 8, .inl (fun _ => 0)))]) ++ [(q3, .inl (cI, 8, .inl (fun _ => 0)))]) ++ [(q4, .inl (cI, 10, .inl (fun _ => 0)))]) ++ [(q5, .inl (cI, 10, .inl (fun _ => 0)))]) ++ [(q6, .inl (cI, 10, .inl (fun _ => 0)))]) ++ [(q7, .inl (cI, 10, .inl (fun _ => 0)))]) ++ [(q8, .inl (cI, 10, .inl (fun _ => 0)))]) ++ [(q9, .inl (cI, 10, .inl (fun _ => 0)))]) ++ [(q10, .inl (cI, 10, .inl (fun _ => 0)))]) ++ [(q11, .inl (cI, 10, .inl (fun _ => 0)))])) H := hP
  have hD : va_D A ((h0, .inr (4, [.int 0, .ref q1, .ref q2, .ref q3, .int 0, .ref q4, .ref q5, .ref q6, .ref q7, .ref q8, .int 0, .ref q9, .ref q10, .null])) :: ((((((((((([] ++ [(q1, .inl (cI, 8, .inl (fun _ => 0)))]) ++ [(q2, .inl (cI, 8, .inl (fun _ => 0)))]) ++ [(q3, .inl (cI, 8, .inl (fun _ => 0)))]) ++ [(q4, .inl (cI, 10, .inl (fun _ => 0)))]) ++ [(q5, .inl (cI, 10, .inl (fun _ => 0)))]) ++ [(q6, .inl (cI, 10, .inl (fun _ => 0)))]) ++ [(q7, .inl (cI, 10, .inl (fun _ => 0)))]) ++ [(q8, .inl (cI, 10, .inl (fun _ => 0)))]) ++ [(q9, .inl (cI, 10, .inl (fun _ => 0)))]) ++ [(q10, .inl (cI, 10, .inl (fun _ => 0)))]) ++ [(q11, .inl (cI, 10, .inl (fun _ => 0)))])) := hD
  refine va_putF (D := D) (ci := 4) (v := .ref q11) (ty := .array .int) (C := rc_4) (T := tc_4) (N := 14) hx hb htg uw_4 yc_4 yo_4 nc_4 hown hK hP hD hS 0 rfl rfl 13 (by decide) (htg (.fieldLink "PaperedOver$House" 40 "PaperedOver$House" "means" "[I") (gm 157 (by decide +kernel) (by decide +kernel))) (fun _ h9 => h9) rfl hin rfl (by decide +kernel) rfl rfl (Nat.le_of_ble_eq_true rfl) dc_4_89 (fun H locs hP hD hS => ?_)
  have hP : va_P D am_cls ((h0, .inr (4, [.int 0, .ref q1, .ref q2, .ref q3, .int 0, .ref q4, .ref q5, .ref q6, .ref q7, .ref q8, .int 0, .ref q9, .ref q10, .ref q11])) :: ((((((((((([] ++ [(q1, .inl (cI, 8, .inl (fun _ => 0)))]) ++ [(q2, .inl (cI, 8, .inl (fun _ => 0)))]) ++ [(q3, .inl (cI, 8, .inl (fun _ => 0)))]) ++ [(q4, .inl (cI, 10, .inl (fun _ => 0)))]) ++ [(q5, .inl (cI, 10, .inl (fun _ => 0)))]) ++ [(q6, .inl (cI, 10, .inl (fun _ => 0)))]) ++ [(q7, .inl (cI, 10, .inl (fun _ => 0)))]) ++ [(q8, .inl (cI, 10, .inl (fun _ => 0)))]) ++ [(q9, .inl (cI, 10, .inl (fun _ => 0)))]) ++ [(q10, .inl (cI, 10, .inl (fun _ => 0)))]) ++ [(q11, .inl (cI, 10, .inl (fun _ => 0)))])) H := hP
  have hD : va_D A ((h0, .inr (4, [.int 0, .ref q1, .ref q2, .ref q3, .int 0, .ref q4, .ref q5, .ref q6, .ref q7, .ref q8, .int 0, .ref q9, .ref q10, .ref q11])) :: ((((((((((([] ++ [(q1, .inl (cI, 8, .inl (fun _ => 0)))]) ++ [(q2, .inl (cI, 8, .inl (fun _ => 0)))]) ++ [(q3, .inl (cI, 8, .inl (fun _ => 0)))]) ++ [(q4, .inl (cI, 10, .inl (fun _ => 0)))]) ++ [(q5, .inl (cI, 10, .inl (fun _ => 0)))]) ++ [(q6, .inl (cI, 10, .inl (fun _ => 0)))]) ++ [(q7, .inl (cI, 10, .inl (fun _ => 0)))]) ++ [(q8, .inl (cI, 10, .inl (fun _ => 0)))]) ++ [(q9, .inl (cI, 10, .inl (fun _ => 0)))]) ++ [(q10, .inl (cI, 10, .inl (fun _ => 0)))]) ++ [(q11, .inl (cI, 10, .inl (fun _ => 0)))])) := hD
  have hP9 : va_P D am_cls (w_House cI cZ (fun k => [h0, q1, q2, q3, q4, q5, q6, q7, q8, q9, q10, q11].getD k 0)) _ := hP
  have hD9 : va_D A (w_House cI cZ (fun k => [h0, q1, q2, q3, q4, q5, q6, q7, q8, q9, q10, q11].getD k 0)) := hD
  exact W.vret hx hb hr (fun t ht hW => ⟨⟨(fun k => [h0, q1, q2, q3, q4, q5, q6, q7, q8, q9, q10, q11].getD k 0), rfl, rfl, by rw [ht]; exact hP9, hD9⟩, hS.F ht⟩) hS.2.2 dc_4_92
def w_Orders (cI cZ : ClassId) (a1 : Nat) (u : Nat → Nat) : va_W := [(u 0, .inr (8, [.ref a1, .int 0, .ref (u 1), .ref (u 2), .ref (u 3)])), (u 1, .inl (cI, 1024, .inl (fun _ => 0))), (u 2, .inl (cI, 1024, .inl (fun _ => 0))), (u 3, .inl (cI, 100, .inl (fun _ => 0)))]
theorem dc_8_0 : decode prog_7_method_1_code 0 = .ok (.aload_n 0, 1) := by decide +kernel
theorem dc_8_1 : decode prog_7_method_1_code 1 = .ok (.invokespecial 3, 3) := by decide +kernel
theorem dc_8_4 : decode prog_7_method_1_code 4 = .ok (.aload_n 0, 1) := by decide +kernel
theorem dc_8_5 : decode prog_7_method_1_code 5 = .ok (.sipush 1024, 3) := by decide +kernel
theorem dc_8_8 : decode prog_7_method_1_code 8 = .ok (.newarray .int, 2) := by decide +kernel
theorem dc_8_10 : decode prog_7_method_1_code 10 = .ok (.putfield 11, 3) := by decide +kernel
theorem dc_8_13 : decode prog_7_method_1_code 13 = .ok (.aload_n 0, 1) := by decide +kernel
theorem dc_8_14 : decode prog_7_method_1_code 14 = .ok (.sipush 1024, 3) := by decide +kernel
theorem dc_8_17 : decode prog_7_method_1_code 17 = .ok (.newarray .int, 2) := by decide +kernel
theorem dc_8_19 : decode prog_7_method_1_code 19 = .ok (.putfield 15, 3) := by decide +kernel
theorem dc_8_22 : decode prog_7_method_1_code 22 = .ok (.aload_n 0, 1) := by decide +kernel
theorem dc_8_23 : decode prog_7_method_1_code 23 = .ok (.bipush 100, 2) := by decide +kernel
theorem dc_8_25 : decode prog_7_method_1_code 25 = .ok (.newarray .int, 2) := by decide +kernel
theorem dc_8_27 : decode prog_7_method_1_code 27 = .ok (.putfield 18, 3) := by decide +kernel
theorem dc_8_30 : decode prog_7_method_1_code 30 = .ok (.aload_n 0, 1) := by decide +kernel
theorem dc_8_31 : decode prog_7_method_1_code 31 = .ok (.aload_n 1, 1) := by decide +kernel
theorem dc_8_32 : decode prog_7_method_1_code 32 = .ok (.putfield 21, 3) := by decide +kernel
theorem dc_8_35 : decode prog_7_method_1_code 35 = .ok (.return_, 1) := by decide +kernel
set_option maxHeartbeats 4000000 in
set_option maxRecDepth 100000 in
theorem ci_Orders (l : Launch) (D : va_G) (cI cZ : ClassId) (h0 sz : Nat) (a1 : Nat) : Met l (⟨"PaperedOver$Orders", "<init>", "(LPaperedOver$Facts;)V"⟩ : MethodName) (.code (⟨"PaperedOver$Orders", "<init>", "(LPaperedOver$Facts;)V"⟩ : MethodName) prog_7_method_1_code 2 none :: gtb) ({ frames := 1, cells := 3, slots := 2148, locals := 40 }) (va_Pc [.ref h0, .ref a1] (ci_B D cI cZ h0 (.inr (8, [.null, .int 0, .null, .null, .null])) sz)) (ci_Q (fun u : Nat → Nat => u 0) h0 D (w_Orders cI cZ a1) (va_A [(h0, .inr (8, [.null, .int 0, .null, .null, .null]))] sz)) 3 2148 (va_A [(h0, .inr (8, [.null, .int 0, .null, .null, .null]))] sz) := by
  refine Met.ofW (cc := prog_7_method_1_code) (maxL := 2) (ret := none) (by decide) rfl ?_
  intro p e s m args below meth c s₁ B hml hv
  obtain ⟨rfl, hsz, hP, hK, hD0, hN⟩ := hv
  have hx := B.exec
  have hb := B.bytes
  have hr := B.returns
  have hts := atoms_spec (ws := .code (⟨"PaperedOver$Orders", "<init>", "(LPaperedOver$Facts;)V"⟩ : MethodName) prog_7_method_1_code 2 none :: gtb) B.pre
  have htg := fun w (h : w ∈ gtb) => hts w (List.mem_cons_of_mem _ h)
  have hown : s.vm.findClass "PaperedOver$Orders" = some m.cls := findClass_of_methodNamed B.named
  have hlocks := B.notSynchronized
  have hin : meth.name = "<init>" := (name_of_methodNamed B.named B.method).1
  subst hsz
  have hD := hD0.self (sz := s.heap.size)
  generalize hAe : va_A [(h0, .inr (8, [.null, .int 0, .null, .null, .null]))] s.heap.size = A at hD ⊢
  have hA : ∀ q : Nat, s.heap.size ≤ q → A q := fun q h => by rw [← hAe]; exact Or.inr h
  have hS : va_S A s.heap s.heap [] := va_S.rf
  have hl := lv_entry ([.ref h0, .ref a1]) (n := 2) (Nat.le_of_ble_eq_true rfl)
  rw [lg_entry_eq]
  generalize (lg_sl ([.ref h0, .ref a1]) ++ List.replicate (2 - (lg_sl ([.ref h0, .ref a1])).length) Slot.unset).toArray = ls at hl ⊢
  have hl : lv_has ls 2 [(0, .ref h0), (1, .ref a1)] := hl
  refine lv_aload_n hx hb dc_8_0 rfl (lv_at hl 0 rfl) ?_
  refine W.objInit hx hb hown (htg (.methodLink "PaperedOver$Orders" 3 objectInit) (gm 313 (by decide +kernel) (by decide +kernel))) (htg _ ob_in) (htg _ ob_co) rfl (by rw [hml]; exact hl.1) rfl dc_8_1 (Nat.le_of_ble_eq_true rfl) (Nat.le_of_ble_eq_true rfl) ?_
  refine W.eq (g2 := F0 m 4 ls []) rfl ?_
  refine lv_aload_n hx hb dc_8_4 rfl (lv_at hl 0 rfl) ?_
  refine lv_sipush (v := 1024) hx hb dc_8_5 (by decide +kernel) ?_
  refine ci_newI (N' := 1024) hx hb htg hK hP hD hS hA (by decide +kernel) (by decide +kernel) (by decide +kernel) (Nat.le_of_ble_eq_true rfl) (Nat.le_of_ble_eq_true rfl) dc_8_8 (fun q1 H hP hD hS => ?_)
  refine W.widen (k := 1) (n := 1024) (Nat.le_of_ble_eq_true rfl) (Nat.le_of_ble_eq_true rfl) ?_
  have hP : va_P D am_cls ((h0, .inr (8, [.null, .int 0, .null, .null, .null])) :: ([] ++ [(q1, .inl (cI, 1024, .inl (fun _ => 0)))])) H := hP
  have hD : va_D A ((h0, .inr (8, [.null, .int 0, .null, .null, .null])) :: ([] ++ [(q1, .inl (cI, 1024, .inl (fun _ => 0)))])) := hD
  refine va_putF (D := D) (ci := 8) (v := .ref q1) (ty := .array .int) (C := rc_8) (T := tc_8) (N := 5) hx hb htg uw_8 yc_8 yo_8 nc_8 hown hK hP hD hS 0 rfl rfl 2 (by decide) (htg (.fieldLink "PaperedOver$Orders" 11 "PaperedOver$Orders" "begun" "[I") (gm 317 (by decide +kernel) (by decide +kernel))) (fun _ h9 => h9) rfl hin rfl (by decide +kernel) rfl rfl (Nat.le_of_ble_eq_true rfl) dc_8_10 (fun H locs hP hD hS => ?_)
  have hP : va_P D am_cls ((h0, .inr (8, [.null, .int 0, .ref q1, .null, .null])) :: ([] ++ [(q1, .inl (cI, 1024, .inl (fun _ => 0)))])) H := hP
  have hD : va_D A ((h0, .inr (8, [.null, .int 0, .ref q1, .null, .null])) :: ([] ++ [(q1, .inl (cI, 1024, .inl (fun _ => 0)))])) := hD
  refine lv_aload_n hx hb dc_8_13 rfl (lv_at hl 0 rfl) ?_
  refine lv_sipush (v := 1024) hx hb dc_8_14 (by decide +kernel) ?_
  refine ci_newI (N' := 1024) hx hb htg hK hP hD hS hA (by decide +kernel) (by decide +kernel) (by decide +kernel) (Nat.le_of_ble_eq_true rfl) (Nat.le_of_ble_eq_true rfl) dc_8_17 (fun q2 H hP hD hS => ?_)
  refine W.widen (k := 2) (n := 2048) (Nat.le_of_ble_eq_true rfl) (Nat.le_of_ble_eq_true rfl) ?_
  have hP : va_P D am_cls ((h0, .inr (8, [.null, .int 0, .ref q1, .null, .null])) :: (([] ++ [(q1, .inl (cI, 1024, .inl (fun _ => 0)))]) ++ [(q2, .inl (cI, 1024, .inl (fun _ => 0)))])) H := hP
  have hD : va_D A ((h0, .inr (8, [.null, .int 0, .ref q1, .null, .null])) :: (([] ++ [(q1, .inl (cI, 1024, .inl (fun _ => 0)))]) ++ [(q2, .inl (cI, 1024, .inl (fun _ => 0)))])) := hD
  refine va_putF (D := D) (ci := 8) (v := .ref q2) (ty := .array .int) (C := rc_8) (T := tc_8) (N := 5) hx hb htg uw_8 yc_8 yo_8 nc_8 hown hK hP hD hS 0 rfl rfl 3 (by decide) (htg (.fieldLink "PaperedOver$Orders" 15 "PaperedOver$Orders" "ended" "[I") (gm 318 (by decide +kernel) (by decide +kernel))) (fun _ h9 => h9) rfl hin rfl (by decide +kernel) rfl rfl (Nat.le_of_ble_eq_true rfl) dc_8_19 (fun H locs hP hD hS => ?_)
  have hP : va_P D am_cls ((h0, .inr (8, [.null, .int 0, .ref q1, .ref q2, .null])) :: (([] ++ [(q1, .inl (cI, 1024, .inl (fun _ => 0)))]) ++ [(q2, .inl (cI, 1024, .inl (fun _ => 0)))])) H := hP
  have hD : va_D A ((h0, .inr (8, [.null, .int 0, .ref q1, .ref q2, .null])) :: (([] ++ [(q1, .inl (cI, 1024, .inl (fun _ => 0)))]) ++ [(q2, .inl (cI, 1024, .inl (fun _ => 0)))])) := hD
  refine lv_aload_n hx hb dc_8_22 rfl (lv_at hl 0 rfl) ?_
  refine lv_bipush (v := 100) hx hb dc_8_23 (by decide +kernel) ?_
  refine ci_newI (N' := 100) hx hb htg hK hP hD hS hA (by decide +kernel) (by decide +kernel) (by decide +kernel) (Nat.le_of_ble_eq_true rfl) (Nat.le_of_ble_eq_true rfl) dc_8_25 (fun q3 H hP hD hS => ?_)
  refine W.widen (k := 3) (n := 2148) (Nat.le_of_ble_eq_true rfl) (Nat.le_of_ble_eq_true rfl) ?_
  have hP : va_P D am_cls ((h0, .inr (8, [.null, .int 0, .ref q1, .ref q2, .null])) :: ((([] ++ [(q1, .inl (cI, 1024, .inl (fun _ => 0)))]) ++ [(q2, .inl (cI, 1024, .inl (fun _ => 0)))]) ++ [(q3, .inl (cI, 100, .inl (fun _ => 0)))])) H := hP
  have hD : va_D A ((h0, .inr (8, [.null, .int 0, .ref q1, .ref q2, .null])) :: ((([] ++ [(q1, .inl (cI, 1024, .inl (fun _ => 0)))]) ++ [(q2, .inl (cI, 1024, .inl (fun _ => 0)))]) ++ [(q3, .inl (cI, 100, .inl (fun _ => 0)))])) := hD
  refine va_putF (D := D) (ci := 8) (v := .ref q3) (ty := .array .int) (C := rc_8) (T := tc_8) (N := 5) hx hb htg uw_8 yc_8 yo_8 nc_8 hown hK hP hD hS 0 rfl rfl 4 (by decide) (htg (.fieldLink "PaperedOver$Orders" 18 "PaperedOver$Orders" "pairs" "[I") (gm 319 (by decide +kernel) (by decide +kernel))) (fun _ h9 => h9) rfl hin rfl (by decide +kernel) rfl rfl (Nat.le_of_ble_eq_true rfl) dc_8_27 (fun H locs hP hD hS => ?_)
  have hP : va_P D am_cls ((h0, .inr (8, [.null, .int 0, .ref q1, .ref q2, .ref q3])) :: ((([] ++ [(q1, .inl (cI, 1024, .inl (fun _ => 0)))]) ++ [(q2, .inl (cI, 1024, .inl (fun _ => 0)))]) ++ [(q3, .inl (cI, 100, .inl (fun _ => 0)))])) H := hP
  have hD : va_D A ((h0, .inr (8, [.null, .int 0, .ref q1, .ref q2, .ref q3])) :: ((([] ++ [(q1, .inl (cI, 1024, .inl (fun _ => 0)))]) ++ [(q2, .inl (cI, 1024, .inl (fun _ => 0)))]) ++ [(q3, .inl (cI, 100, .inl (fun _ => 0)))])) := hD
  refine lv_aload_n hx hb dc_8_30 rfl (lv_at hl 0 rfl) ?_
  refine lv_aload_n hx hb dc_8_31 rfl (lv_at hl 1 rfl) ?_
  refine va_putF (D := D) (ci := 8) (v := .ref a1) (ty := .object "PaperedOver$Facts") (C := rc_8) (T := tc_8) (N := 5) hx hb htg uw_8 yc_8 yo_8 nc_8 hown hK hP hD hS 0 rfl rfl 0 (by decide) (htg (.fieldLink "PaperedOver$Orders" 21 "PaperedOver$Orders" "facts" "LPaperedOver$Facts;") (gm 314 (by decide +kernel) (by decide +kernel))) (fun _ h9 => h9) rfl hin rfl (by decide +kernel) rfl rfl (Nat.le_of_ble_eq_true rfl) dc_8_32 (fun H locs hP hD hS => ?_)
  have hP : va_P D am_cls ((h0, .inr (8, [.ref a1, .int 0, .ref q1, .ref q2, .ref q3])) :: ((([] ++ [(q1, .inl (cI, 1024, .inl (fun _ => 0)))]) ++ [(q2, .inl (cI, 1024, .inl (fun _ => 0)))]) ++ [(q3, .inl (cI, 100, .inl (fun _ => 0)))])) H := hP
  have hD : va_D A ((h0, .inr (8, [.ref a1, .int 0, .ref q1, .ref q2, .ref q3])) :: ((([] ++ [(q1, .inl (cI, 1024, .inl (fun _ => 0)))]) ++ [(q2, .inl (cI, 1024, .inl (fun _ => 0)))]) ++ [(q3, .inl (cI, 100, .inl (fun _ => 0)))])) := hD
  have hP9 : va_P D am_cls (w_Orders cI cZ a1 (fun k => [h0, q1, q2, q3].getD k 0)) _ := hP
  have hD9 : va_D A (w_Orders cI cZ a1 (fun k => [h0, q1, q2, q3].getD k 0)) := hD
  exact W.vret hx hb hr (fun t ht hW => ⟨⟨(fun k => [h0, q1, q2, q3].getD k 0), rfl, rfl, by rw [ht]; exact hP9, hD9⟩, hS.F ht⟩) hS.2.2 dc_8_35
def w_Rows (cI cZ : ClassId) (u : Nat → Nat) : va_W := [(u 0, .inr (1, [.ref (u 1), .ref (u 2), .ref (u 3), .ref (u 4)])), (u 1, .inl (cZ, 8, .inl (fun _ => 0))), (u 2, .inl (cI, 8, .inl (fun _ => 0))), (u 3, .inl (cI, 8, .inl (fun _ => 0))), (u 4, .inl (cI, 320, .inl (fun _ => 0)))]
theorem dc_1_0 : decode prog_9_method_1_code 0 = .ok (.aload_n 0, 1) := by decide +kernel
theorem dc_1_1 : decode prog_9_method_1_code 1 = .ok (.invokespecial 3, 3) := by decide +kernel
theorem dc_1_4 : decode prog_9_method_1_code 4 = .ok (.aload_n 0, 1) := by decide +kernel
theorem dc_1_5 : decode prog_9_method_1_code 5 = .ok (.bipush 8, 2) := by decide +kernel
theorem dc_1_7 : decode prog_9_method_1_code 7 = .ok (.newarray .boolean, 2) := by decide +kernel
theorem dc_1_9 : decode prog_9_method_1_code 9 = .ok (.putfield 11, 3) := by decide +kernel
theorem dc_1_12 : decode prog_9_method_1_code 12 = .ok (.aload_n 0, 1) := by decide +kernel
theorem dc_1_13 : decode prog_9_method_1_code 13 = .ok (.bipush 8, 2) := by decide +kernel
theorem dc_1_15 : decode prog_9_method_1_code 15 = .ok (.newarray .int, 2) := by decide +kernel
theorem dc_1_17 : decode prog_9_method_1_code 17 = .ok (.putfield 15, 3) := by decide +kernel
theorem dc_1_20 : decode prog_9_method_1_code 20 = .ok (.aload_n 0, 1) := by decide +kernel
theorem dc_1_21 : decode prog_9_method_1_code 21 = .ok (.bipush 8, 2) := by decide +kernel
theorem dc_1_23 : decode prog_9_method_1_code 23 = .ok (.newarray .int, 2) := by decide +kernel
theorem dc_1_25 : decode prog_9_method_1_code 25 = .ok (.putfield 19, 3) := by decide +kernel
theorem dc_1_28 : decode prog_9_method_1_code 28 = .ok (.aload_n 0, 1) := by decide +kernel
theorem dc_1_29 : decode prog_9_method_1_code 29 = .ok (.sipush 320, 3) := by decide +kernel
theorem dc_1_32 : decode prog_9_method_1_code 32 = .ok (.newarray .int, 2) := by decide +kernel
theorem dc_1_34 : decode prog_9_method_1_code 34 = .ok (.putfield 22, 3) := by decide +kernel
theorem dc_1_37 : decode prog_9_method_1_code 37 = .ok (.return_, 1) := by decide +kernel
set_option maxHeartbeats 4000000 in
set_option maxRecDepth 100000 in
theorem ci_Rows (l : Launch) (D : va_G) (cI cZ : ClassId) (h0 sz : Nat) : Met l (⟨"PaperedOver$Rows", "<init>", "()V"⟩ : MethodName) (.code (⟨"PaperedOver$Rows", "<init>", "()V"⟩ : MethodName) prog_9_method_1_code 1 none :: gtb) ({ frames := 1, cells := 4, slots := 344, locals := 40 }) (va_Pc [.ref h0] (ci_B D cI cZ h0 (.inr (1, [.null, .null, .null, .null])) sz)) (ci_Q (fun u : Nat → Nat => u 0) h0 D (w_Rows cI cZ) (va_A [(h0, .inr (1, [.null, .null, .null, .null]))] sz)) 4 344 (va_A [(h0, .inr (1, [.null, .null, .null, .null]))] sz) := by
  refine Met.ofW (cc := prog_9_method_1_code) (maxL := 1) (ret := none) (by decide) rfl ?_
  intro p e s m args below meth c s₁ B hml hv
  obtain ⟨rfl, hsz, hP, hK, hD0, hN⟩ := hv
  have hx := B.exec
  have hb := B.bytes
  have hr := B.returns
  have hts := atoms_spec (ws := .code (⟨"PaperedOver$Rows", "<init>", "()V"⟩ : MethodName) prog_9_method_1_code 1 none :: gtb) B.pre
  have htg := fun w (h : w ∈ gtb) => hts w (List.mem_cons_of_mem _ h)
  have hown : s.vm.findClass "PaperedOver$Rows" = some m.cls := findClass_of_methodNamed B.named
  have hlocks := B.notSynchronized
  have hin : meth.name = "<init>" := (name_of_methodNamed B.named B.method).1
  subst hsz
  have hD := hD0.self (sz := s.heap.size)
  generalize hAe : va_A [(h0, .inr (1, [.null, .null, .null, .null]))] s.heap.size = A at hD ⊢
  have hA : ∀ q : Nat, s.heap.size ≤ q → A q := fun q h => by rw [← hAe]; exact Or.inr h
  have hS : va_S A s.heap s.heap [] := va_S.rf
  have hl := lv_entry ([.ref h0]) (n := 1) (Nat.le_of_ble_eq_true rfl)
  rw [lg_entry_eq]
  generalize (lg_sl ([.ref h0]) ++ List.replicate (1 - (lg_sl ([.ref h0])).length) Slot.unset).toArray = ls at hl ⊢
  have hl : lv_has ls 1 [(0, .ref h0)] := hl
  refine lv_aload_n hx hb dc_1_0 rfl (lv_at hl 0 rfl) ?_
  refine W.objInit hx hb hown (htg (.methodLink "PaperedOver$Rows" 3 objectInit) (gm 74 (by decide +kernel) (by decide +kernel))) (htg _ ob_in) (htg _ ob_co) rfl (by rw [hml]; exact hl.1) rfl dc_1_1 (Nat.le_of_ble_eq_true rfl) (Nat.le_of_ble_eq_true rfl) ?_
  refine W.eq (g2 := F0 m 4 ls []) rfl ?_
  refine lv_aload_n hx hb dc_1_4 rfl (lv_at hl 0 rfl) ?_
  refine lv_bipush (v := 8) hx hb dc_1_5 (by decide +kernel) ?_
  refine ci_newZ (N' := 8) hx hb htg hK hP hD hS hA (by decide +kernel) (by decide +kernel) (by decide +kernel) (Nat.le_of_ble_eq_true rfl) (Nat.le_of_ble_eq_true rfl) dc_1_7 (fun q1 H hP hD hS => ?_)
  refine W.widen (k := 1) (n := 8) (Nat.le_of_ble_eq_true rfl) (Nat.le_of_ble_eq_true rfl) ?_
  have hP : va_P D am_cls ((h0, .inr (1, [.null, .null, .null, .null])) :: ([] ++ [(q1, .inl (cZ, 8, .inl (fun _ => 0)))])) H := hP
  have hD : va_D A ((h0, .inr (1, [.null, .null, .null, .null])) :: ([] ++ [(q1, .inl (cZ, 8, .inl (fun _ => 0)))])) := hD
  refine va_putF (D := D) (ci := 1) (v := .ref q1) (ty := .array .boolean) (C := rc_1) (T := tc_1) (N := 4) hx hb htg uw_1 yc_1 yo_1 nc_1 hown hK hP hD hS 0 rfl rfl 0 (by decide) (htg (.fieldLink "PaperedOver$Rows" 11 "PaperedOver$Rows" "there" "[Z") (gm 75 (by decide +kernel) (by decide +kernel))) (fun _ h9 => h9) rfl hin rfl (by decide +kernel) rfl rfl (Nat.le_of_ble_eq_true rfl) dc_1_9 (fun H locs hP hD hS => ?_)
  have hP : va_P D am_cls ((h0, .inr (1, [.ref q1, .null, .null, .null])) :: ([] ++ [(q1, .inl (cZ, 8, .inl (fun _ => 0)))])) H := hP
  have hD : va_D A ((h0, .inr (1, [.ref q1, .null, .null, .null])) :: ([] ++ [(q1, .inl (cZ, 8, .inl (fun _ => 0)))])) := hD
  refine lv_aload_n hx hb dc_1_12 rfl (lv_at hl 0 rfl) ?_
  refine lv_bipush (v := 8) hx hb dc_1_13 (by decide +kernel) ?_
  refine ci_newI (N' := 8) hx hb htg hK hP hD hS hA (by decide +kernel) (by decide +kernel) (by decide +kernel) (Nat.le_of_ble_eq_true rfl) (Nat.le_of_ble_eq_true rfl) dc_1_15 (fun q2 H hP hD hS => ?_)
  refine W.widen (k := 2) (n := 16) (Nat.le_of_ble_eq_true rfl) (Nat.le_of_ble_eq_true rfl) ?_
  have hP : va_P D am_cls ((h0, .inr (1, [.ref q1, .null, .null, .null])) :: (([] ++ [(q1, .inl (cZ, 8, .inl (fun _ => 0)))]) ++ [(q2, .inl (cI, 8, .inl (fun _ => 0)))])) H := hP
  have hD : va_D A ((h0, .inr (1, [.ref q1, .null, .null, .null])) :: (([] ++ [(q1, .inl (cZ, 8, .inl (fun _ => 0)))]) ++ [(q2, .inl (cI, 8, .inl (fun _ => 0)))])) := hD
  refine va_putF (D := D) (ci := 1) (v := .ref q2) (ty := .array .int) (C := rc_1) (T := tc_1) (N := 4) hx hb htg uw_1 yc_1 yo_1 nc_1 hown hK hP hD hS 0 rfl rfl 1 (by decide) (htg (.fieldLink "PaperedOver$Rows" 15 "PaperedOver$Rows" "lanes" "[I") (gm 76 (by decide +kernel) (by decide +kernel))) (fun _ h9 => h9) rfl hin rfl (by decide +kernel) rfl rfl (Nat.le_of_ble_eq_true rfl) dc_1_17 (fun H locs hP hD hS => ?_)
  have hP : va_P D am_cls ((h0, .inr (1, [.ref q1, .ref q2, .null, .null])) :: (([] ++ [(q1, .inl (cZ, 8, .inl (fun _ => 0)))]) ++ [(q2, .inl (cI, 8, .inl (fun _ => 0)))])) H := hP
  have hD : va_D A ((h0, .inr (1, [.ref q1, .ref q2, .null, .null])) :: (([] ++ [(q1, .inl (cZ, 8, .inl (fun _ => 0)))]) ++ [(q2, .inl (cI, 8, .inl (fun _ => 0)))])) := hD
  refine lv_aload_n hx hb dc_1_20 rfl (lv_at hl 0 rfl) ?_
  refine lv_bipush (v := 8) hx hb dc_1_21 (by decide +kernel) ?_
  refine ci_newI (N' := 8) hx hb htg hK hP hD hS hA (by decide +kernel) (by decide +kernel) (by decide +kernel) (Nat.le_of_ble_eq_true rfl) (Nat.le_of_ble_eq_true rfl) dc_1_23 (fun q3 H hP hD hS => ?_)
  refine W.widen (k := 3) (n := 24) (Nat.le_of_ble_eq_true rfl) (Nat.le_of_ble_eq_true rfl) ?_
  have hP : va_P D am_cls ((h0, .inr (1, [.ref q1, .ref q2, .null, .null])) :: ((([] ++ [(q1, .inl (cZ, 8, .inl (fun _ => 0)))]) ++ [(q2, .inl (cI, 8, .inl (fun _ => 0)))]) ++ [(q3, .inl (cI, 8, .inl (fun _ => 0)))])) H := hP
  have hD : va_D A ((h0, .inr (1, [.ref q1, .ref q2, .null, .null])) :: ((([] ++ [(q1, .inl (cZ, 8, .inl (fun _ => 0)))]) ++ [(q2, .inl (cI, 8, .inl (fun _ => 0)))]) ++ [(q3, .inl (cI, 8, .inl (fun _ => 0)))])) := hD
  refine va_putF (D := D) (ci := 1) (v := .ref q3) (ty := .array .int) (C := rc_1) (T := tc_1) (N := 4) hx hb htg uw_1 yc_1 yo_1 nc_1 hown hK hP hD hS 0 rfl rfl 2 (by decide) (htg (.fieldLink "PaperedOver$Rows" 19 "PaperedOver$Rows" "sizes" "[I") (gm 77 (by decide +kernel) (by decide +kernel))) (fun _ h9 => h9) rfl hin rfl (by decide +kernel) rfl rfl (Nat.le_of_ble_eq_true rfl) dc_1_25 (fun H locs hP hD hS => ?_)
  have hP : va_P D am_cls ((h0, .inr (1, [.ref q1, .ref q2, .ref q3, .null])) :: ((([] ++ [(q1, .inl (cZ, 8, .inl (fun _ => 0)))]) ++ [(q2, .inl (cI, 8, .inl (fun _ => 0)))]) ++ [(q3, .inl (cI, 8, .inl (fun _ => 0)))])) H := hP
  have hD : va_D A ((h0, .inr (1, [.ref q1, .ref q2, .ref q3, .null])) :: ((([] ++ [(q1, .inl (cZ, 8, .inl (fun _ => 0)))]) ++ [(q2, .inl (cI, 8, .inl (fun _ => 0)))]) ++ [(q3, .inl (cI, 8, .inl (fun _ => 0)))])) := hD
  refine lv_aload_n hx hb dc_1_28 rfl (lv_at hl 0 rfl) ?_
  refine lv_sipush (v := 320) hx hb dc_1_29 (by decide +kernel) ?_
  refine ci_newI (N' := 320) hx hb htg hK hP hD hS hA (by decide +kernel) (by decide +kernel) (by decide +kernel) (Nat.le_of_ble_eq_true rfl) (Nat.le_of_ble_eq_true rfl) dc_1_32 (fun q4 H hP hD hS => ?_)
  refine W.widen (k := 4) (n := 344) (Nat.le_of_ble_eq_true rfl) (Nat.le_of_ble_eq_true rfl) ?_
  have hP : va_P D am_cls ((h0, .inr (1, [.ref q1, .ref q2, .ref q3, .null])) :: (((([] ++ [(q1, .inl (cZ, 8, .inl (fun _ => 0)))]) ++ [(q2, .inl (cI, 8, .inl (fun _ => 0)))]) ++ [(q3, .inl (cI, 8, .inl (fun _ => 0)))]) ++ [(q4, .inl (cI, 320, .inl (fun _ => 0)))])) H := hP
  have hD : va_D A ((h0, .inr (1, [.ref q1, .ref q2, .ref q3, .null])) :: (((([] ++ [(q1, .inl (cZ, 8, .inl (fun _ => 0)))]) ++ [(q2, .inl (cI, 8, .inl (fun _ => 0)))]) ++ [(q3, .inl (cI, 8, .inl (fun _ => 0)))]) ++ [(q4, .inl (cI, 320, .inl (fun _ => 0)))])) := hD
  refine va_putF (D := D) (ci := 1) (v := .ref q4) (ty := .array .int) (C := rc_1) (T := tc_1) (N := 4) hx hb htg uw_1 yc_1 yo_1 nc_1 hown hK hP hD hS 0 rfl rfl 3 (by decide) (htg (.fieldLink "PaperedOver$Rows" 22 "PaperedOver$Rows" "items" "[I") (gm 78 (by decide +kernel) (by decide +kernel))) (fun _ h9 => h9) rfl hin rfl (by decide +kernel) rfl rfl (Nat.le_of_ble_eq_true rfl) dc_1_34 (fun H locs hP hD hS => ?_)
  have hP : va_P D am_cls ((h0, .inr (1, [.ref q1, .ref q2, .ref q3, .ref q4])) :: (((([] ++ [(q1, .inl (cZ, 8, .inl (fun _ => 0)))]) ++ [(q2, .inl (cI, 8, .inl (fun _ => 0)))]) ++ [(q3, .inl (cI, 8, .inl (fun _ => 0)))]) ++ [(q4, .inl (cI, 320, .inl (fun _ => 0)))])) H := hP
  have hD : va_D A ((h0, .inr (1, [.ref q1, .ref q2, .ref q3, .ref q4])) :: (((([] ++ [(q1, .inl (cZ, 8, .inl (fun _ => 0)))]) ++ [(q2, .inl (cI, 8, .inl (fun _ => 0)))]) ++ [(q3, .inl (cI, 8, .inl (fun _ => 0)))]) ++ [(q4, .inl (cI, 320, .inl (fun _ => 0)))])) := hD
  have hP9 : va_P D am_cls (w_Rows cI cZ (fun k => [h0, q1, q2, q3, q4].getD k 0)) _ := hP
  have hD9 : va_D A (w_Rows cI cZ (fun k => [h0, q1, q2, q3, q4].getD k 0)) := hD
  exact W.vret hx hb hr (fun t ht hW => ⟨⟨(fun k => [h0, q1, q2, q3, q4].getD k 0), rfl, rfl, by rw [ht]; exact hP9, hD9⟩, hS.F ht⟩) hS.2.2 dc_1_37
def w_Spots (cI cZ : ClassId) (u : Nat → Nat) : va_W := [(u 0, .inr (5, [.int 0, .ref (u 1), .ref (u 2), .ref (u 3)])), (u 1, .inl (cI, 9, .inl (fun _ => 0))), (u 2, .inl (cI, 9, .inl (fun _ => 0))), (u 3, .inl (cI, 72, .inl (fun _ => 0)))]
theorem dc_5_0 : decode prog_10_method_1_code 0 = .ok (.aload_n 0, 1) := by decide +kernel
theorem dc_5_1 : decode prog_10_method_1_code 1 = .ok (.invokespecial 3, 3) := by decide +kernel
theorem dc_5_4 : decode prog_10_method_1_code 4 = .ok (.aload_n 0, 1) := by decide +kernel
theorem dc_5_5 : decode prog_10_method_1_code 5 = .ok (.bipush 9, 2) := by decide +kernel
theorem dc_5_7 : decode prog_10_method_1_code 7 = .ok (.newarray .int, 2) := by decide +kernel
theorem dc_5_9 : decode prog_10_method_1_code 9 = .ok (.putfield 11, 3) := by decide +kernel
theorem dc_5_12 : decode prog_10_method_1_code 12 = .ok (.aload_n 0, 1) := by decide +kernel
theorem dc_5_13 : decode prog_10_method_1_code 13 = .ok (.bipush 9, 2) := by decide +kernel
theorem dc_5_15 : decode prog_10_method_1_code 15 = .ok (.newarray .int, 2) := by decide +kernel
theorem dc_5_17 : decode prog_10_method_1_code 17 = .ok (.putfield 15, 3) := by decide +kernel
theorem dc_5_20 : decode prog_10_method_1_code 20 = .ok (.aload_n 0, 1) := by decide +kernel
theorem dc_5_21 : decode prog_10_method_1_code 21 = .ok (.bipush 72, 2) := by decide +kernel
theorem dc_5_23 : decode prog_10_method_1_code 23 = .ok (.newarray .int, 2) := by decide +kernel
theorem dc_5_25 : decode prog_10_method_1_code 25 = .ok (.putfield 18, 3) := by decide +kernel
theorem dc_5_28 : decode prog_10_method_1_code 28 = .ok (.return_, 1) := by decide +kernel
set_option maxHeartbeats 4000000 in
set_option maxRecDepth 100000 in
theorem ci_Spots (l : Launch) (D : va_G) (cI cZ : ClassId) (h0 sz : Nat) : Met l (⟨"PaperedOver$Spots", "<init>", "()V"⟩ : MethodName) (.code (⟨"PaperedOver$Spots", "<init>", "()V"⟩ : MethodName) prog_10_method_1_code 1 none :: gtb) ({ frames := 1, cells := 3, slots := 90, locals := 40 }) (va_Pc [.ref h0] (ci_B D cI cZ h0 (.inr (5, [.int 0, .null, .null, .null])) sz)) (ci_Q (fun u : Nat → Nat => u 0) h0 D (w_Spots cI cZ) (va_A [(h0, .inr (5, [.int 0, .null, .null, .null]))] sz)) 3 90 (va_A [(h0, .inr (5, [.int 0, .null, .null, .null]))] sz) := by
  refine Met.ofW (cc := prog_10_method_1_code) (maxL := 1) (ret := none) (by decide) rfl ?_
  intro p e s m args below meth c s₁ B hml hv
  obtain ⟨rfl, hsz, hP, hK, hD0, hN⟩ := hv
  have hx := B.exec
  have hb := B.bytes
  have hr := B.returns
  have hts := atoms_spec (ws := .code (⟨"PaperedOver$Spots", "<init>", "()V"⟩ : MethodName) prog_10_method_1_code 1 none :: gtb) B.pre
  have htg := fun w (h : w ∈ gtb) => hts w (List.mem_cons_of_mem _ h)
  have hown : s.vm.findClass "PaperedOver$Spots" = some m.cls := findClass_of_methodNamed B.named
  have hlocks := B.notSynchronized
  have hin : meth.name = "<init>" := (name_of_methodNamed B.named B.method).1
  subst hsz
  have hD := hD0.self (sz := s.heap.size)
  generalize hAe : va_A [(h0, .inr (5, [.int 0, .null, .null, .null]))] s.heap.size = A at hD ⊢
  have hA : ∀ q : Nat, s.heap.size ≤ q → A q := fun q h => by rw [← hAe]; exact Or.inr h
  have hS : va_S A s.heap s.heap [] := va_S.rf
  have hl := lv_entry ([.ref h0]) (n := 1) (Nat.le_of_ble_eq_true rfl)
  rw [lg_entry_eq]
  generalize (lg_sl ([.ref h0]) ++ List.replicate (1 - (lg_sl ([.ref h0])).length) Slot.unset).toArray = ls at hl ⊢
  have hl : lv_has ls 1 [(0, .ref h0)] := hl
  refine lv_aload_n hx hb dc_5_0 rfl (lv_at hl 0 rfl) ?_
  refine W.objInit hx hb hown (htg (.methodLink "PaperedOver$Spots" 3 objectInit) (gm 223 (by decide +kernel) (by decide +kernel))) (htg _ ob_in) (htg _ ob_co) rfl (by rw [hml]; exact hl.1) rfl dc_5_1 (Nat.le_of_ble_eq_true rfl) (Nat.le_of_ble_eq_true rfl) ?_
  refine W.eq (g2 := F0 m 4 ls []) rfl ?_
  refine lv_aload_n hx hb dc_5_4 rfl (lv_at hl 0 rfl) ?_
  refine lv_bipush (v := 9) hx hb dc_5_5 (by decide +kernel) ?_
  refine ci_newI (N' := 9) hx hb htg hK hP hD hS hA (by decide +kernel) (by decide +kernel) (by decide +kernel) (Nat.le_of_ble_eq_true rfl) (Nat.le_of_ble_eq_true rfl) dc_5_7 (fun q1 H hP hD hS => ?_)
  refine W.widen (k := 1) (n := 9) (Nat.le_of_ble_eq_true rfl) (Nat.le_of_ble_eq_true rfl) ?_
  have hP : va_P D am_cls ((h0, .inr (5, [.int 0, .null, .null, .null])) :: ([] ++ [(q1, .inl (cI, 9, .inl (fun _ => 0)))])) H := hP
  have hD : va_D A ((h0, .inr (5, [.int 0, .null, .null, .null])) :: ([] ++ [(q1, .inl (cI, 9, .inl (fun _ => 0)))])) := hD
  refine va_putF (D := D) (ci := 5) (v := .ref q1) (ty := .array .int) (C := rc_5) (T := tc_5) (N := 4) hx hb htg uw_5 yc_5 yo_5 nc_5 hown hK hP hD hS 0 rfl rfl 1 (by decide) (htg (.fieldLink "PaperedOver$Spots" 11 "PaperedOver$Spots" "walls" "[I") (gm 227 (by decide +kernel) (by decide +kernel))) (fun _ h9 => h9) rfl hin rfl (by decide +kernel) rfl rfl (Nat.le_of_ble_eq_true rfl) dc_5_9 (fun H locs hP hD hS => ?_)
  have hP : va_P D am_cls ((h0, .inr (5, [.int 0, .ref q1, .null, .null])) :: ([] ++ [(q1, .inl (cI, 9, .inl (fun _ => 0)))])) H := hP
  have hD : va_D A ((h0, .inr (5, [.int 0, .ref q1, .null, .null])) :: ([] ++ [(q1, .inl (cI, 9, .inl (fun _ => 0)))])) := hD
  refine lv_aload_n hx hb dc_5_12 rfl (lv_at hl 0 rfl) ?_
  refine lv_bipush (v := 9) hx hb dc_5_13 (by decide +kernel) ?_
  refine ci_newI (N' := 9) hx hb htg hK hP hD hS hA (by decide +kernel) (by decide +kernel) (by decide +kernel) (Nat.le_of_ble_eq_true rfl) (Nat.le_of_ble_eq_true rfl) dc_5_15 (fun q2 H hP hD hS => ?_)
  refine W.widen (k := 2) (n := 18) (Nat.le_of_ble_eq_true rfl) (Nat.le_of_ble_eq_true rfl) ?_
  have hP : va_P D am_cls ((h0, .inr (5, [.int 0, .ref q1, .null, .null])) :: (([] ++ [(q1, .inl (cI, 9, .inl (fun _ => 0)))]) ++ [(q2, .inl (cI, 9, .inl (fun _ => 0)))])) H := hP
  have hD : va_D A ((h0, .inr (5, [.int 0, .ref q1, .null, .null])) :: (([] ++ [(q1, .inl (cI, 9, .inl (fun _ => 0)))]) ++ [(q2, .inl (cI, 9, .inl (fun _ => 0)))])) := hD
  refine va_putF (D := D) (ci := 5) (v := .ref q2) (ty := .array .int) (C := rc_5) (T := tc_5) (N := 4) hx hb htg uw_5 yc_5 yo_5 nc_5 hown hK hP hD hS 0 rfl rfl 2 (by decide) (htg (.fieldLink "PaperedOver$Spots" 15 "PaperedOver$Spots" "depths" "[I") (gm 228 (by decide +kernel) (by decide +kernel))) (fun _ h9 => h9) rfl hin rfl (by decide +kernel) rfl rfl (Nat.le_of_ble_eq_true rfl) dc_5_17 (fun H locs hP hD hS => ?_)
  have hP : va_P D am_cls ((h0, .inr (5, [.int 0, .ref q1, .ref q2, .null])) :: (([] ++ [(q1, .inl (cI, 9, .inl (fun _ => 0)))]) ++ [(q2, .inl (cI, 9, .inl (fun _ => 0)))])) H := hP
  have hD : va_D A ((h0, .inr (5, [.int 0, .ref q1, .ref q2, .null])) :: (([] ++ [(q1, .inl (cI, 9, .inl (fun _ => 0)))]) ++ [(q2, .inl (cI, 9, .inl (fun _ => 0)))])) := hD
  refine lv_aload_n hx hb dc_5_20 rfl (lv_at hl 0 rfl) ?_
  refine lv_bipush (v := 72) hx hb dc_5_21 (by decide +kernel) ?_
  refine ci_newI (N' := 72) hx hb htg hK hP hD hS hA (by decide +kernel) (by decide +kernel) (by decide +kernel) (Nat.le_of_ble_eq_true rfl) (Nat.le_of_ble_eq_true rfl) dc_5_23 (fun q3 H hP hD hS => ?_)
  refine W.widen (k := 3) (n := 90) (Nat.le_of_ble_eq_true rfl) (Nat.le_of_ble_eq_true rfl) ?_
  have hP : va_P D am_cls ((h0, .inr (5, [.int 0, .ref q1, .ref q2, .null])) :: ((([] ++ [(q1, .inl (cI, 9, .inl (fun _ => 0)))]) ++ [(q2, .inl (cI, 9, .inl (fun _ => 0)))]) ++ [(q3, .inl (cI, 72, .inl (fun _ => 0)))])) H := hP
  have hD : va_D A ((h0, .inr (5, [.int 0, .ref q1, .ref q2, .null])) :: ((([] ++ [(q1, .inl (cI, 9, .inl (fun _ => 0)))]) ++ [(q2, .inl (cI, 9, .inl (fun _ => 0)))]) ++ [(q3, .inl (cI, 72, .inl (fun _ => 0)))])) := hD
  refine va_putF (D := D) (ci := 5) (v := .ref q3) (ty := .array .int) (C := rc_5) (T := tc_5) (N := 4) hx hb htg uw_5 yc_5 yo_5 nc_5 hown hK hP hD hS 0 rfl rfl 3 (by decide) (htg (.fieldLink "PaperedOver$Spots" 18 "PaperedOver$Spots" "layers" "[I") (gm 229 (by decide +kernel) (by decide +kernel))) (fun _ h9 => h9) rfl hin rfl (by decide +kernel) rfl rfl (Nat.le_of_ble_eq_true rfl) dc_5_25 (fun H locs hP hD hS => ?_)
  have hP : va_P D am_cls ((h0, .inr (5, [.int 0, .ref q1, .ref q2, .ref q3])) :: ((([] ++ [(q1, .inl (cI, 9, .inl (fun _ => 0)))]) ++ [(q2, .inl (cI, 9, .inl (fun _ => 0)))]) ++ [(q3, .inl (cI, 72, .inl (fun _ => 0)))])) H := hP
  have hD : va_D A ((h0, .inr (5, [.int 0, .ref q1, .ref q2, .ref q3])) :: ((([] ++ [(q1, .inl (cI, 9, .inl (fun _ => 0)))]) ++ [(q2, .inl (cI, 9, .inl (fun _ => 0)))]) ++ [(q3, .inl (cI, 72, .inl (fun _ => 0)))])) := hD
  have hP9 : va_P D am_cls (w_Spots cI cZ (fun k => [h0, q1, q2, q3].getD k 0)) _ := hP
  have hD9 : va_D A (w_Spots cI cZ (fun k => [h0, q1, q2, q3].getD k 0)) := hD
  exact W.vret hx hb hr (fun t ht hW => ⟨⟨(fun k => [h0, q1, q2, q3].getD k 0), rfl, rfl, by rw [ht]; exact hP9, hD9⟩, hS.F ht⟩) hS.2.2 dc_5_28
def w_Tape (cI cZ : ClassId) (u : Nat → Nat) : va_W := [(u 0, .inr (2, [.ref (u 1), .int 0])), (u 1, .inl (cI, 500, .inl (fun _ => 0)))]
theorem dc_2_0 : decode prog_11_method_1_code 0 = .ok (.aload_n 0, 1) := by decide +kernel
theorem dc_2_1 : decode prog_11_method_1_code 1 = .ok (.invokespecial 1, 3) := by decide +kernel
theorem dc_2_4 : decode prog_11_method_1_code 4 = .ok (.aload_n 0, 1) := by decide +kernel
theorem dc_2_5 : decode prog_11_method_1_code 5 = .ok (.sipush 500, 3) := by decide +kernel
theorem dc_2_8 : decode prog_11_method_1_code 8 = .ok (.newarray .int, 2) := by decide +kernel
theorem dc_2_10 : decode prog_11_method_1_code 10 = .ok (.putfield 9, 3) := by decide +kernel
theorem dc_2_13 : decode prog_11_method_1_code 13 = .ok (.return_, 1) := by decide +kernel
set_option maxHeartbeats 4000000 in
set_option maxRecDepth 100000 in
theorem ci_Tape (l : Launch) (D : va_G) (cI cZ : ClassId) (h0 sz : Nat) : Met l (⟨"PaperedOver$Tape", "<init>", "()V"⟩ : MethodName) (.code (⟨"PaperedOver$Tape", "<init>", "()V"⟩ : MethodName) prog_11_method_1_code 1 none :: gtb) ({ frames := 1, cells := 1, slots := 500, locals := 40 }) (va_Pc [.ref h0] (ci_B D cI cZ h0 (.inr (2, [.null, .int 0])) sz)) (ci_Q (fun u : Nat → Nat => u 0) h0 D (w_Tape cI cZ) (va_A [(h0, .inr (2, [.null, .int 0]))] sz)) 1 500 (va_A [(h0, .inr (2, [.null, .int 0]))] sz) := by
  refine Met.ofW (cc := prog_11_method_1_code) (maxL := 1) (ret := none) (by decide) rfl ?_
  intro p e s m args below meth c s₁ B hml hv
  obtain ⟨rfl, hsz, hP, hK, hD0, hN⟩ := hv
  have hx := B.exec
  have hb := B.bytes
  have hr := B.returns
  have hts := atoms_spec (ws := .code (⟨"PaperedOver$Tape", "<init>", "()V"⟩ : MethodName) prog_11_method_1_code 1 none :: gtb) B.pre
  have htg := fun w (h : w ∈ gtb) => hts w (List.mem_cons_of_mem _ h)
  have hown : s.vm.findClass "PaperedOver$Tape" = some m.cls := findClass_of_methodNamed B.named
  have hlocks := B.notSynchronized
  have hin : meth.name = "<init>" := (name_of_methodNamed B.named B.method).1
  subst hsz
  have hD := hD0.self (sz := s.heap.size)
  generalize hAe : va_A [(h0, .inr (2, [.null, .int 0]))] s.heap.size = A at hD ⊢
  have hA : ∀ q : Nat, s.heap.size ≤ q → A q := fun q h => by rw [← hAe]; exact Or.inr h
  have hS : va_S A s.heap s.heap [] := va_S.rf
  have hl := lv_entry ([.ref h0]) (n := 1) (Nat.le_of_ble_eq_true rfl)
  rw [lg_entry_eq]
  generalize (lg_sl ([.ref h0]) ++ List.replicate (1 - (lg_sl ([.ref h0])).length) Slot.unset).toArray = ls at hl ⊢
  have hl : lv_has ls 1 [(0, .ref h0)] := hl
  refine lv_aload_n hx hb dc_2_0 rfl (lv_at hl 0 rfl) ?_
  refine W.objInit hx hb hown (htg (.methodLink "PaperedOver$Tape" 1 objectInit) (gm 95 (by decide +kernel) (by decide +kernel))) (htg _ ob_in) (htg _ ob_co) rfl (by rw [hml]; exact hl.1) rfl dc_2_1 (Nat.le_of_ble_eq_true rfl) (Nat.le_of_ble_eq_true rfl) ?_
  refine W.eq (g2 := F0 m 4 ls []) rfl ?_
  refine lv_aload_n hx hb dc_2_4 rfl (lv_at hl 0 rfl) ?_
  refine lv_sipush (v := 500) hx hb dc_2_5 (by decide +kernel) ?_
  refine ci_newI (N' := 500) hx hb htg hK hP hD hS hA (by decide +kernel) (by decide +kernel) (by decide +kernel) (Nat.le_of_ble_eq_true rfl) (Nat.le_of_ble_eq_true rfl) dc_2_8 (fun q1 H hP hD hS => ?_)
  refine W.widen (k := 1) (n := 500) (Nat.le_of_ble_eq_true rfl) (Nat.le_of_ble_eq_true rfl) ?_
  have hP : va_P D am_cls ((h0, .inr (2, [.null, .int 0])) :: ([] ++ [(q1, .inl (cI, 500, .inl (fun _ => 0)))])) H := hP
  have hD : va_D A ((h0, .inr (2, [.null, .int 0])) :: ([] ++ [(q1, .inl (cI, 500, .inl (fun _ => 0)))])) := hD
  refine va_putF (D := D) (ci := 2) (v := .ref q1) (ty := .array .int) (C := rc_2) (T := tc_2) (N := 2) hx hb htg uw_2 yc_2 yo_2 nc_2 hown hK hP hD hS 0 rfl rfl 0 (by decide) (htg (.fieldLink "PaperedOver$Tape" 9 "PaperedOver$Tape" "bytes" "[I") (gm 96 (by decide +kernel) (by decide +kernel))) (fun _ h9 => h9) rfl hin rfl (by decide +kernel) rfl rfl (Nat.le_of_ble_eq_true rfl) dc_2_10 (fun H locs hP hD hS => ?_)
  have hP : va_P D am_cls ((h0, .inr (2, [.ref q1, .int 0])) :: ([] ++ [(q1, .inl (cI, 500, .inl (fun _ => 0)))])) H := hP
  have hD : va_D A ((h0, .inr (2, [.ref q1, .int 0])) :: ([] ++ [(q1, .inl (cI, 500, .inl (fun _ => 0)))])) := hD
  have hP9 : va_P D am_cls (w_Tape cI cZ (fun k => [h0, q1].getD k 0)) _ := hP
  have hD9 : va_D A (w_Tape cI cZ (fun k => [h0, q1].getD k 0)) := hD
  exact W.vret hx hb hr (fun t ht hW => ⟨⟨(fun k => [h0, q1].getD k 0), rfl, rfl, by rw [ht]; exact hP9, hD9⟩, hS.F ht⟩) hS.2.2 dc_2_13
