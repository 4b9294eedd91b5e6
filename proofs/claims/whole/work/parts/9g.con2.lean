def w_Image (cI cZ : ClassId) (u : Nat × (Nat → Nat) × (Nat → Nat)) : va_W := (u.1, .inr (6, [.ref (u.2.1 0), .ref (u.2.2 0)])) :: (([] ++ w_House cI cZ u.2.1) ++ w_Spots cI cZ u.2.2)
theorem dc_6_0 : decode prog_6_method_1_code 0 = .ok (.aload_n 0, 1) := by decide +kernel
theorem dc_6_1 : decode prog_6_method_1_code 1 = .ok (.invokespecial 1, 3) := by decide +kernel
theorem dc_6_4 : decode prog_6_method_1_code 4 = .ok (.aload_n 0, 1) := by decide +kernel
theorem dc_6_5 : decode prog_6_method_1_code 5 = .ok (.new 7, 3) := by decide +kernel
theorem dc_6_8 : decode prog_6_method_1_code 8 = .ok (.dup, 1) := by decide +kernel
theorem dc_6_9 : decode prog_6_method_1_code 9 = .ok (.invokespecial 9, 3) := by decide +kernel
theorem dc_6_12 : decode prog_6_method_1_code 12 = .ok (.putfield 10, 3) := by decide +kernel
theorem dc_6_15 : decode prog_6_method_1_code 15 = .ok (.aload_n 0, 1) := by decide +kernel
theorem dc_6_16 : decode prog_6_method_1_code 16 = .ok (.new 16, 3) := by decide +kernel
theorem dc_6_19 : decode prog_6_method_1_code 19 = .ok (.dup, 1) := by decide +kernel
theorem dc_6_20 : decode prog_6_method_1_code 20 = .ok (.invokespecial 18, 3) := by decide +kernel
theorem dc_6_23 : decode prog_6_method_1_code 23 = .ok (.putfield 19, 3) := by decide +kernel
theorem dc_6_26 : decode prog_6_method_1_code 26 = .ok (.return_, 1) := by decide +kernel
set_option maxHeartbeats 4000000 in
set_option maxRecDepth 100000 in
theorem ci_Image (l : Launch) (D : va_G) (cI cZ : ClassId) (h0 sz : Nat) : Met l (⟨"PaperedOver$Image", "<init>", "()V"⟩ : MethodName) (.code (⟨"PaperedOver$Image", "<init>", "()V"⟩ : MethodName) prog_6_method_1_code 1 none :: gtb) ({ frames := 2, cells := 16, slots := 212, locals := 60 }) (va_Pc [.ref h0] (ci_B D cI cZ h0 (.inr (6, [.null, .null])) sz)) (ci_Q (fun u : Nat × (Nat → Nat) × (Nat → Nat) => u.1) h0 D (w_Image cI cZ) (va_A [(h0, .inr (6, [.null, .null]))] sz)) 16 212 (va_A [(h0, .inr (6, [.null, .null]))] sz) := by
  refine Met.ofW (cc := prog_6_method_1_code) (maxL := 1) (ret := none) (by decide) rfl ?_
  intro p e s m args below meth c s₁ B hml hv
  obtain ⟨rfl, hsz, hP, hK, hD0, hN⟩ := hv
  have hx := B.exec
  have hb := B.bytes
  have hr := B.returns
  have hts := atoms_spec (ws := .code (⟨"PaperedOver$Image", "<init>", "()V"⟩ : MethodName) prog_6_method_1_code 1 none :: gtb) B.pre
  have htg := fun w (h : w ∈ gtb) => hts w (List.mem_cons_of_mem _ h)
  have hown : s.vm.findClass "PaperedOver$Image" = some m.cls := findClass_of_methodNamed B.named
  have hlocks := B.notSynchronized
  have hin : meth.name = "<init>" := (name_of_methodNamed B.named B.method).1
  subst hsz
  have hD := hD0.self (sz := s.heap.size)
  generalize hAe : va_A [(h0, .inr (6, [.null, .null]))] s.heap.size = A at hD ⊢
  have hA : ∀ q : Nat, s.heap.size ≤ q → A q := fun q h => by rw [← hAe]; exact Or.inr h
  have hS : va_S A s.heap s.heap [] := va_S.rf
  have hl := lv_entry ([.ref h0]) (n := 1) (Nat.le_of_ble_eq_true rfl)
  rw [lg_entry_eq]
  generalize (lg_sl ([.ref h0]) ++ List.replicate (1 - (lg_sl ([.ref h0])).length) Slot.unset).toArray = ls at hl ⊢
  have hl : lv_has ls 1 [(0, .ref h0)] := hl
  refine lv_aload_n hx hb dc_6_0 rfl (lv_at hl 0 rfl) ?_
  refine W.objInit hx hb hown (htg (.methodLink "PaperedOver$Image" 1 objectInit) (gm 244 (by decide +kernel) (by decide +kernel))) (htg _ ob_in) (htg _ ob_co) rfl (by rw [hml]; exact hl.1) rfl dc_6_1 (Nat.le_of_ble_eq_true rfl) (Nat.le_of_ble_eq_true rfl) ?_
  refine W.eq (g2 := F0 m 4 ls []) rfl ?_
  refine lv_aload_n hx hb dc_6_4 rfl (lv_at hl 0 rfl) ?_
  refine va_new (ci := 4) (fs := [.int 0, .null, .null, .null, .int 0, .null, .null, .null, .null, .null, .int 0, .null, .null, .null]) (C := rc_4) (T := tc_4) (N := 14) hx hb htg uw_4 yc_4 yo_4 hown (htg (.classLink "PaperedOver$Image" 7 "PaperedOver$House") (gm 245 (by decide +kernel) (by decide +kernel))) (htg (.instantiable "PaperedOver$House" 14) (gm 112 (by decide +kernel) (by decide +kernel))) (htg (.initialized "PaperedOver$House") (gm 46 (by decide +kernel) (by decide +kernel))) hK hP hD hS hA rfl (fun j hj => by rcases (show j = 0 ∨ j = 1 ∨ j = 2 ∨ j = 3 ∨ j = 4 ∨ j = 5 ∨ j = 6 ∨ j = 7 ∨ j = 8 ∨ j = 9 ∨ j = 10 ∨ j = 11 ∨ j = 12 ∨ j = 13 by omega) with rfl | rfl | rfl | rfl | rfl | rfl | rfl | rfl | rfl | rfl | rfl | rfl | rfl | rfl <;> rfl) (Nat.le_of_ble_eq_true rfl) (Nat.le_of_ble_eq_true rfl) dc_6_5 (fun q1 H hP hD hS => ?_)
  refine W.widen (k := 1) (n := 14) (Nat.le_of_ble_eq_true rfl) (Nat.le_of_ble_eq_true rfl) ?_
  refine lv_dup hx hb dc_6_8 rfl ?_
  refine ci_call (va_runIN (host := "PaperedOver") (As := []) (rest := [.ref (q1), .ref (h0)]) ⟨hx, hb, hml, hown, htg⟩ (ci_House l D cI cZ q1 H.size) ⟨va_cnB (ws' := gtb) 0 htg (gc (gm 115 (by decide +kernel) (by decide +kernel))) rfl rfl rfl (hN (.methodLinkNest "PaperedOver$Image" 9 (⟨"PaperedOver$House", "<init>", "()V"⟩ : MethodName) "PaperedOver") (List.mem_of_getElem? (i := 6) rfl)) (htg (.initialized "PaperedOver$House") (gm 46 (by decide +kernel) (by decide +kernel))) ⟨(by decide +kernel), (by decide +kernel), (by decide +kernel)⟩ ⟨(Nat.le_of_ble_eq_true rfl), (Nat.le_of_ble_eq_true rfl)⟩, rfl, (htg (.instanceMethod (⟨"PaperedOver$House", "<init>", "()V"⟩ : MethodName)) (gm 114 (by decide +kernel) (by decide +kernel)))⟩ (ci_pre hK hN hP) rfl rfl hl.1 rfl (lv_room (Nat.le_of_ble_eq_true rfl)) dc_6_9 ⟨(Nat.le_of_ble_eq_true rfl), (Nat.le_of_ble_eq_true rfl)⟩) hP hD hS hA (fun u1 H locs hu hP2 hD2 hS2 => ?_)
  obtain rfl : u1 0 = q1 := hu
  have hP := hP2
  have hD := hD2
  have hS := hS2
  refine W.widen (k := 12) (n := 118) (Nat.le_of_ble_eq_true rfl) (Nat.le_of_ble_eq_true rfl) ?_
  have hP : va_P D am_cls ((h0, .inr (6, [.null, .null])) :: ([] ++ w_House cI cZ u1)) H := hP
  have hD : va_D A ((h0, .inr (6, [.null, .null])) :: ([] ++ w_House cI cZ u1)) := hD
  refine va_putF (D := D) (ci := 6) (v := .ref (u1 0)) (ty := .object "PaperedOver$House") (C := rc_6) (T := tc_6) (N := 2) hx hb htg uw_6 yc_6 yo_6 nc_6 hown hK hP hD hS 0 rfl rfl 0 (by decide) (htg (.fieldLink "PaperedOver$Image" 10 "PaperedOver$Image" "house" "LPaperedOver$House;") (gm 249 (by decide +kernel) (by decide +kernel))) (fun _ h9 => h9) rfl hin rfl (by decide +kernel) rfl rfl (Nat.le_of_ble_eq_true rfl) dc_6_12 (fun H locs hP hD hS => ?_)
  have hP : va_P D am_cls ((h0, .inr (6, [.ref (u1 0), .null])) :: ([] ++ w_House cI cZ u1)) H := hP
  have hD : va_D A ((h0, .inr (6, [.ref (u1 0), .null])) :: ([] ++ w_House cI cZ u1)) := hD
  refine lv_aload_n hx hb dc_6_15 rfl (lv_at hl 0 rfl) ?_
  refine va_new (ci := 5) (fs := [.int 0, .null, .null, .null]) (C := rc_5) (T := tc_5) (N := 4) hx hb htg uw_5 yc_5 yo_5 hown (htg (.classLink "PaperedOver$Image" 16 "PaperedOver$Spots") (gm 247 (by decide +kernel) (by decide +kernel))) (htg (.instantiable "PaperedOver$Spots" 4) (gm 219 (by decide +kernel) (by decide +kernel))) (htg (.initialized "PaperedOver$Spots") (gm 47 (by decide +kernel) (by decide +kernel))) hK hP hD hS hA rfl (fun j hj => by rcases (show j = 0 ∨ j = 1 ∨ j = 2 ∨ j = 3 by omega) with rfl | rfl | rfl | rfl <;> rfl) (Nat.le_of_ble_eq_true rfl) (Nat.le_of_ble_eq_true rfl) dc_6_16 (fun q2 H hP hD hS => ?_)
  refine W.widen (k := 13) (n := 122) (Nat.le_of_ble_eq_true rfl) (Nat.le_of_ble_eq_true rfl) ?_
  refine lv_dup hx hb dc_6_19 rfl ?_
  refine ci_call (va_runIN (host := "PaperedOver") (As := []) (rest := [.ref (q2), .ref (h0)]) ⟨hx, hb, hml, hown, htg⟩ (ci_Spots l D cI cZ q2 H.size) ⟨va_cnB (ws' := gtb) 0 htg (gc (gm 222 (by decide +kernel) (by decide +kernel))) rfl rfl rfl (hN (.methodLinkNest "PaperedOver$Image" 18 (⟨"PaperedOver$Spots", "<init>", "()V"⟩ : MethodName) "PaperedOver") (List.mem_of_getElem? (i := 7) rfl)) (htg (.initialized "PaperedOver$Spots") (gm 47 (by decide +kernel) (by decide +kernel))) ⟨(by decide +kernel), (by decide +kernel), (by decide +kernel)⟩ ⟨(Nat.le_of_ble_eq_true rfl), (Nat.le_of_ble_eq_true rfl)⟩, rfl, (htg (.instanceMethod (⟨"PaperedOver$Spots", "<init>", "()V"⟩ : MethodName)) (gm 221 (by decide +kernel) (by decide +kernel)))⟩ (ci_pre hK hN hP) rfl rfl hl.1 rfl (lv_room (Nat.le_of_ble_eq_true rfl)) dc_6_20 ⟨(Nat.le_of_ble_eq_true rfl), (Nat.le_of_ble_eq_true rfl)⟩) hP hD hS hA (fun u2 H locs hu hP2 hD2 hS2 => ?_)
  obtain rfl : u2 0 = q2 := hu
  have hP := hP2
  have hD := hD2
  have hS := hS2
  refine W.widen (k := 16) (n := 212) (Nat.le_of_ble_eq_true rfl) (Nat.le_of_ble_eq_true rfl) ?_
  have hP : va_P D am_cls ((h0, .inr (6, [.ref (u1 0), .null])) :: (([] ++ w_House cI cZ u1) ++ w_Spots cI cZ u2)) H := hP
  have hD : va_D A ((h0, .inr (6, [.ref (u1 0), .null])) :: (([] ++ w_House cI cZ u1) ++ w_Spots cI cZ u2)) := hD
  refine va_putF (D := D) (ci := 6) (v := .ref (u2 0)) (ty := .object "PaperedOver$Spots") (C := rc_6) (T := tc_6) (N := 2) hx hb htg uw_6 yc_6 yo_6 nc_6 hown hK hP hD hS 0 rfl rfl 1 (by decide) (htg (.fieldLink "PaperedOver$Image" 19 "PaperedOver$Image" "spots" "LPaperedOver$Spots;") (gm 251 (by decide +kernel) (by decide +kernel))) (fun _ h9 => h9) rfl hin rfl (by decide +kernel) rfl rfl (Nat.le_of_ble_eq_true rfl) dc_6_23 (fun H locs hP hD hS => ?_)
  have hP : va_P D am_cls ((h0, .inr (6, [.ref (u1 0), .ref (u2 0)])) :: (([] ++ w_House cI cZ u1) ++ w_Spots cI cZ u2)) H := hP
  have hD : va_D A ((h0, .inr (6, [.ref (u1 0), .ref (u2 0)])) :: (([] ++ w_House cI cZ u1) ++ w_Spots cI cZ u2)) := hD
  have hP9 : va_P D am_cls (w_Image cI cZ (h0, u1, u2)) _ := hP
  have hD9 : va_D A (w_Image cI cZ (h0, u1, u2)) := hD
  exact W.vret hx hb hr (fun t ht hW => ⟨⟨(h0, u1, u2), rfl, rfl, by rw [ht]; exact hP9, hD9⟩, hS.F ht⟩) hS.2.2 dc_6_26
def w_Reader (cI cZ : ClassId) (a1 : Nat) (u : Nat × (Nat → Nat)) : va_W := (u.1, .inr (3, [.ref a1, .ref (u.2 0), .int 0, .int 0, .int 0, .int 0, .int 0, .int 0])) :: ([] ++ w_House cI cZ u.2)
theorem dc_3_0 : decode prog_8_method_1_code 0 = .ok (.aload_n 0, 1) := by decide +kernel
theorem dc_3_1 : decode prog_8_method_1_code 1 = .ok (.invokespecial 1, 3) := by decide +kernel
theorem dc_3_4 : decode prog_8_method_1_code 4 = .ok (.aload_n 0, 1) := by decide +kernel
theorem dc_3_5 : decode prog_8_method_1_code 5 = .ok (.new 7, 3) := by decide +kernel
theorem dc_3_8 : decode prog_8_method_1_code 8 = .ok (.dup, 1) := by decide +kernel
theorem dc_3_9 : decode prog_8_method_1_code 9 = .ok (.invokespecial 9, 3) := by decide +kernel
theorem dc_3_12 : decode prog_8_method_1_code 12 = .ok (.putfield 10, 3) := by decide +kernel
theorem dc_3_15 : decode prog_8_method_1_code 15 = .ok (.aload_n 0, 1) := by decide +kernel
theorem dc_3_16 : decode prog_8_method_1_code 16 = .ok (.aload_n 1, 1) := by decide +kernel
theorem dc_3_17 : decode prog_8_method_1_code 17 = .ok (.putfield 16, 3) := by decide +kernel
theorem dc_3_20 : decode prog_8_method_1_code 20 = .ok (.return_, 1) := by decide +kernel
set_option maxHeartbeats 4000000 in
set_option maxRecDepth 100000 in
theorem ci_Reader (l : Launch) (D : va_G) (cI cZ : ClassId) (h0 sz : Nat) (a1 : Nat) : Met l (⟨"PaperedOver$Reader", "<init>", "(LPaperedOver$Tape;)V"⟩ : MethodName) (.code (⟨"PaperedOver$Reader", "<init>", "(LPaperedOver$Tape;)V"⟩ : MethodName) prog_8_method_1_code 2 none :: gtb) ({ frames := 2, cells := 12, slots := 118, locals := 60 }) (va_Pc [.ref h0, .ref a1] (ci_B D cI cZ h0 (.inr (3, [.null, .null, .int 0, .int 0, .int 0, .int 0, .int 0, .int 0])) sz)) (ci_Q (fun u : Nat × (Nat → Nat) => u.1) h0 D (w_Reader cI cZ a1) (va_A [(h0, .inr (3, [.null, .null, .int 0, .int 0, .int 0, .int 0, .int 0, .int 0]))] sz)) 12 118 (va_A [(h0, .inr (3, [.null, .null, .int 0, .int 0, .int 0, .int 0, .int 0, .int 0]))] sz) := by
  refine Met.ofW (cc := prog_8_method_1_code) (maxL := 2) (ret := none) (by decide) rfl ?_
  intro p e s m args below meth c s₁ B hml hv
  obtain ⟨rfl, hsz, hP, hK, hD0, hN⟩ := hv
  have hx := B.exec
  have hb := B.bytes
  have hr := B.returns
  have hts := atoms_spec (ws := .code (⟨"PaperedOver$Reader", "<init>", "(LPaperedOver$Tape;)V"⟩ : MethodName) prog_8_method_1_code 2 none :: gtb) B.pre
  have htg := fun w (h : w ∈ gtb) => hts w (List.mem_cons_of_mem _ h)
  have hown : s.vm.findClass "PaperedOver$Reader" = some m.cls := findClass_of_methodNamed B.named
  have hlocks := B.notSynchronized
  have hin : meth.name = "<init>" := (name_of_methodNamed B.named B.method).1
  subst hsz
  have hD := hD0.self (sz := s.heap.size)
  generalize hAe : va_A [(h0, .inr (3, [.null, .null, .int 0, .int 0, .int 0, .int 0, .int 0, .int 0]))] s.heap.size = A at hD ⊢
  have hA : ∀ q : Nat, s.heap.size ≤ q → A q := fun q h => by rw [← hAe]; exact Or.inr h
  have hS : va_S A s.heap s.heap [] := va_S.rf
  have hl := lv_entry ([.ref h0, .ref a1]) (n := 2) (Nat.le_of_ble_eq_true rfl)
  rw [lg_entry_eq]
  generalize (lg_sl ([.ref h0, .ref a1]) ++ List.replicate (2 - (lg_sl ([.ref h0, .ref a1])).length) Slot.unset).toArray = ls at hl ⊢
  have hl : lv_has ls 2 [(0, .ref h0), (1, .ref a1)] := hl
  refine lv_aload_n hx hb dc_3_0 rfl (lv_at hl 0 rfl) ?_
  refine W.objInit hx hb hown (htg (.methodLink "PaperedOver$Reader" 1 objectInit) (gm 110 (by decide +kernel) (by decide +kernel))) (htg _ ob_in) (htg _ ob_co) rfl (by rw [hml]; exact hl.1) rfl dc_3_1 (Nat.le_of_ble_eq_true rfl) (Nat.le_of_ble_eq_true rfl) ?_
  refine W.eq (g2 := F0 m 4 ls []) rfl ?_
  refine lv_aload_n hx hb dc_3_4 rfl (lv_at hl 0 rfl) ?_
  refine va_new (ci := 4) (fs := [.int 0, .null, .null, .null, .int 0, .null, .null, .null, .null, .null, .int 0, .null, .null, .null]) (C := rc_4) (T := tc_4) (N := 14) hx hb htg uw_4 yc_4 yo_4 hown (htg (.classLink "PaperedOver$Reader" 7 "PaperedOver$House") (gm 111 (by decide +kernel) (by decide +kernel))) (htg (.instantiable "PaperedOver$House" 14) (gm 112 (by decide +kernel) (by decide +kernel))) (htg (.initialized "PaperedOver$House") (gm 46 (by decide +kernel) (by decide +kernel))) hK hP hD hS hA rfl (fun j hj => by rcases (show j = 0 ∨ j = 1 ∨ j = 2 ∨ j = 3 ∨ j = 4 ∨ j = 5 ∨ j = 6 ∨ j = 7 ∨ j = 8 ∨ j = 9 ∨ j = 10 ∨ j = 11 ∨ j = 12 ∨ j = 13 by omega) with rfl | rfl | rfl | rfl | rfl | rfl | rfl | rfl | rfl | rfl | rfl | rfl | rfl | rfl <;> rfl) (Nat.le_of_ble_eq_true rfl) (Nat.le_of_ble_eq_true rfl) dc_3_5 (fun q1 H hP hD hS => ?_)
  refine W.widen (k := 1) (n := 14) (Nat.le_of_ble_eq_true rfl) (Nat.le_of_ble_eq_true rfl) ?_
  refine lv_dup hx hb dc_3_8 rfl ?_
  refine ci_call (va_runIN (host := "PaperedOver") (As := []) (rest := [.ref (q1), .ref (h0)]) ⟨hx, hb, hml, hown, htg⟩ (ci_House l D cI cZ q1 H.size) ⟨va_cnB (ws' := gtb) 0 htg (gc (gm 115 (by decide +kernel) (by decide +kernel))) rfl rfl rfl (hN (.methodLinkNest "PaperedOver$Reader" 9 (⟨"PaperedOver$House", "<init>", "()V"⟩ : MethodName) "PaperedOver") (List.mem_of_getElem? (i := 2) rfl)) (htg (.initialized "PaperedOver$House") (gm 46 (by decide +kernel) (by decide +kernel))) ⟨(by decide +kernel), (by decide +kernel), (by decide +kernel)⟩ ⟨(Nat.le_of_ble_eq_true rfl), (Nat.le_of_ble_eq_true rfl)⟩, rfl, (htg (.instanceMethod (⟨"PaperedOver$House", "<init>", "()V"⟩ : MethodName)) (gm 114 (by decide +kernel) (by decide +kernel)))⟩ (ci_pre hK hN hP) rfl rfl hl.1 rfl (lv_room (Nat.le_of_ble_eq_true rfl)) dc_3_9 ⟨(Nat.le_of_ble_eq_true rfl), (Nat.le_of_ble_eq_true rfl)⟩) hP hD hS hA (fun u1 H locs hu hP2 hD2 hS2 => ?_)
  obtain rfl : u1 0 = q1 := hu
  have hP := hP2
  have hD := hD2
  have hS := hS2
  refine W.widen (k := 12) (n := 118) (Nat.le_of_ble_eq_true rfl) (Nat.le_of_ble_eq_true rfl) ?_
  have hP : va_P D am_cls ((h0, .inr (3, [.null, .null, .int 0, .int 0, .int 0, .int 0, .int 0, .int 0])) :: ([] ++ w_House cI cZ u1)) H := hP
  have hD : va_D A ((h0, .inr (3, [.null, .null, .int 0, .int 0, .int 0, .int 0, .int 0, .int 0])) :: ([] ++ w_House cI cZ u1)) := hD
  refine va_putF (D := D) (ci := 3) (v := .ref (u1 0)) (ty := .object "PaperedOver$House") (C := rc_3) (T := tc_3) (N := 8) hx hb htg uw_3 yc_3 yo_3 nc_3 hown hK hP hD hS 0 rfl rfl 1 (by decide) (htg (.fieldLink "PaperedOver$Reader" 10 "PaperedOver$Reader" "draft" "LPaperedOver$House;") (gm 189 (by decide +kernel) (by decide +kernel))) (fun _ h9 => h9) rfl hin rfl (by decide +kernel) rfl rfl (Nat.le_of_ble_eq_true rfl) dc_3_12 (fun H locs hP hD hS => ?_)
  have hP : va_P D am_cls ((h0, .inr (3, [.null, .ref (u1 0), .int 0, .int 0, .int 0, .int 0, .int 0, .int 0])) :: ([] ++ w_House cI cZ u1)) H := hP
  have hD : va_D A ((h0, .inr (3, [.null, .ref (u1 0), .int 0, .int 0, .int 0, .int 0, .int 0, .int 0])) :: ([] ++ w_House cI cZ u1)) := hD
  refine lv_aload_n hx hb dc_3_15 rfl (lv_at hl 0 rfl) ?_
  refine lv_aload_n hx hb dc_3_16 rfl (lv_at hl 1 rfl) ?_
  refine va_putF (D := D) (ci := 3) (v := .ref a1) (ty := .object "PaperedOver$Tape") (C := rc_3) (T := tc_3) (N := 8) hx hb htg uw_3 yc_3 yo_3 nc_3 hown hK hP hD hS 0 rfl rfl 0 (by decide) (htg (.fieldLink "PaperedOver$Reader" 16 "PaperedOver$Reader" "tape" "LPaperedOver$Tape;") (gm 188 (by decide +kernel) (by decide +kernel))) (fun _ h9 => h9) rfl hin rfl (by decide +kernel) rfl rfl (Nat.le_of_ble_eq_true rfl) dc_3_17 (fun H locs hP hD hS => ?_)
  have hP : va_P D am_cls ((h0, .inr (3, [.ref a1, .ref (u1 0), .int 0, .int 0, .int 0, .int 0, .int 0, .int 0])) :: ([] ++ w_House cI cZ u1)) H := hP
  have hD : va_D A ((h0, .inr (3, [.ref a1, .ref (u1 0), .int 0, .int 0, .int 0, .int 0, .int 0, .int 0])) :: ([] ++ w_House cI cZ u1)) := hD
  have hP9 : va_P D am_cls (w_Reader cI cZ a1 (h0, u1)) _ := hP
  have hD9 : va_D A (w_Reader cI cZ a1 (h0, u1)) := hD
  exact W.vret hx hb hr (fun t ht hW => ⟨⟨(h0, u1), rfl, rfl, by rw [ht]; exact hP9, hD9⟩, hS.F ht⟩) hS.2.2 dc_3_20
