abbrev am_U : Type := Nat × (Nat → Nat) × (Nat → Nat) × (Nat × (Nat → Nat)) × (Nat → Nat) × (Nat → Nat) × (Nat × (Nat → Nat) × (Nat → Nat)) × (Nat × (Nat → Nat) × (Nat → Nat)) × (Nat → Nat) × (Nat → Nat) × (Nat → Nat) × (Nat → Nat)
def w_Main (cI cZ : ClassId) (u : am_U) : va_W := (u.1, .inr (0, [.ref (u.2.1 0), .ref (u.2.2.1 0), .ref u.2.2.2.1.1, .ref (u.2.2.2.2.1 0), .ref (u.2.2.2.2.2.1 0), .ref u.2.2.2.2.2.2.1.1, .ref u.2.2.2.2.2.2.2.1.1, .ref (u.2.2.2.2.2.2.2.2.1 0), .ref (u.2.2.2.2.2.2.2.2.2.1 0), .ref (u.2.2.2.2.2.2.2.2.2.2.1 0), .ref (u.2.2.2.2.2.2.2.2.2.2.2 0), .int 0, .int 0])) :: ((((((((((([] ++ w_Rows cI cZ u.2.1) ++ w_Tape cI cZ u.2.2.1) ++ w_Reader cI cZ (u.2.2.1 0) u.2.2.2.1) ++ w_House cI cZ u.2.2.2.2.1) ++ w_Spots cI cZ u.2.2.2.2.2.1) ++ w_Image cI cZ u.2.2.2.2.2.2.1) ++ w_Image cI cZ u.2.2.2.2.2.2.2.1) ++ w_Facts cI cZ (u.2.2.2.2.1 0) (u.2.2.2.2.2.1 0) u.2.2.2.2.2.2.2.2.1) ++ w_Orders cI cZ (u.2.2.2.2.2.2.2.2.1 0) u.2.2.2.2.2.2.2.2.2.1) ++ w_Cutter cI cZ u.2.2.2.2.2.2.2.2.2.2.1) ++ w_Bodies cI cZ u.2.2.2.2.2.2.2.2.2.2.2)
theorem dc_0_0 : decode prog_1_method_1_code 0 = .ok (.aload_n 0, 1) := by decide +kernel
theorem dc_0_1 : decode prog_1_method_1_code 1 = .ok (.invokespecial 1, 3) := by decide +kernel
theorem dc_0_4 : decode prog_1_method_1_code 4 = .ok (.aload_n 0, 1) := by decide +kernel
theorem dc_0_5 : decode prog_1_method_1_code 5 = .ok (.new 7, 3) := by decide +kernel
theorem dc_0_8 : decode prog_1_method_1_code 8 = .ok (.dup, 1) := by decide +kernel
theorem dc_0_9 : decode prog_1_method_1_code 9 = .ok (.invokespecial 9, 3) := by decide +kernel
theorem dc_0_12 : decode prog_1_method_1_code 12 = .ok (.putfield 10, 3) := by decide +kernel
theorem dc_0_15 : decode prog_1_method_1_code 15 = .ok (.aload_n 0, 1) := by decide +kernel
theorem dc_0_16 : decode prog_1_method_1_code 16 = .ok (.new 16, 3) := by decide +kernel
theorem dc_0_19 : decode prog_1_method_1_code 19 = .ok (.dup, 1) := by decide +kernel
theorem dc_0_20 : decode prog_1_method_1_code 20 = .ok (.invokespecial 18, 3) := by decide +kernel
theorem dc_0_23 : decode prog_1_method_1_code 23 = .ok (.putfield 19, 3) := by decide +kernel
theorem dc_0_26 : decode prog_1_method_1_code 26 = .ok (.aload_n 0, 1) := by decide +kernel
theorem dc_0_27 : decode prog_1_method_1_code 27 = .ok (.new 23, 3) := by decide +kernel
theorem dc_0_30 : decode prog_1_method_1_code 30 = .ok (.dup, 1) := by decide +kernel
theorem dc_0_31 : decode prog_1_method_1_code 31 = .ok (.aload_n 0, 1) := by decide +kernel
theorem dc_0_32 : decode prog_1_method_1_code 32 = .ok (.getfield 19, 3) := by decide +kernel
theorem dc_0_35 : decode prog_1_method_1_code 35 = .ok (.invokespecial 25, 3) := by decide +kernel
theorem dc_0_38 : decode prog_1_method_1_code 38 = .ok (.putfield 28, 3) := by decide +kernel
theorem dc_0_41 : decode prog_1_method_1_code 41 = .ok (.aload_n 0, 1) := by decide +kernel
theorem dc_0_42 : decode prog_1_method_1_code 42 = .ok (.new 32, 3) := by decide +kernel
theorem dc_0_45 : decode prog_1_method_1_code 45 = .ok (.dup, 1) := by decide +kernel
theorem dc_0_46 : decode prog_1_method_1_code 46 = .ok (.invokespecial 34, 3) := by decide +kernel
theorem dc_0_49 : decode prog_1_method_1_code 49 = .ok (.putfield 35, 3) := by decide +kernel
theorem dc_0_52 : decode prog_1_method_1_code 52 = .ok (.aload_n 0, 1) := by decide +kernel
theorem dc_0_53 : decode prog_1_method_1_code 53 = .ok (.new 39, 3) := by decide +kernel
theorem dc_0_56 : decode prog_1_method_1_code 56 = .ok (.dup, 1) := by decide +kernel
theorem dc_0_57 : decode prog_1_method_1_code 57 = .ok (.invokespecial 41, 3) := by decide +kernel
theorem dc_0_60 : decode prog_1_method_1_code 60 = .ok (.putfield 42, 3) := by decide +kernel
theorem dc_0_63 : decode prog_1_method_1_code 63 = .ok (.aload_n 0, 1) := by decide +kernel
theorem dc_0_64 : decode prog_1_method_1_code 64 = .ok (.new 46, 3) := by decide +kernel
theorem dc_0_67 : decode prog_1_method_1_code 67 = .ok (.dup, 1) := by decide +kernel
theorem dc_0_68 : decode prog_1_method_1_code 68 = .ok (.invokespecial 48, 3) := by decide +kernel
theorem dc_0_71 : decode prog_1_method_1_code 71 = .ok (.putfield 49, 3) := by decide +kernel
theorem dc_0_74 : decode prog_1_method_1_code 74 = .ok (.aload_n 0, 1) := by decide +kernel
theorem dc_0_75 : decode prog_1_method_1_code 75 = .ok (.new 46, 3) := by decide +kernel
theorem dc_0_78 : decode prog_1_method_1_code 78 = .ok (.dup, 1) := by decide +kernel
theorem dc_0_79 : decode prog_1_method_1_code 79 = .ok (.invokespecial 48, 3) := by decide +kernel
theorem dc_0_82 : decode prog_1_method_1_code 82 = .ok (.putfield 53, 3) := by decide +kernel
theorem dc_0_85 : decode prog_1_method_1_code 85 = .ok (.aload_n 0, 1) := by decide +kernel
theorem dc_0_86 : decode prog_1_method_1_code 86 = .ok (.new 56, 3) := by decide +kernel
theorem dc_0_89 : decode prog_1_method_1_code 89 = .ok (.dup, 1) := by decide +kernel
theorem dc_0_90 : decode prog_1_method_1_code 90 = .ok (.aload_n 0, 1) := by decide +kernel
theorem dc_0_91 : decode prog_1_method_1_code 91 = .ok (.getfield 35, 3) := by decide +kernel
theorem dc_0_94 : decode prog_1_method_1_code 94 = .ok (.aload_n 0, 1) := by decide +kernel
theorem dc_0_95 : decode prog_1_method_1_code 95 = .ok (.getfield 42, 3) := by decide +kernel
theorem dc_0_98 : decode prog_1_method_1_code 98 = .ok (.invokespecial 58, 3) := by decide +kernel
theorem dc_0_101 : decode prog_1_method_1_code 101 = .ok (.putfield 61, 3) := by decide +kernel
theorem dc_0_104 : decode prog_1_method_1_code 104 = .ok (.aload_n 0, 1) := by decide +kernel
theorem dc_0_105 : decode prog_1_method_1_code 105 = .ok (.new 65, 3) := by decide +kernel
theorem dc_0_108 : decode prog_1_method_1_code 108 = .ok (.dup, 1) := by decide +kernel
theorem dc_0_109 : decode prog_1_method_1_code 109 = .ok (.aload_n 0, 1) := by decide +kernel
theorem dc_0_110 : decode prog_1_method_1_code 110 = .ok (.getfield 61, 3) := by decide +kernel
theorem dc_0_113 : decode prog_1_method_1_code 113 = .ok (.invokespecial 67, 3) := by decide +kernel
theorem dc_0_116 : decode prog_1_method_1_code 116 = .ok (.putfield 70, 3) := by decide +kernel
theorem dc_0_119 : decode prog_1_method_1_code 119 = .ok (.aload_n 0, 1) := by decide +kernel
theorem dc_0_120 : decode prog_1_method_1_code 120 = .ok (.new 74, 3) := by decide +kernel
theorem dc_0_123 : decode prog_1_method_1_code 123 = .ok (.dup, 1) := by decide +kernel
theorem dc_0_124 : decode prog_1_method_1_code 124 = .ok (.invokespecial 76, 3) := by decide +kernel
theorem dc_0_127 : decode prog_1_method_1_code 127 = .ok (.putfield 77, 3) := by decide +kernel
theorem dc_0_130 : decode prog_1_method_1_code 130 = .ok (.aload_n 0, 1) := by decide +kernel
theorem dc_0_131 : decode prog_1_method_1_code 131 = .ok (.new 81, 3) := by decide +kernel
theorem dc_0_134 : decode prog_1_method_1_code 134 = .ok (.dup, 1) := by decide +kernel
theorem dc_0_135 : decode prog_1_method_1_code 135 = .ok (.invokespecial 83, 3) := by decide +kernel
theorem dc_0_138 : decode prog_1_method_1_code 138 = .ok (.putfield 84, 3) := by decide +kernel
theorem dc_0_141 : decode prog_1_method_1_code 141 = .ok (.return_, 1) := by decide +kernel
set_option maxHeartbeats 4000000 in
set_option maxRecDepth 100000 in
theorem ci_Main (l : Launch) (D : va_G) (cI cZ : ClassId) (h0 sz : Nat) : Met l (⟨"PaperedOver", "<init>", "()V"⟩ : MethodName) (.code (⟨"PaperedOver", "<init>", "()V"⟩ : MethodName) prog_1_method_1_code 1 none :: gtb) ({ frames := 3, cells := 84, slots := 3859, locals := 81 }) (va_Pc [.ref h0] (ci_B D cI cZ h0 (.inr (0, [.null, .null, .null, .null, .null, .null, .null, .null, .null, .null, .null, .int 0, .int 0])) sz)) (ci_Q (fun u : am_U => u.1) h0 D (w_Main cI cZ) (va_A [(h0, .inr (0, [.null, .null, .null, .null, .null, .null, .null, .null, .null, .null, .null, .int 0, .int 0]))] sz)) 84 3859 (va_A [(h0, .inr (0, [.null, .null, .null, .null, .null, .null, .null, .null, .null, .null, .null, .int 0, .int 0]))] sz) := by
  refine Met.ofW (cc := prog_1_method_1_code) (maxL := 1) (ret := none) (by decide) rfl ?_
  intro p e s m args below meth c s₁ B hml hv
  obtain ⟨rfl, hsz, hP, hK, hD0, hN⟩ := hv
  have hx := B.exec
  have hb := B.bytes
  have hr := B.returns
  have hts := atoms_spec (ws := .code (⟨"PaperedOver", "<init>", "()V"⟩ : MethodName) prog_1_method_1_code 1 none :: gtb) B.pre
  have htg := fun w (h : w ∈ gtb) => hts w (List.mem_cons_of_mem _ h)
  have hown : s.vm.findClass "PaperedOver" = some m.cls := findClass_of_methodNamed B.named
  have hlocks := B.notSynchronized
  have hin : meth.name = "<init>" := (name_of_methodNamed B.named B.method).1
  subst hsz
  have hD := hD0.self (sz := s.heap.size)
  generalize hAe : va_A [(h0, .inr (0, [.null, .null, .null, .null, .null, .null, .null, .null, .null, .null, .null, .int 0, .int 0]))] s.heap.size = A at hD ⊢
  have hA : ∀ q : Nat, s.heap.size ≤ q → A q := fun q h => by rw [← hAe]; exact Or.inr h
  have hS : va_S A s.heap s.heap [] := va_S.rf
  have hl := lv_entry ([.ref h0]) (n := 1) (Nat.le_of_ble_eq_true rfl)
  rw [lg_entry_eq]
  generalize (lg_sl ([.ref h0]) ++ List.replicate (1 - (lg_sl ([.ref h0])).length) Slot.unset).toArray = ls at hl ⊢
  have hl : lv_has ls 1 [(0, .ref h0)] := hl
  refine lv_aload_n hx hb dc_0_0 rfl (lv_at hl 0 rfl) ?_
  refine W.objInit hx hb hown (htg (.methodLink "PaperedOver" 1 objectInit) (gm 66 (by decide +kernel) (by decide +kernel))) (htg _ ob_in) (htg _ ob_co) rfl (by rw [hml]; exact hl.1) rfl dc_0_1 (Nat.le_of_ble_eq_true rfl) (Nat.le_of_ble_eq_true rfl) ?_
  refine W.eq (g2 := F0 m 4 ls []) rfl ?_
  refine lv_aload_n hx hb dc_0_4 rfl (lv_at hl 0 rfl) ?_
  refine va_new (ci := 1) (fs := [.null, .null, .null, .null]) (C := rc_1) (T := tc_1) (N := 4) hx hb htg uw_1 yc_1 yo_1 hown (htg (.classLink "PaperedOver" 7 "PaperedOver$Rows") (gm 69 (by decide +kernel) (by decide +kernel))) (htg (.instantiable "PaperedOver$Rows" 4) (gm 70 (by decide +kernel) (by decide +kernel))) (htg (.initialized "PaperedOver$Rows") (gm 43 (by decide +kernel) (by decide +kernel))) hK hP hD hS hA rfl (fun j hj => by rcases (show j = 0 ∨ j = 1 ∨ j = 2 ∨ j = 3 by omega) with rfl | rfl | rfl | rfl <;> rfl) (Nat.le_of_ble_eq_true rfl) (Nat.le_of_ble_eq_true rfl) dc_0_5 (fun q1 H hP hD hS => ?_)
  refine W.widen (k := 1) (n := 4) (Nat.le_of_ble_eq_true rfl) (Nat.le_of_ble_eq_true rfl) ?_
  refine lv_dup hx hb dc_0_8 rfl ?_
  refine ci_call (va_runIN (host := "PaperedOver") (As := []) (rest := [.ref (q1), .ref (h0)]) ⟨hx, hb, hml, hown, htg⟩ (ci_Rows l D cI cZ q1 H.size) ⟨va_cnB (ws' := gtb) 0 htg (gc (gm 73 (by decide +kernel) (by decide +kernel))) rfl rfl rfl (hN (.methodLinkNest "PaperedOver" 9 (⟨"PaperedOver$Rows", "<init>", "()V"⟩ : MethodName) "PaperedOver") (List.mem_of_getElem? (i := 0) rfl)) (htg (.initialized "PaperedOver$Rows") (gm 43 (by decide +kernel) (by decide +kernel))) ⟨(by decide +kernel), (by decide +kernel), (by decide +kernel)⟩ ⟨(Nat.le_of_ble_eq_true rfl), (Nat.le_of_ble_eq_true rfl)⟩, rfl, (htg (.instanceMethod (⟨"PaperedOver$Rows", "<init>", "()V"⟩ : MethodName)) (gm 72 (by decide +kernel) (by decide +kernel)))⟩ (ci_pre hK hN hP) rfl rfl hl.1 rfl (lv_room (Nat.le_of_ble_eq_true rfl)) dc_0_9 ⟨(Nat.le_of_ble_eq_true rfl), (Nat.le_of_ble_eq_true rfl)⟩) hP hD hS hA (fun u1 H locs hu hP2 hD2 hS2 => ?_)
  obtain rfl : u1 0 = q1 := hu
  have hP := hP2
  have hD := hD2
  have hS := hS2
  refine W.widen (k := 5) (n := 348) (Nat.le_of_ble_eq_true rfl) (Nat.le_of_ble_eq_true rfl) ?_
  have hP : va_P D am_cls ((h0, .inr (0, [.null, .null, .null, .null, .null, .null, .null, .null, .null, .null, .null, .int 0, .int 0])) :: ([] ++ w_Rows cI cZ u1)) H := hP
  have hD : va_D A ((h0, .inr (0, [.null, .null, .null, .null, .null, .null, .null, .null, .null, .null, .null, .int 0, .int 0])) :: ([] ++ w_Rows cI cZ u1)) := hD
  refine va_putF (D := D) (ci := 0) (v := .ref (u1 0)) (ty := .object "PaperedOver$Rows") (C := rc_0) (T := tc_0) (N := 13) hx hb htg uw_0 yc_0 yo_0 nc_0 hown hK hP hD hS 0 rfl rfl 0 (by decide) (htg (.fieldLink "PaperedOver" 10 "PaperedOver" "rows" "LPaperedOver$Rows;") (gm 365 (by decide +kernel) (by decide +kernel))) (fun _ h9 => h9) rfl hin rfl (by decide +kernel) rfl rfl (Nat.le_of_ble_eq_true rfl) dc_0_12 (fun H locs hP hD hS => ?_)
  have hP : va_P D am_cls ((h0, .inr (0, [.ref (u1 0), .null, .null, .null, .null, .null, .null, .null, .null, .null, .null, .int 0, .int 0])) :: ([] ++ w_Rows cI cZ u1)) H := hP
  have hD : va_D A ((h0, .inr (0, [.ref (u1 0), .null, .null, .null, .null, .null, .null, .null, .null, .null, .null, .int 0, .int 0])) :: ([] ++ w_Rows cI cZ u1)) := hD
  refine lv_aload_n hx hb dc_0_15 rfl (lv_at hl 0 rfl) ?_
  refine va_new (ci := 2) (fs := [.null, .int 0]) (C := rc_2) (T := tc_2) (N := 2) hx hb htg uw_2 yc_2 yo_2 hown (htg (.classLink "PaperedOver" 16 "PaperedOver$Tape") (gm 90 (by decide +kernel) (by decide +kernel))) (htg (.instantiable "PaperedOver$Tape" 2) (gm 91 (by decide +kernel) (by decide +kernel))) (htg (.initialized "PaperedOver$Tape") (gm 44 (by decide +kernel) (by decide +kernel))) hK hP hD hS hA rfl (fun j hj => by rcases (show j = 0 ∨ j = 1 by omega) with rfl | rfl <;> rfl) (Nat.le_of_ble_eq_true rfl) (Nat.le_of_ble_eq_true rfl) dc_0_16 (fun q2 H hP hD hS => ?_)
  refine W.widen (k := 6) (n := 350) (Nat.le_of_ble_eq_true rfl) (Nat.le_of_ble_eq_true rfl) ?_
  refine lv_dup hx hb dc_0_19 rfl ?_
  refine ci_call (va_runIN (host := "PaperedOver") (As := []) (rest := [.ref (q2), .ref (h0)]) ⟨hx, hb, hml, hown, htg⟩ (ci_Tape l D cI cZ q2 H.size) ⟨va_cnB (ws' := gtb) 0 htg (gc (gm 94 (by decide +kernel) (by decide +kernel))) rfl rfl rfl (hN (.methodLinkNest "PaperedOver" 18 (⟨"PaperedOver$Tape", "<init>", "()V"⟩ : MethodName) "PaperedOver") (List.mem_of_getElem? (i := 1) rfl)) (htg (.initialized "PaperedOver$Tape") (gm 44 (by decide +kernel) (by decide +kernel))) ⟨(by decide +kernel), (by decide +kernel), (by decide +kernel)⟩ ⟨(Nat.le_of_ble_eq_true rfl), (Nat.le_of_ble_eq_true rfl)⟩, rfl, (htg (.instanceMethod (⟨"PaperedOver$Tape", "<init>", "()V"⟩ : MethodName)) (gm 93 (by decide +kernel) (by decide +kernel)))⟩ (ci_pre hK hN hP) rfl rfl hl.1 rfl (lv_room (Nat.le_of_ble_eq_true rfl)) dc_0_20 ⟨(Nat.le_of_ble_eq_true rfl), (Nat.le_of_ble_eq_true rfl)⟩) hP hD hS hA (fun u2 H locs hu hP2 hD2 hS2 => ?_)
  obtain rfl : u2 0 = q2 := hu
  have hP := hP2
  have hD := hD2
  have hS := hS2
  refine W.widen (k := 7) (n := 850) (Nat.le_of_ble_eq_true rfl) (Nat.le_of_ble_eq_true rfl) ?_
  have hP : va_P D am_cls ((h0, .inr (0, [.ref (u1 0), .null, .null, .null, .null, .null, .null, .null, .null, .null, .null, .int 0, .int 0])) :: (([] ++ w_Rows cI cZ u1) ++ w_Tape cI cZ u2)) H := hP
  have hD : va_D A ((h0, .inr (0, [.ref (u1 0), .null, .null, .null, .null, .null, .null, .null, .null, .null, .null, .int 0, .int 0])) :: (([] ++ w_Rows cI cZ u1) ++ w_Tape cI cZ u2)) := hD
  refine va_putF (D := D) (ci := 0) (v := .ref (u2 0)) (ty := .object "PaperedOver$Tape") (C := rc_0) (T := tc_0) (N := 13) hx hb htg uw_0 yc_0 yo_0 nc_0 hown hK hP hD hS 0 rfl rfl 1 (by decide) (htg (.fieldLink "PaperedOver" 19 "PaperedOver" "tape" "LPaperedOver$Tape;") (gm 366 (by decide +kernel) (by decide +kernel))) (fun _ h9 => h9) rfl hin rfl (by decide +kernel) rfl rfl (Nat.le_of_ble_eq_true rfl) dc_0_23 (fun H locs hP hD hS => ?_)
  have hP : va_P D am_cls ((h0, .inr (0, [.ref (u1 0), .ref (u2 0), .null, .null, .null, .null, .null, .null, .null, .null, .null, .int 0, .int 0])) :: (([] ++ w_Rows cI cZ u1) ++ w_Tape cI cZ u2)) H := hP
  have hD : va_D A ((h0, .inr (0, [.ref (u1 0), .ref (u2 0), .null, .null, .null, .null, .null, .null, .null, .null, .null, .int 0, .int 0])) :: (([] ++ w_Rows cI cZ u1) ++ w_Tape cI cZ u2)) := hD
  refine lv_aload_n hx hb dc_0_26 rfl (lv_at hl 0 rfl) ?_
  refine va_new (ci := 3) (fs := [.null, .null, .int 0, .int 0, .int 0, .int 0, .int 0, .int 0]) (C := rc_3) (T := tc_3) (N := 8) hx hb htg uw_3 yc_3 yo_3 hown (htg (.classLink "PaperedOver" 23 "PaperedOver$Reader") (gm 105 (by decide +kernel) (by decide +kernel))) (htg (.instantiable "PaperedOver$Reader" 8) (gm 106 (by decide +kernel) (by decide +kernel))) (htg (.initialized "PaperedOver$Reader") (gm 45 (by decide +kernel) (by decide +kernel))) hK hP hD hS hA rfl (fun j hj => by rcases (show j = 0 ∨ j = 1 ∨ j = 2 ∨ j = 3 ∨ j = 4 ∨ j = 5 ∨ j = 6 ∨ j = 7 by omega) with rfl | rfl | rfl | rfl | rfl | rfl | rfl | rfl <;> rfl) (Nat.le_of_ble_eq_true rfl) (Nat.le_of_ble_eq_true rfl) dc_0_27 (fun q3 H hP hD hS => ?_)
  refine W.widen (k := 8) (n := 858) (Nat.le_of_ble_eq_true rfl) (Nat.le_of_ble_eq_true rfl) ?_
  refine lv_dup hx hb dc_0_30 rfl ?_
  refine lv_aload_n hx hb dc_0_31 rfl (lv_at hl 0 rfl) ?_
  refine va_get (D := D) (ci := 0) (v := .ref (u2 0)) (C := rc_0) (T := tc_0) (N := 13) hx hb htg uw_0 hown hK hP 0 rfl rfl 1 (by decide) (htg (.fieldLink "PaperedOver" 19 "PaperedOver" "tape" "LPaperedOver$Tape;") (gm 366 (by decide +kernel) (by decide +kernel))) (fun _ h9 => h9) rfl dc_0_32 ?_
  refine ci_call (va_runI (As := [.ref (u2 0)]) (rest := [.ref (q3), .ref (h0)]) ⟨hx, hb, hml, hown, htg⟩ (ci_Reader l D cI cZ q3 H.size (u2 0)) (cwI (ws' := gtb) 1 htg (gc (gm 109 (by decide +kernel) (by decide +kernel))) rfl rfl rfl (htg (.initialized "PaperedOver$Reader") (gm 45 (by decide +kernel) (by decide +kernel))) (htg (.methodLink "PaperedOver" 25 (⟨"PaperedOver$Reader", "<init>", "(LPaperedOver$Tape;)V"⟩ : MethodName)) (gm 107 (by decide +kernel) (by decide +kernel))) (htg (.instanceMethod (⟨"PaperedOver$Reader", "<init>", "(LPaperedOver$Tape;)V"⟩ : MethodName)) (gm 108 (by decide +kernel) (by decide +kernel))) rfl ⟨(by decide +kernel), (by decide +kernel), (by decide +kernel)⟩ ⟨(Nat.le_of_ble_eq_true rfl), (Nat.le_of_ble_eq_true rfl)⟩) (ci_pre hK hN hP) rfl rfl hl.1 rfl (lv_room (Nat.le_of_ble_eq_true rfl)) dc_0_35 ⟨(Nat.le_of_ble_eq_true rfl), (Nat.le_of_ble_eq_true rfl)⟩) hP hD hS hA (fun u3 H locs hu hP2 hD2 hS2 => ?_)
  obtain rfl : u3.1 = q3 := hu
  have hP := hP2
  have hD := hD2
  have hS := hS2
  refine W.widen (k := 20) (n := 976) (Nat.le_of_ble_eq_true rfl) (Nat.le_of_ble_eq_true rfl) ?_
  have hP : va_P D am_cls ((h0, .inr (0, [.ref (u1 0), .ref (u2 0), .null, .null, .null, .null, .null, .null, .null, .null, .null, .int 0, .int 0])) :: ((([] ++ w_Rows cI cZ u1) ++ w_Tape cI cZ u2) ++ w_Reader cI cZ (u2 0) u3)) H := hP
  have hD : va_D A ((h0, .inr (0, [.ref (u1 0), .ref (u2 0), .null, .null, .null, .null, .null, .null, .null, .null, .null, .int 0, .int 0])) :: ((([] ++ w_Rows cI cZ u1) ++ w_Tape cI cZ u2) ++ w_Reader cI cZ (u2 0) u3)) := hD
  refine va_putF (D := D) (ci := 0) (v := .ref u3.1) (ty := .object "PaperedOver$Reader") (C := rc_0) (T := tc_0) (N := 13) hx hb htg uw_0 yc_0 yo_0 nc_0 hown hK hP hD hS 0 rfl rfl 2 (by decide) (htg (.fieldLink "PaperedOver" 28 "PaperedOver" "reader" "LPaperedOver$Reader;") (gm 367 (by decide +kernel) (by decide +kernel))) (fun _ h9 => h9) rfl hin rfl (by decide +kernel) rfl rfl (Nat.le_of_ble_eq_true rfl) dc_0_38 (fun H locs hP hD hS => ?_)
  have hP : va_P D am_cls ((h0, .inr (0, [.ref (u1 0), .ref (u2 0), .ref u3.1, .null, .null, .null, .null, .null, .null, .null, .null, .int 0, .int 0])) :: ((([] ++ w_Rows cI cZ u1) ++ w_Tape cI cZ u2) ++ w_Reader cI cZ (u2 0) u3)) H := hP
  have hD : va_D A ((h0, .inr (0, [.ref (u1 0), .ref (u2 0), .ref u3.1, .null, .null, .null, .null, .null, .null, .null, .null, .int 0, .int 0])) :: ((([] ++ w_Rows cI cZ u1) ++ w_Tape cI cZ u2) ++ w_Reader cI cZ (u2 0) u3)) := hD
  refine lv_aload_n hx hb dc_0_41 rfl (lv_at hl 0 rfl) ?_
  refine va_new (ci := 4) (fs := [.int 0, .null, .null, .null, .int 0, .null, .null, .null, .null, .null, .int 0, .null, .null, .null]) (C := rc_4) (T := tc_4) (N := 14) hx hb htg uw_4 yc_4 yo_4 hown (htg (.classLink "PaperedOver" 32 "PaperedOver$House") (gm 216 (by decide +kernel) (by decide +kernel))) (htg (.instantiable "PaperedOver$House" 14) (gm 112 (by decide +kernel) (by decide +kernel))) (htg (.initialized "PaperedOver$House") (gm 46 (by decide +kernel) (by decide +kernel))) hK hP hD hS hA rfl (fun j hj => by rcases (show j = 0 ∨ j = 1 ∨ j = 2 ∨ j = 3 ∨ j = 4 ∨ j = 5 ∨ j = 6 ∨ j = 7 ∨ j = 8 ∨ j = 9 ∨ j = 10 ∨ j = 11 ∨ j = 12 ∨ j = 13 by omega) with rfl | rfl | rfl | rfl | rfl | rfl | rfl | rfl | rfl | rfl | rfl | rfl | rfl | rfl <;> rfl) (Nat.le_of_ble_eq_true rfl) (Nat.le_of_ble_eq_true rfl) dc_0_42 (fun q4 H hP hD hS => ?_)
  refine W.widen (k := 21) (n := 990) (Nat.le_of_ble_eq_true rfl) (Nat.le_of_ble_eq_true rfl) ?_
  refine lv_dup hx hb dc_0_45 rfl ?_
  refine ci_call (va_runIN (host := "PaperedOver") (As := []) (rest := [.ref (q4), .ref (h0)]) ⟨hx, hb, hml, hown, htg⟩ (ci_House l D cI cZ q4 H.size) ⟨va_cnB (ws' := gtb) 0 htg (gc (gm 115 (by decide +kernel) (by decide +kernel))) rfl rfl rfl (hN (.methodLinkNest "PaperedOver" 34 (⟨"PaperedOver$House", "<init>", "()V"⟩ : MethodName) "PaperedOver") (List.mem_of_getElem? (i := 3) rfl)) (htg (.initialized "PaperedOver$House") (gm 46 (by decide +kernel) (by decide +kernel))) ⟨(by decide +kernel), (by decide +kernel), (by decide +kernel)⟩ ⟨(Nat.le_of_ble_eq_true rfl), (Nat.le_of_ble_eq_true rfl)⟩, rfl, (htg (.instanceMethod (⟨"PaperedOver$House", "<init>", "()V"⟩ : MethodName)) (gm 114 (by decide +kernel) (by decide +kernel)))⟩ (ci_pre hK hN hP) rfl rfl hl.1 rfl (lv_room (Nat.le_of_ble_eq_true rfl)) dc_0_46 ⟨(Nat.le_of_ble_eq_true rfl), (Nat.le_of_ble_eq_true rfl)⟩) hP hD hS hA (fun u4 H locs hu hP2 hD2 hS2 => ?_)
  obtain rfl : u4 0 = q4 := hu
  have hP := hP2
  have hD := hD2
  have hS := hS2
  refine W.widen (k := 32) (n := 1094) (Nat.le_of_ble_eq_true rfl) (Nat.le_of_ble_eq_true rfl) ?_
  have hP : va_P D am_cls ((h0, .inr (0, [.ref (u1 0), .ref (u2 0), .ref u3.1, .null, .null, .null, .null, .null, .null, .null, .null, .int 0, .int 0])) :: (((([] ++ w_Rows cI cZ u1) ++ w_Tape cI cZ u2) ++ w_Reader cI cZ (u2 0) u3) ++ w_House cI cZ u4)) H := hP
  have hD : va_D A ((h0, .inr (0, [.ref (u1 0), .ref (u2 0), .ref u3.1, .null, .null, .null, .null, .null, .null, .null, .null, .int 0, .int 0])) :: (((([] ++ w_Rows cI cZ u1) ++ w_Tape cI cZ u2) ++ w_Reader cI cZ (u2 0) u3) ++ w_House cI cZ u4)) := hD
  refine va_putF (D := D) (ci := 0) (v := .ref (u4 0)) (ty := .object "PaperedOver$House") (C := rc_0) (T := tc_0) (N := 13) hx hb htg uw_0 yc_0 yo_0 nc_0 hown hK hP hD hS 0 rfl rfl 3 (by decide) (htg (.fieldLink "PaperedOver" 35 "PaperedOver" "house" "LPaperedOver$House;") (gm 368 (by decide +kernel) (by decide +kernel))) (fun _ h9 => h9) rfl hin rfl (by decide +kernel) rfl rfl (Nat.le_of_ble_eq_true rfl) dc_0_49 (fun H locs hP hD hS => ?_)
  have hP : va_P D am_cls ((h0, .inr (0, [.ref (u1 0), .ref (u2 0), .ref u3.1, .ref (u4 0), .null, .null, .null, .null, .null, .null, .null, .int 0, .int 0])) :: (((([] ++ w_Rows cI cZ u1) ++ w_Tape cI cZ u2) ++ w_Reader cI cZ (u2 0) u3) ++ w_House cI cZ u4)) H := hP
  have hD : va_D A ((h0, .inr (0, [.ref (u1 0), .ref (u2 0), .ref u3.1, .ref (u4 0), .null, .null, .null, .null, .null, .null, .null, .int 0, .int 0])) :: (((([] ++ w_Rows cI cZ u1) ++ w_Tape cI cZ u2) ++ w_Reader cI cZ (u2 0) u3) ++ w_House cI cZ u4)) := hD
  refine lv_aload_n hx hb dc_0_52 rfl (lv_at hl 0 rfl) ?_
  refine va_new (ci := 5) (fs := [.int 0, .null, .null, .null]) (C := rc_5) (T := tc_5) (N := 4) hx hb htg uw_5 yc_5 yo_5 hown (htg (.classLink "PaperedOver" 39 "PaperedOver$Spots") (gm 218 (by decide +kernel) (by decide +kernel))) (htg (.instantiable "PaperedOver$Spots" 4) (gm 219 (by decide +kernel) (by decide +kernel))) (htg (.initialized "PaperedOver$Spots") (gm 47 (by decide +kernel) (by decide +kernel))) hK hP hD hS hA rfl (fun j hj => by rcases (show j = 0 ∨ j = 1 ∨ j = 2 ∨ j = 3 by omega) with rfl | rfl | rfl | rfl <;> rfl) (Nat.le_of_ble_eq_true rfl) (Nat.le_of_ble_eq_true rfl) dc_0_53 (fun q5 H hP hD hS => ?_)
  refine W.widen (k := 33) (n := 1098) (Nat.le_of_ble_eq_true rfl) (Nat.le_of_ble_eq_true rfl) ?_
  refine lv_dup hx hb dc_0_56 rfl ?_
  refine ci_call (va_runIN (host := "PaperedOver") (As := []) (rest := [.ref (q5), .ref (h0)]) ⟨hx, hb, hml, hown, htg⟩ (ci_Spots l D cI cZ q5 H.size) ⟨va_cnB (ws' := gtb) 0 htg (gc (gm 222 (by decide +kernel) (by decide +kernel))) rfl rfl rfl (hN (.methodLinkNest "PaperedOver" 41 (⟨"PaperedOver$Spots", "<init>", "()V"⟩ : MethodName) "PaperedOver") (List.mem_of_getElem? (i := 4) rfl)) (htg (.initialized "PaperedOver$Spots") (gm 47 (by decide +kernel) (by decide +kernel))) ⟨(by decide +kernel), (by decide +kernel), (by decide +kernel)⟩ ⟨(Nat.le_of_ble_eq_true rfl), (Nat.le_of_ble_eq_true rfl)⟩, rfl, (htg (.instanceMethod (⟨"PaperedOver$Spots", "<init>", "()V"⟩ : MethodName)) (gm 221 (by decide +kernel) (by decide +kernel)))⟩ (ci_pre hK hN hP) rfl rfl hl.1 rfl (lv_room (Nat.le_of_ble_eq_true rfl)) dc_0_57 ⟨(Nat.le_of_ble_eq_true rfl), (Nat.le_of_ble_eq_true rfl)⟩) hP hD hS hA (fun u5 H locs hu hP2 hD2 hS2 => ?_)
  obtain rfl : u5 0 = q5 := hu
  have hP := hP2
  have hD := hD2
  have hS := hS2
  refine W.widen (k := 36) (n := 1188) (Nat.le_of_ble_eq_true rfl) (Nat.le_of_ble_eq_true rfl) ?_
  have hP : va_P D am_cls ((h0, .inr (0, [.ref (u1 0), .ref (u2 0), .ref u3.1, .ref (u4 0), .null, .null, .null, .null, .null, .null, .null, .int 0, .int 0])) :: ((((([] ++ w_Rows cI cZ u1) ++ w_Tape cI cZ u2) ++ w_Reader cI cZ (u2 0) u3) ++ w_House cI cZ u4) ++ w_Spots cI cZ u5)) H := hP
  have hD : va_D A ((h0, .inr (0, [.ref (u1 0), .ref (u2 0), .ref u3.1, .ref (u4 0), .null, .null, .null, .null, .null, .null, .null, .int 0, .int 0])) :: ((((([] ++ w_Rows cI cZ u1) ++ w_Tape cI cZ u2) ++ w_Reader cI cZ (u2 0) u3) ++ w_House cI cZ u4) ++ w_Spots cI cZ u5)) := hD
  refine va_putF (D := D) (ci := 0) (v := .ref (u5 0)) (ty := .object "PaperedOver$Spots") (C := rc_0) (T := tc_0) (N := 13) hx hb htg uw_0 yc_0 yo_0 nc_0 hown hK hP hD hS 0 rfl rfl 4 (by decide) (htg (.fieldLink "PaperedOver" 42 "PaperedOver" "spots" "LPaperedOver$Spots;") (gm 369 (by decide +kernel) (by decide +kernel))) (fun _ h9 => h9) rfl hin rfl (by decide +kernel) rfl rfl (Nat.le_of_ble_eq_true rfl) dc_0_60 (fun H locs hP hD hS => ?_)
  have hP : va_P D am_cls ((h0, .inr (0, [.ref (u1 0), .ref (u2 0), .ref u3.1, .ref (u4 0), .ref (u5 0), .null, .null, .null, .null, .null, .null, .int 0, .int 0])) :: ((((([] ++ w_Rows cI cZ u1) ++ w_Tape cI cZ u2) ++ w_Reader cI cZ (u2 0) u3) ++ w_House cI cZ u4) ++ w_Spots cI cZ u5)) H := hP
  have hD : va_D A ((h0, .inr (0, [.ref (u1 0), .ref (u2 0), .ref u3.1, .ref (u4 0), .ref (u5 0), .null, .null, .null, .null, .null, .null, .int 0, .int 0])) :: ((((([] ++ w_Rows cI cZ u1) ++ w_Tape cI cZ u2) ++ w_Reader cI cZ (u2 0) u3) ++ w_House cI cZ u4) ++ w_Spots cI cZ u5)) := hD
  refine lv_aload_n hx hb dc_0_63 rfl (lv_at hl 0 rfl) ?_
  refine va_new (ci := 6) (fs := [.null, .null]) (C := rc_6) (T := tc_6) (N := 2) hx hb htg uw_6 yc_6 yo_6 hown (htg (.classLink "PaperedOver" 46 "PaperedOver$Image") (gm 239 (by decide +kernel) (by decide +kernel))) (htg (.instantiable "PaperedOver$Image" 2) (gm 240 (by decide +kernel) (by decide +kernel))) (htg (.initialized "PaperedOver$Image") (gm 48 (by decide +kernel) (by decide +kernel))) hK hP hD hS hA rfl (fun j hj => by rcases (show j = 0 ∨ j = 1 by omega) with rfl | rfl <;> rfl) (Nat.le_of_ble_eq_true rfl) (Nat.le_of_ble_eq_true rfl) dc_0_64 (fun q6 H hP hD hS => ?_)
  refine W.widen (k := 37) (n := 1190) (Nat.le_of_ble_eq_true rfl) (Nat.le_of_ble_eq_true rfl) ?_
  refine lv_dup hx hb dc_0_67 rfl ?_
  refine ci_call (va_runIN (host := "PaperedOver") (As := []) (rest := [.ref (q6), .ref (h0)]) ⟨hx, hb, hml, hown, htg⟩ (ci_Image l D cI cZ q6 H.size) ⟨va_cnB (ws' := gtb) 0 htg (gc (gm 243 (by decide +kernel) (by decide +kernel))) rfl rfl rfl (hN (.methodLinkNest "PaperedOver" 48 (⟨"PaperedOver$Image", "<init>", "()V"⟩ : MethodName) "PaperedOver") (List.mem_of_getElem? (i := 5) rfl)) (htg (.initialized "PaperedOver$Image") (gm 48 (by decide +kernel) (by decide +kernel))) ⟨(by decide +kernel), (by decide +kernel), (by decide +kernel)⟩ ⟨(Nat.le_of_ble_eq_true rfl), (Nat.le_of_ble_eq_true rfl)⟩, rfl, (htg (.instanceMethod (⟨"PaperedOver$Image", "<init>", "()V"⟩ : MethodName)) (gm 242 (by decide +kernel) (by decide +kernel)))⟩ (ci_pre hK hN hP) rfl rfl hl.1 rfl (lv_room (Nat.le_of_ble_eq_true rfl)) dc_0_68 ⟨(Nat.le_of_ble_eq_true rfl), (Nat.le_of_ble_eq_true rfl)⟩) hP hD hS hA (fun u6 H locs hu hP2 hD2 hS2 => ?_)
  obtain rfl : u6.1 = q6 := hu
  have hP := hP2
  have hD := hD2
  have hS := hS2
  refine W.widen (k := 53) (n := 1402) (Nat.le_of_ble_eq_true rfl) (Nat.le_of_ble_eq_true rfl) ?_
  have hP : va_P D am_cls ((h0, .inr (0, [.ref (u1 0), .ref (u2 0), .ref u3.1, .ref (u4 0), .ref (u5 0), .null, .null, .null, .null, .null, .null, .int 0, .int 0])) :: (((((([] ++ w_Rows cI cZ u1) ++ w_Tape cI cZ u2) ++ w_Reader cI cZ (u2 0) u3) ++ w_House cI cZ u4) ++ w_Spots cI cZ u5) ++ w_Image cI cZ u6)) H := hP
  have hD : va_D A ((h0, .inr (0, [.ref (u1 0), .ref (u2 0), .ref u3.1, .ref (u4 0), .ref (u5 0), .null, .null, .null, .null, .null, .null, .int 0, .int 0])) :: (((((([] ++ w_Rows cI cZ u1) ++ w_Tape cI cZ u2) ++ w_Reader cI cZ (u2 0) u3) ++ w_House cI cZ u4) ++ w_Spots cI cZ u5) ++ w_Image cI cZ u6)) := hD
  refine va_putF (D := D) (ci := 0) (v := .ref u6.1) (ty := .object "PaperedOver$Image") (C := rc_0) (T := tc_0) (N := 13) hx hb htg uw_0 yc_0 yo_0 nc_0 hown hK hP hD hS 0 rfl rfl 5 (by decide) (htg (.fieldLink "PaperedOver" 49 "PaperedOver" "imageA" "LPaperedOver$Image;") (gm 370 (by decide +kernel) (by decide +kernel))) (fun _ h9 => h9) rfl hin rfl (by decide +kernel) rfl rfl (Nat.le_of_ble_eq_true rfl) dc_0_71 (fun H locs hP hD hS => ?_)
  have hP : va_P D am_cls ((h0, .inr (0, [.ref (u1 0), .ref (u2 0), .ref u3.1, .ref (u4 0), .ref (u5 0), .ref u6.1, .null, .null, .null, .null, .null, .int 0, .int 0])) :: (((((([] ++ w_Rows cI cZ u1) ++ w_Tape cI cZ u2) ++ w_Reader cI cZ (u2 0) u3) ++ w_House cI cZ u4) ++ w_Spots cI cZ u5) ++ w_Image cI cZ u6)) H := hP
  have hD : va_D A ((h0, .inr (0, [.ref (u1 0), .ref (u2 0), .ref u3.1, .ref (u4 0), .ref (u5 0), .ref u6.1, .null, .null, .null, .null, .null, .int 0, .int 0])) :: (((((([] ++ w_Rows cI cZ u1) ++ w_Tape cI cZ u2) ++ w_Reader cI cZ (u2 0) u3) ++ w_House cI cZ u4) ++ w_Spots cI cZ u5) ++ w_Image cI cZ u6)) := hD
  refine lv_aload_n hx hb dc_0_74 rfl (lv_at hl 0 rfl) ?_
  refine va_new (ci := 6) (fs := [.null, .null]) (C := rc_6) (T := tc_6) (N := 2) hx hb htg uw_6 yc_6 yo_6 hown (htg (.classLink "PaperedOver" 46 "PaperedOver$Image") (gm 239 (by decide +kernel) (by decide +kernel))) (htg (.instantiable "PaperedOver$Image" 2) (gm 240 (by decide +kernel) (by decide +kernel))) (htg (.initialized "PaperedOver$Image") (gm 48 (by decide +kernel) (by decide +kernel))) hK hP hD hS hA rfl (fun j hj => by rcases (show j = 0 ∨ j = 1 by omega) with rfl | rfl <;> rfl) (Nat.le_of_ble_eq_true rfl) (Nat.le_of_ble_eq_true rfl) dc_0_75 (fun q7 H hP hD hS => ?_)
  refine W.widen (k := 54) (n := 1404) (Nat.le_of_ble_eq_true rfl) (Nat.le_of_ble_eq_true rfl) ?_
  refine lv_dup hx hb dc_0_78 rfl ?_
  refine ci_call (va_runIN (host := "PaperedOver") (As := []) (rest := [.ref (q7), .ref (h0)]) ⟨hx, hb, hml, hown, htg⟩ (ci_Image l D cI cZ q7 H.size) ⟨va_cnB (ws' := gtb) 0 htg (gc (gm 243 (by decide +kernel) (by decide +kernel))) rfl rfl rfl (hN (.methodLinkNest "PaperedOver" 48 (⟨"PaperedOver$Image", "<init>", "()V"⟩ : MethodName) "PaperedOver") (List.mem_of_getElem? (i := 5) rfl)) (htg (.initialized "PaperedOver$Image") (gm 48 (by decide +kernel) (by decide +kernel))) ⟨(by decide +kernel), (by decide +kernel), (by decide +kernel)⟩ ⟨(Nat.le_of_ble_eq_true rfl), (Nat.le_of_ble_eq_true rfl)⟩, rfl, (htg (.instanceMethod (⟨"PaperedOver$Image", "<init>", "()V"⟩ : MethodName)) (gm 242 (by decide +kernel) (by decide +kernel)))⟩ (ci_pre hK hN hP) rfl rfl hl.1 rfl (lv_room (Nat.le_of_ble_eq_true rfl)) dc_0_79 ⟨(Nat.le_of_ble_eq_true rfl), (Nat.le_of_ble_eq_true rfl)⟩) hP hD hS hA (fun u7 H locs hu hP2 hD2 hS2 => ?_)
  obtain rfl : u7.1 = q7 := hu
  have hP := hP2
  have hD := hD2
  have hS := hS2
  refine W.widen (k := 70) (n := 1616) (Nat.le_of_ble_eq_true rfl) (Nat.le_of_ble_eq_true rfl) ?_
  have hP : va_P D am_cls ((h0, .inr (0, [.ref (u1 0), .ref (u2 0), .ref u3.1, .ref (u4 0), .ref (u5 0), .ref u6.1, .null, .null, .null, .null, .null, .int 0, .int 0])) :: ((((((([] ++ w_Rows cI cZ u1) ++ w_Tape cI cZ u2) ++ w_Reader cI cZ (u2 0) u3) ++ w_House cI cZ u4) ++ w_Spots cI cZ u5) ++ w_Image cI cZ u6) ++ w_Image cI cZ u7)) H := hP
  have hD : va_D A ((h0, .inr (0, [.ref (u1 0), .ref (u2 0), .ref u3.1, .ref (u4 0), .ref (u5 0), .ref u6.1, .null, .null, .null, .null, .null, .int 0, .int 0])) :: ((((((([] ++ w_Rows cI cZ u1) ++ w_Tape cI cZ u2) ++ w_Reader cI cZ (u2 0) u3) ++ w_House cI cZ u4) ++ w_Spots cI cZ u5) ++ w_Image cI cZ u6) ++ w_Image cI cZ u7)) := hD
  refine va_putF (D := D) (ci := 0) (v := .ref u7.1) (ty := .object "PaperedOver$Image") (C := rc_0) (T := tc_0) (N := 13) hx hb htg uw_0 yc_0 yo_0 nc_0 hown hK hP hD hS 0 rfl rfl 6 (by decide) (htg (.fieldLink "PaperedOver" 53 "PaperedOver" "imageB" "LPaperedOver$Image;") (gm 371 (by decide +kernel) (by decide +kernel))) (fun _ h9 => h9) rfl hin rfl (by decide +kernel) rfl rfl (Nat.le_of_ble_eq_true rfl) dc_0_82 (fun H locs hP hD hS => ?_)
  have hP : va_P D am_cls ((h0, .inr (0, [.ref (u1 0), .ref (u2 0), .ref u3.1, .ref (u4 0), .ref (u5 0), .ref u6.1, .ref u7.1, .null, .null, .null, .null, .int 0, .int 0])) :: ((((((([] ++ w_Rows cI cZ u1) ++ w_Tape cI cZ u2) ++ w_Reader cI cZ (u2 0) u3) ++ w_House cI cZ u4) ++ w_Spots cI cZ u5) ++ w_Image cI cZ u6) ++ w_Image cI cZ u7)) H := hP
  have hD : va_D A ((h0, .inr (0, [.ref (u1 0), .ref (u2 0), .ref u3.1, .ref (u4 0), .ref (u5 0), .ref u6.1, .ref u7.1, .null, .null, .null, .null, .int 0, .int 0])) :: ((((((([] ++ w_Rows cI cZ u1) ++ w_Tape cI cZ u2) ++ w_Reader cI cZ (u2 0) u3) ++ w_House cI cZ u4) ++ w_Spots cI cZ u5) ++ w_Image cI cZ u6) ++ w_Image cI cZ u7)) := hD
  refine lv_aload_n hx hb dc_0_85 rfl (lv_at hl 0 rfl) ?_
  refine va_new (ci := 7) (fs := [.null, .null, .int 0, .int 0, .null, .null, .null, .null, .int 0, .null, .null]) (C := rc_7) (T := tc_7) (N := 11) hx hb htg uw_7 yc_7 yo_7 hown (htg (.classLink "PaperedOver" 56 "PaperedOver$Facts") (gm 258 (by decide +kernel) (by decide +kernel))) (htg (.instantiable "PaperedOver$Facts" 11) (gm 259 (by decide +kernel) (by decide +kernel))) (htg (.initialized "PaperedOver$Facts") (gm 49 (by decide +kernel) (by decide +kernel))) hK hP hD hS hA rfl (fun j hj => by rcases (show j = 0 ∨ j = 1 ∨ j = 2 ∨ j = 3 ∨ j = 4 ∨ j = 5 ∨ j = 6 ∨ j = 7 ∨ j = 8 ∨ j = 9 ∨ j = 10 by omega) with rfl | rfl | rfl | rfl | rfl | rfl | rfl | rfl | rfl | rfl | rfl <;> rfl) (Nat.le_of_ble_eq_true rfl) (Nat.le_of_ble_eq_true rfl) dc_0_86 (fun q8 H hP hD hS => ?_)
  refine W.widen (k := 71) (n := 1627) (Nat.le_of_ble_eq_true rfl) (Nat.le_of_ble_eq_true rfl) ?_
  refine lv_dup hx hb dc_0_89 rfl ?_
  refine lv_aload_n hx hb dc_0_90 rfl (lv_at hl 0 rfl) ?_
  refine va_get (D := D) (ci := 0) (v := .ref (u4 0)) (C := rc_0) (T := tc_0) (N := 13) hx hb htg uw_0 hown hK hP 0 rfl rfl 3 (by decide) (htg (.fieldLink "PaperedOver" 35 "PaperedOver" "house" "LPaperedOver$House;") (gm 368 (by decide +kernel) (by decide +kernel))) (fun _ h9 => h9) rfl dc_0_91 ?_
  refine lv_aload_n hx hb dc_0_94 rfl (lv_at hl 0 rfl) ?_
  refine va_get (D := D) (ci := 0) (v := .ref (u5 0)) (C := rc_0) (T := tc_0) (N := 13) hx hb htg uw_0 hown hK hP 0 rfl rfl 4 (by decide) (htg (.fieldLink "PaperedOver" 42 "PaperedOver" "spots" "LPaperedOver$Spots;") (gm 369 (by decide +kernel) (by decide +kernel))) (fun _ h9 => h9) rfl dc_0_95 ?_
  refine ci_call (va_runI (As := [.ref (u4 0), .ref (u5 0)]) (rest := [.ref (q8), .ref (h0)]) ⟨hx, hb, hml, hown, htg⟩ (ci_Facts l D cI cZ q8 H.size (u4 0) (u5 0)) (cwI (ws' := gtb) 2 htg (gc (gm 262 (by decide +kernel) (by decide +kernel))) rfl rfl rfl (htg (.initialized "PaperedOver$Facts") (gm 49 (by decide +kernel) (by decide +kernel))) (htg (.methodLink "PaperedOver" 58 (⟨"PaperedOver$Facts", "<init>", "(LPaperedOver$House;LPaperedOver$Spots;)V"⟩ : MethodName)) (gm 260 (by decide +kernel) (by decide +kernel))) (htg (.instanceMethod (⟨"PaperedOver$Facts", "<init>", "(LPaperedOver$House;LPaperedOver$Spots;)V"⟩ : MethodName)) (gm 261 (by decide +kernel) (by decide +kernel))) rfl ⟨(by decide +kernel), (by decide +kernel), (by decide +kernel)⟩ ⟨(Nat.le_of_ble_eq_true rfl), (Nat.le_of_ble_eq_true rfl)⟩) (ci_pre hK hN hP) rfl rfl hl.1 rfl (lv_room (Nat.le_of_ble_eq_true rfl)) dc_0_98 ⟨(Nat.le_of_ble_eq_true rfl), (Nat.le_of_ble_eq_true rfl)⟩) hP hD hS hA (fun u8 H locs hu hP2 hD2 hS2 => ?_)
  obtain rfl : u8 0 = q8 := hu
  have hP := hP2
  have hD := hD2
  have hS := hS2
  refine W.widen (k := 77) (n := 1685) (Nat.le_of_ble_eq_true rfl) (Nat.le_of_ble_eq_true rfl) ?_
  have hP : va_P D am_cls ((h0, .inr (0, [.ref (u1 0), .ref (u2 0), .ref u3.1, .ref (u4 0), .ref (u5 0), .ref u6.1, .ref u7.1, .null, .null, .null, .null, .int 0, .int 0])) :: (((((((([] ++ w_Rows cI cZ u1) ++ w_Tape cI cZ u2) ++ w_Reader cI cZ (u2 0) u3) ++ w_House cI cZ u4) ++ w_Spots cI cZ u5) ++ w_Image cI cZ u6) ++ w_Image cI cZ u7) ++ w_Facts cI cZ (u4 0) (u5 0) u8)) H := hP
  have hD : va_D A ((h0, .inr (0, [.ref (u1 0), .ref (u2 0), .ref u3.1, .ref (u4 0), .ref (u5 0), .ref u6.1, .ref u7.1, .null, .null, .null, .null, .int 0, .int 0])) :: (((((((([] ++ w_Rows cI cZ u1) ++ w_Tape cI cZ u2) ++ w_Reader cI cZ (u2 0) u3) ++ w_House cI cZ u4) ++ w_Spots cI cZ u5) ++ w_Image cI cZ u6) ++ w_Image cI cZ u7) ++ w_Facts cI cZ (u4 0) (u5 0) u8)) := hD
  refine va_putF (D := D) (ci := 0) (v := .ref (u8 0)) (ty := .object "PaperedOver$Facts") (C := rc_0) (T := tc_0) (N := 13) hx hb htg uw_0 yc_0 yo_0 nc_0 hown hK hP hD hS 0 rfl rfl 7 (by decide) (htg (.fieldLink "PaperedOver" 61 "PaperedOver" "facts" "LPaperedOver$Facts;") (gm 372 (by decide +kernel) (by decide +kernel))) (fun _ h9 => h9) rfl hin rfl (by decide +kernel) rfl rfl (Nat.le_of_ble_eq_true rfl) dc_0_101 (fun H locs hP hD hS => ?_)
  have hP : va_P D am_cls ((h0, .inr (0, [.ref (u1 0), .ref (u2 0), .ref u3.1, .ref (u4 0), .ref (u5 0), .ref u6.1, .ref u7.1, .ref (u8 0), .null, .null, .null, .int 0, .int 0])) :: (((((((([] ++ w_Rows cI cZ u1) ++ w_Tape cI cZ u2) ++ w_Reader cI cZ (u2 0) u3) ++ w_House cI cZ u4) ++ w_Spots cI cZ u5) ++ w_Image cI cZ u6) ++ w_Image cI cZ u7) ++ w_Facts cI cZ (u4 0) (u5 0) u8)) H := hP
  have hD : va_D A ((h0, .inr (0, [.ref (u1 0), .ref (u2 0), .ref u3.1, .ref (u4 0), .ref (u5 0), .ref u6.1, .ref u7.1, .ref (u8 0), .null, .null, .null, .int 0, .int 0])) :: (((((((([] ++ w_Rows cI cZ u1) ++ w_Tape cI cZ u2) ++ w_Reader cI cZ (u2 0) u3) ++ w_House cI cZ u4) ++ w_Spots cI cZ u5) ++ w_Image cI cZ u6) ++ w_Image cI cZ u7) ++ w_Facts cI cZ (u4 0) (u5 0) u8)) := hD
  refine lv_aload_n hx hb dc_0_104 rfl (lv_at hl 0 rfl) ?_
  refine va_new (ci := 8) (fs := [.null, .int 0, .null, .null, .null]) (C := rc_8) (T := tc_8) (N := 5) hx hb htg uw_8 yc_8 yo_8 hown (htg (.classLink "PaperedOver" 65 "PaperedOver$Orders") (gm 308 (by decide +kernel) (by decide +kernel))) (htg (.instantiable "PaperedOver$Orders" 5) (gm 309 (by decide +kernel) (by decide +kernel))) (htg (.initialized "PaperedOver$Orders") (gm 50 (by decide +kernel) (by decide +kernel))) hK hP hD hS hA rfl (fun j hj => by rcases (show j = 0 ∨ j = 1 ∨ j = 2 ∨ j = 3 ∨ j = 4 by omega) with rfl | rfl | rfl | rfl | rfl <;> rfl) (Nat.le_of_ble_eq_true rfl) (Nat.le_of_ble_eq_true rfl) dc_0_105 (fun q9 H hP hD hS => ?_)
  refine W.widen (k := 78) (n := 1690) (Nat.le_of_ble_eq_true rfl) (Nat.le_of_ble_eq_true rfl) ?_
  refine lv_dup hx hb dc_0_108 rfl ?_
  refine lv_aload_n hx hb dc_0_109 rfl (lv_at hl 0 rfl) ?_
  refine va_get (D := D) (ci := 0) (v := .ref (u8 0)) (C := rc_0) (T := tc_0) (N := 13) hx hb htg uw_0 hown hK hP 0 rfl rfl 7 (by decide) (htg (.fieldLink "PaperedOver" 61 "PaperedOver" "facts" "LPaperedOver$Facts;") (gm 372 (by decide +kernel) (by decide +kernel))) (fun _ h9 => h9) rfl dc_0_110 ?_
  refine ci_call (va_runI (As := [.ref (u8 0)]) (rest := [.ref (q9), .ref (h0)]) ⟨hx, hb, hml, hown, htg⟩ (ci_Orders l D cI cZ q9 H.size (u8 0)) (cwI (ws' := gtb) 1 htg (gc (gm 312 (by decide +kernel) (by decide +kernel))) rfl rfl rfl (htg (.initialized "PaperedOver$Orders") (gm 50 (by decide +kernel) (by decide +kernel))) (htg (.methodLink "PaperedOver" 67 (⟨"PaperedOver$Orders", "<init>", "(LPaperedOver$Facts;)V"⟩ : MethodName)) (gm 310 (by decide +kernel) (by decide +kernel))) (htg (.instanceMethod (⟨"PaperedOver$Orders", "<init>", "(LPaperedOver$Facts;)V"⟩ : MethodName)) (gm 311 (by decide +kernel) (by decide +kernel))) rfl ⟨(by decide +kernel), (by decide +kernel), (by decide +kernel)⟩ ⟨(Nat.le_of_ble_eq_true rfl), (Nat.le_of_ble_eq_true rfl)⟩) (ci_pre hK hN hP) rfl rfl hl.1 rfl (lv_room (Nat.le_of_ble_eq_true rfl)) dc_0_113 ⟨(Nat.le_of_ble_eq_true rfl), (Nat.le_of_ble_eq_true rfl)⟩) hP hD hS hA (fun u9 H locs hu hP2 hD2 hS2 => ?_)
  obtain rfl : u9 0 = q9 := hu
  have hP := hP2
  have hD := hD2
  have hS := hS2
  refine W.widen (k := 81) (n := 3838) (Nat.le_of_ble_eq_true rfl) (Nat.le_of_ble_eq_true rfl) ?_
  have hP : va_P D am_cls ((h0, .inr (0, [.ref (u1 0), .ref (u2 0), .ref u3.1, .ref (u4 0), .ref (u5 0), .ref u6.1, .ref u7.1, .ref (u8 0), .null, .null, .null, .int 0, .int 0])) :: ((((((((([] ++ w_Rows cI cZ u1) ++ w_Tape cI cZ u2) ++ w_Reader cI cZ (u2 0) u3) ++ w_House cI cZ u4) ++ w_Spots cI cZ u5) ++ w_Image cI cZ u6) ++ w_Image cI cZ u7) ++ w_Facts cI cZ (u4 0) (u5 0) u8) ++ w_Orders cI cZ (u8 0) u9)) H := hP
  have hD : va_D A ((h0, .inr (0, [.ref (u1 0), .ref (u2 0), .ref u3.1, .ref (u4 0), .ref (u5 0), .ref u6.1, .ref u7.1, .ref (u8 0), .null, .null, .null, .int 0, .int 0])) :: ((((((((([] ++ w_Rows cI cZ u1) ++ w_Tape cI cZ u2) ++ w_Reader cI cZ (u2 0) u3) ++ w_House cI cZ u4) ++ w_Spots cI cZ u5) ++ w_Image cI cZ u6) ++ w_Image cI cZ u7) ++ w_Facts cI cZ (u4 0) (u5 0) u8) ++ w_Orders cI cZ (u8 0) u9)) := hD
  refine va_putF (D := D) (ci := 0) (v := .ref (u9 0)) (ty := .object "PaperedOver$Orders") (C := rc_0) (T := tc_0) (N := 13) hx hb htg uw_0 yc_0 yo_0 nc_0 hown hK hP hD hS 0 rfl rfl 8 (by decide) (htg (.fieldLink "PaperedOver" 70 "PaperedOver" "parted" "LPaperedOver$Orders;") (gm 373 (by decide +kernel) (by decide +kernel))) (fun _ h9 => h9) rfl hin rfl (by decide +kernel) rfl rfl (Nat.le_of_ble_eq_true rfl) dc_0_116 (fun H locs hP hD hS => ?_)
  have hP : va_P D am_cls ((h0, .inr (0, [.ref (u1 0), .ref (u2 0), .ref u3.1, .ref (u4 0), .ref (u5 0), .ref u6.1, .ref u7.1, .ref (u8 0), .ref (u9 0), .null, .null, .int 0, .int 0])) :: ((((((((([] ++ w_Rows cI cZ u1) ++ w_Tape cI cZ u2) ++ w_Reader cI cZ (u2 0) u3) ++ w_House cI cZ u4) ++ w_Spots cI cZ u5) ++ w_Image cI cZ u6) ++ w_Image cI cZ u7) ++ w_Facts cI cZ (u4 0) (u5 0) u8) ++ w_Orders cI cZ (u8 0) u9)) H := hP
  have hD : va_D A ((h0, .inr (0, [.ref (u1 0), .ref (u2 0), .ref u3.1, .ref (u4 0), .ref (u5 0), .ref u6.1, .ref u7.1, .ref (u8 0), .ref (u9 0), .null, .null, .int 0, .int 0])) :: ((((((((([] ++ w_Rows cI cZ u1) ++ w_Tape cI cZ u2) ++ w_Reader cI cZ (u2 0) u3) ++ w_House cI cZ u4) ++ w_Spots cI cZ u5) ++ w_Image cI cZ u6) ++ w_Image cI cZ u7) ++ w_Facts cI cZ (u4 0) (u5 0) u8) ++ w_Orders cI cZ (u8 0) u9)) := hD
  refine lv_aload_n hx hb dc_0_119 rfl (lv_at hl 0 rfl) ?_
  refine va_new (ci := 9) (fs := [.int 0, .int 0, .int 0]) (C := rc_9) (T := tc_9) (N := 3) hx hb htg uw_9 yc_9 yo_9 hown (htg (.classLink "PaperedOver" 74 "PaperedOver$Cutter") (gm 331 (by decide +kernel) (by decide +kernel))) (htg (.instantiable "PaperedOver$Cutter" 3) (gm 332 (by decide +kernel) (by decide +kernel))) (htg (.initialized "PaperedOver$Cutter") (gm 51 (by decide +kernel) (by decide +kernel))) hK hP hD hS hA rfl (fun j hj => by rcases (show j = 0 ∨ j = 1 ∨ j = 2 by omega) with rfl | rfl | rfl <;> rfl) (Nat.le_of_ble_eq_true rfl) (Nat.le_of_ble_eq_true rfl) dc_0_120 (fun q10 H hP hD hS => ?_)
  refine W.widen (k := 82) (n := 3841) (Nat.le_of_ble_eq_true rfl) (Nat.le_of_ble_eq_true rfl) ?_
  refine lv_dup hx hb dc_0_123 rfl ?_
  refine ci_call (va_runIN (host := "PaperedOver") (As := []) (rest := [.ref (q10), .ref (h0)]) ⟨hx, hb, hml, hown, htg⟩ (ci_Cutter l D cI cZ q10 H.size) ⟨va_cnB (ws' := gtb) 0 htg (gc (gm 335 (by decide +kernel) (by decide +kernel))) rfl rfl rfl (hN (.methodLinkNest "PaperedOver" 76 (⟨"PaperedOver$Cutter", "<init>", "()V"⟩ : MethodName) "PaperedOver") (List.mem_of_getElem? (i := 8) rfl)) (htg (.initialized "PaperedOver$Cutter") (gm 51 (by decide +kernel) (by decide +kernel))) ⟨(by decide +kernel), (by decide +kernel), (by decide +kernel)⟩ ⟨(Nat.le_of_ble_eq_true rfl), (Nat.le_of_ble_eq_true rfl)⟩, rfl, (htg (.instanceMethod (⟨"PaperedOver$Cutter", "<init>", "()V"⟩ : MethodName)) (gm 334 (by decide +kernel) (by decide +kernel)))⟩ (ci_pre hK hN hP) rfl rfl hl.1 rfl (lv_room (Nat.le_of_ble_eq_true rfl)) dc_0_124 ⟨(Nat.le_of_ble_eq_true rfl), (Nat.le_of_ble_eq_true rfl)⟩) hP hD hS hA (fun u10 H locs hu hP2 hD2 hS2 => ?_)
  obtain rfl : u10 0 = q10 := hu
  have hP := hP2
  have hD := hD2
  have hS := hS2
  refine W.widen (k := 82) (n := 3841) (Nat.le_of_ble_eq_true rfl) (Nat.le_of_ble_eq_true rfl) ?_
  have hP : va_P D am_cls ((h0, .inr (0, [.ref (u1 0), .ref (u2 0), .ref u3.1, .ref (u4 0), .ref (u5 0), .ref u6.1, .ref u7.1, .ref (u8 0), .ref (u9 0), .null, .null, .int 0, .int 0])) :: (((((((((([] ++ w_Rows cI cZ u1) ++ w_Tape cI cZ u2) ++ w_Reader cI cZ (u2 0) u3) ++ w_House cI cZ u4) ++ w_Spots cI cZ u5) ++ w_Image cI cZ u6) ++ w_Image cI cZ u7) ++ w_Facts cI cZ (u4 0) (u5 0) u8) ++ w_Orders cI cZ (u8 0) u9) ++ w_Cutter cI cZ u10)) H := hP
  have hD : va_D A ((h0, .inr (0, [.ref (u1 0), .ref (u2 0), .ref u3.1, .ref (u4 0), .ref (u5 0), .ref u6.1, .ref u7.1, .ref (u8 0), .ref (u9 0), .null, .null, .int 0, .int 0])) :: (((((((((([] ++ w_Rows cI cZ u1) ++ w_Tape cI cZ u2) ++ w_Reader cI cZ (u2 0) u3) ++ w_House cI cZ u4) ++ w_Spots cI cZ u5) ++ w_Image cI cZ u6) ++ w_Image cI cZ u7) ++ w_Facts cI cZ (u4 0) (u5 0) u8) ++ w_Orders cI cZ (u8 0) u9) ++ w_Cutter cI cZ u10)) := hD
  refine va_putF (D := D) (ci := 0) (v := .ref (u10 0)) (ty := .object "PaperedOver$Cutter") (C := rc_0) (T := tc_0) (N := 13) hx hb htg uw_0 yc_0 yo_0 nc_0 hown hK hP hD hS 0 rfl rfl 9 (by decide) (htg (.fieldLink "PaperedOver" 77 "PaperedOver" "cutter" "LPaperedOver$Cutter;") (gm 374 (by decide +kernel) (by decide +kernel))) (fun _ h9 => h9) rfl hin rfl (by decide +kernel) rfl rfl (Nat.le_of_ble_eq_true rfl) dc_0_127 (fun H locs hP hD hS => ?_)
  have hP : va_P D am_cls ((h0, .inr (0, [.ref (u1 0), .ref (u2 0), .ref u3.1, .ref (u4 0), .ref (u5 0), .ref u6.1, .ref u7.1, .ref (u8 0), .ref (u9 0), .ref (u10 0), .null, .int 0, .int 0])) :: (((((((((([] ++ w_Rows cI cZ u1) ++ w_Tape cI cZ u2) ++ w_Reader cI cZ (u2 0) u3) ++ w_House cI cZ u4) ++ w_Spots cI cZ u5) ++ w_Image cI cZ u6) ++ w_Image cI cZ u7) ++ w_Facts cI cZ (u4 0) (u5 0) u8) ++ w_Orders cI cZ (u8 0) u9) ++ w_Cutter cI cZ u10)) H := hP
  have hD : va_D A ((h0, .inr (0, [.ref (u1 0), .ref (u2 0), .ref u3.1, .ref (u4 0), .ref (u5 0), .ref u6.1, .ref u7.1, .ref (u8 0), .ref (u9 0), .ref (u10 0), .null, .int 0, .int 0])) :: (((((((((([] ++ w_Rows cI cZ u1) ++ w_Tape cI cZ u2) ++ w_Reader cI cZ (u2 0) u3) ++ w_House cI cZ u4) ++ w_Spots cI cZ u5) ++ w_Image cI cZ u6) ++ w_Image cI cZ u7) ++ w_Facts cI cZ (u4 0) (u5 0) u8) ++ w_Orders cI cZ (u8 0) u9) ++ w_Cutter cI cZ u10)) := hD
  refine lv_aload_n hx hb dc_0_130 rfl (lv_at hl 0 rfl) ?_
  refine va_new (ci := 10) (fs := [.null, .int 0]) (C := rc_10) (T := tc_10) (N := 2) hx hb htg uw_10 yc_10 yo_10 hown (htg (.classLink "PaperedOver" 81 "PaperedOver$Bodies") (gm 350 (by decide +kernel) (by decide +kernel))) (htg (.instantiable "PaperedOver$Bodies" 2) (gm 351 (by decide +kernel) (by decide +kernel))) (htg (.initialized "PaperedOver$Bodies") (gm 52 (by decide +kernel) (by decide +kernel))) hK hP hD hS hA rfl (fun j hj => by rcases (show j = 0 ∨ j = 1 by omega) with rfl | rfl <;> rfl) (Nat.le_of_ble_eq_true rfl) (Nat.le_of_ble_eq_true rfl) dc_0_131 (fun q11 H hP hD hS => ?_)
  refine W.widen (k := 83) (n := 3843) (Nat.le_of_ble_eq_true rfl) (Nat.le_of_ble_eq_true rfl) ?_
  refine lv_dup hx hb dc_0_134 rfl ?_
  refine ci_call (va_runIN (host := "PaperedOver") (As := []) (rest := [.ref (q11), .ref (h0)]) ⟨hx, hb, hml, hown, htg⟩ (ci_Bodies l D cI cZ q11 H.size) ⟨va_cnB (ws' := gtb) 0 htg (gc (gm 354 (by decide +kernel) (by decide +kernel))) rfl rfl rfl (hN (.methodLinkNest "PaperedOver" 83 (⟨"PaperedOver$Bodies", "<init>", "()V"⟩ : MethodName) "PaperedOver") (List.mem_of_getElem? (i := 9) rfl)) (htg (.initialized "PaperedOver$Bodies") (gm 52 (by decide +kernel) (by decide +kernel))) ⟨(by decide +kernel), (by decide +kernel), (by decide +kernel)⟩ ⟨(Nat.le_of_ble_eq_true rfl), (Nat.le_of_ble_eq_true rfl)⟩, rfl, (htg (.instanceMethod (⟨"PaperedOver$Bodies", "<init>", "()V"⟩ : MethodName)) (gm 353 (by decide +kernel) (by decide +kernel)))⟩ (ci_pre hK hN hP) rfl rfl hl.1 rfl (lv_room (Nat.le_of_ble_eq_true rfl)) dc_0_135 ⟨(Nat.le_of_ble_eq_true rfl), (Nat.le_of_ble_eq_true rfl)⟩) hP hD hS hA (fun u11 H locs hu hP2 hD2 hS2 => ?_)
  obtain rfl : u11 0 = q11 := hu
  have hP := hP2
  have hD := hD2
  have hS := hS2
  refine W.widen (k := 84) (n := 3859) (Nat.le_of_ble_eq_true rfl) (Nat.le_of_ble_eq_true rfl) ?_
  have hP : va_P D am_cls ((h0, .inr (0, [.ref (u1 0), .ref (u2 0), .ref u3.1, .ref (u4 0), .ref (u5 0), .ref u6.1, .ref u7.1, .ref (u8 0), .ref (u9 0), .ref (u10 0), .null, .int 0, .int 0])) :: ((((((((((([] ++ w_Rows cI cZ u1) ++ w_Tape cI cZ u2) ++ w_Reader cI cZ (u2 0) u3) ++ w_House cI cZ u4) ++ w_Spots cI cZ u5) ++ w_Image cI cZ u6) ++ w_Image cI cZ u7) ++ w_Facts cI cZ (u4 0) (u5 0) u8) ++ w_Orders cI cZ (u8 0) u9) ++ w_Cutter cI cZ u10) ++ w_Bodies cI cZ u11)) H := hP
  have hD : va_D A ((h0, .inr (0, [.ref (u1 0), .ref (u2 0), .ref u3.1, .ref (u4 0), .ref (u5 0), .ref u6.1, .ref u7.1, .ref (u8 0), .ref (u9 0), .ref (u10 0), .null, .int 0, .int 0])) :: ((((((((((([] ++ w_Rows cI cZ u1) ++ w_Tape cI cZ u2) ++ w_Reader cI cZ (u2 0) u3) ++ w_House cI cZ u4) ++ w_Spots cI cZ u5) ++ w_Image cI cZ u6) ++ w_Image cI cZ u7) ++ w_Facts cI cZ (u4 0) (u5 0) u8) ++ w_Orders cI cZ (u8 0) u9) ++ w_Cutter cI cZ u10) ++ w_Bodies cI cZ u11)) := hD
  refine va_putF (D := D) (ci := 0) (v := .ref (u11 0)) (ty := .object "PaperedOver$Bodies") (C := rc_0) (T := tc_0) (N := 13) hx hb htg uw_0 yc_0 yo_0 nc_0 hown hK hP hD hS 0 rfl rfl 10 (by decide) (htg (.fieldLink "PaperedOver" 84 "PaperedOver" "bodies" "LPaperedOver$Bodies;") (gm 375 (by decide +kernel) (by decide +kernel))) (fun _ h9 => h9) rfl hin rfl (by decide +kernel) rfl rfl (Nat.le_of_ble_eq_true rfl) dc_0_138 (fun H locs hP hD hS => ?_)
  have hP : va_P D am_cls ((h0, .inr (0, [.ref (u1 0), .ref (u2 0), .ref u3.1, .ref (u4 0), .ref (u5 0), .ref u6.1, .ref u7.1, .ref (u8 0), .ref (u9 0), .ref (u10 0), .ref (u11 0), .int 0, .int 0])) :: ((((((((((([] ++ w_Rows cI cZ u1) ++ w_Tape cI cZ u2) ++ w_Reader cI cZ (u2 0) u3) ++ w_House cI cZ u4) ++ w_Spots cI cZ u5) ++ w_Image cI cZ u6) ++ w_Image cI cZ u7) ++ w_Facts cI cZ (u4 0) (u5 0) u8) ++ w_Orders cI cZ (u8 0) u9) ++ w_Cutter cI cZ u10) ++ w_Bodies cI cZ u11)) H := hP
  have hD : va_D A ((h0, .inr (0, [.ref (u1 0), .ref (u2 0), .ref u3.1, .ref (u4 0), .ref (u5 0), .ref u6.1, .ref u7.1, .ref (u8 0), .ref (u9 0), .ref (u10 0), .ref (u11 0), .int 0, .int 0])) :: ((((((((((([] ++ w_Rows cI cZ u1) ++ w_Tape cI cZ u2) ++ w_Reader cI cZ (u2 0) u3) ++ w_House cI cZ u4) ++ w_Spots cI cZ u5) ++ w_Image cI cZ u6) ++ w_Image cI cZ u7) ++ w_Facts cI cZ (u4 0) (u5 0) u8) ++ w_Orders cI cZ (u8 0) u9) ++ w_Cutter cI cZ u10) ++ w_Bodies cI cZ u11)) := hD
  have hP9 : va_P D am_cls (w_Main cI cZ (h0, u1, u2, u3, u4, u5, u6, u7, u8, u9, u10, u11)) _ := hP
  have hD9 : va_D A (w_Main cI cZ (h0, u1, u2, u3, u4, u5, u6, u7, u8, u9, u10, u11)) := hD
  exact W.vret hx hb hr (fun t ht hW => ⟨⟨(h0, u1, u2, u3, u4, u5, u6, u7, u8, u9, u10, u11), rfl, rfl, by rw [ht]; exact hP9, hD9⟩, hS.F ht⟩) hS.2.2 dc_0_141
