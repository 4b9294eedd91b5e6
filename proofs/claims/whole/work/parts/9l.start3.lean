def R_law : String := "PaperedOverLaw"
def lw_P (b : Addr) (xs : List Int32) (args : Array Value) (s : State) : Prop := args = #[.ref b] ∧ s.IntsAt b xs ∧ xs.length ≤ 384 ∧ (Jvm.Cond.and given_1 narrow_1).before args s = true
def lw_Q (_ : Array Value) (s : State) (o : Outcome) (t : State) : Prop := o = .returned (some (.int 1)) ∧ Framed s o t [] 600000 7302250
def lw_Z (below : List Frame) (a : Array Value) (s : State) : State → Prop := fun t => ∃ o, t.status = .running ∧ Ended t below o ∧ lw_Q a s o t
/-- the law's own end, with 1 on the stack, nothing written that was there before, its room as the claim has it -/
theorem lw_ret {p : Program} {l : Launch} {e : Env} {s : State} {m : MethodId} {below : List Frame} {meth : Method} {c : Code} {b : Nat} (hx : p.tables.exec = Jvm.exec) (hb : c.code = code) (hr : meth.sig.returnType = ret) (hlocks : meth.locks = false) {pc : Nat} {H : Heap} {ls : Array Slot} (hdg : decode code pc = .ok (.ireturn, 1)) : W p l e room_1 s m #[Value.ref b] below meth c H [] 600000 7302250 (lw_Z below #[Value.ref b] s) (F0 m pc ls [.int 1]) := by
  intro T hT X
  obtain ⟨fs, hret, hrun, hended, hW, hframe⟩ := X.leave (v := some (.int 1)) (hlocks := hlocks) (fun h => by rw [hr] at h; cases h)
  have hmeth' : T.vm.method? m = some meth := X.method'
  refine ⟨T.setFrames fs, ?_, .returned (some (.int 1)), hrun, hended, rfl, ⟨_, rfl⟩, hW, hframe⟩
  jvm_step X.here [X.here.top, hx, hb, hdg, hmeth', hr, ret, narrow_b1]
  (try refine ⟨rfl, ?_⟩); (try refine ⟨rfl, ?_⟩)
  first | (intro acts; rw [hret _ acts rfl rfl rfl]) | rw [hret _ _ rfl rfl rfl]
  exact Steps.refl _
/-- what holds at the law's entry: the machine, the code, the tables' words (any of lw_tbl by 'hts w (by decide +kernel)'), the script of L ints xs at the cell b, what the Statement gives of the start (any of its parts by flat_of_before) -/
def lw_At (p : Program) (s : State) (m : MethodId) (meth : Method) (c : Code) (b L : Nat) (xs : Nat → Int32) : Prop :=
  p.tables.exec = Jvm.exec ∧ c.code = code ∧ meth.sig.returnType = ret ∧ c.maxLocals = 4 ∧ s.vm.findClass R_law = some m.cls ∧ (∀ w ∈ lw_tbl, w.before #[Value.ref b] s = true) ∧ va_X b L xs s s.heap ∧ b < s.heap.size ∧ meth.locks = false ∧ (Jvm.Cond.and given_1 narrow_1).before #[Value.ref b] s = true
theorem dw_0 : decode code 0 = .ok (.new 7, 3) := by decide +kernel
theorem dw_3 : decode code 3 = .ok (.dup, 1) := by decide +kernel
theorem dw_4 : decode code 4 = .ok (.invokespecial 9, 3) := by decide +kernel
theorem dw_7 : decode code 7 = .ok (.astore_n 1, 1) := by decide +kernel
theorem dw_8 : decode code 8 = .ok (.new 10, 3) := by decide +kernel
theorem dw_11 : decode code 11 = .ok (.dup, 1) := by decide +kernel
theorem dw_12 : decode code 12 = .ok (.invokespecial 12, 3) := by decide +kernel
theorem dw_15 : decode code 15 = .ok (.astore_n 2, 1) := by decide +kernel
theorem dw_16 : decode code 16 = .ok (.iconst 0, 1) := by decide +kernel
theorem dw_17 : decode code 17 = .ok (.istore_n 3, 1) := by decide +kernel
set_option maxHeartbeats 4000000 in
set_option maxRecDepth 100000 in
theorem whole_start {p : Program} {e : Env} {s : State} {m : MethodId} {below : List Frame} {meth : Method} {c : Code} (l : Launch) (hflags : l.flags = flags0) {b L : Nat} {xs : Nat → Int32} (hL : L ≤ 384) (C0 : lw_At p s m meth c b L xs) : W p l e room_1 s m #[Value.ref b] below meth c s.heap [] 0 0 (lw_Z below #[Value.ref b] s) (entryFrame m ([Value.ref b] : List Value).toArray 4) := by
  obtain ⟨hx, hb, hr, hml, hown, hts, hX, hbl, hlocks, hgv⟩ := id C0
  have htg : ∀ w ∈ gtb, w.before #[Value.ref b] s = true := fun w h => hts w (List.mem_filter.mp h).1
  have hA : ∀ q : Nat, s.heap.size ≤ q → (fun q : Nat => s.heap.size ≤ q) q := fun _ h => h
  have hA2 : ∀ a : Nat, a < s.heap.size → ¬ (fun q : Nat => s.heap.size ≤ q) a := fun a h => Nat.not_le.mpr h
  obtain ⟨zt, hzt⟩ := lw_tabs hts hgv hA2
  obtain ⟨sk, sv, hsv, hsr⟩ := lw_strs hts hgv hA2
  have hs := flat_of_before _ hgv
  have hcs := va_Zof (A := fun q : Nat => s.heap.size ≤ q) (v := .int 1) (hts (.laysStatic "java/lang/String" "COMPACT_STRINGS" "Z") (List.mem_of_getElem? (i := 544) (by decide +kernel))) (hts (.initialized "java/lang/String") (List.mem_of_getElem? (i := 56) (by decide +kernel))) (va_eqt (hs (.eq (.static "java/lang/String" "COMPACT_STRINGS" "Z") (.int 1)) (by decide +kernel))) hA2
  have hfq := va_Zqof (A := fun q : Nat => s.heap.size ≤ q) (hts (.laysStatic "jdk/internal/util/Preconditions" "SIOOBE_FORMATTER" "Ljava/util/function/BiFunction;") (List.mem_of_getElem? (i := 560) (by decide +kernel))) (hts (.initialized "jdk/internal/util/Preconditions") (List.mem_of_getElem? (i := 58) (by decide +kernel))) (hs (.isRef (.static "jdk/internal/util/Preconditions" "SIOOBE_FORMATTER" "Ljava/util/function/BiFunction;")) (by decide +kernel)) hA2
  obtain ⟨fv, hfv, hf2⟩ : ∃ fv : Value, va_Z "jdk/internal/util/Preconditions" "SIOOBE_FORMATTER" "Ljava/util/function/BiFunction;" fv (fun q : Nat => s.heap.size ≤ q) s s.heap ∧ (fv = .null ∨ ∃ t : Nat, fv = .ref t) := by
    rcases hfq with h | ⟨t, h⟩
    · exact ⟨_, h, Or.inl rfl⟩
    · exact ⟨_, h, Or.inr ⟨t, rfl⟩⟩
  obtain ⟨cI, hcI, hrI⟩ := lw_cA (htg (.arrayClass .int) (gm 89 (by decide +kernel) (by decide +kernel))) (fun c h => h)
  obtain ⟨cZ, hcZ, hrZ⟩ := lw_cA (htg (.arrayClass .boolean) (gm 88 (by decide +kernel) (by decide +kernel))) (fun c h => h)
  obtain ⟨c0, iS0, hKn0⟩ := u_known (C := rc_0) (T := tc_0) (N := 13) (n := 13) htg uw_0 (htg (.instantiable "PaperedOver" 13) (gm 62 (by decide +kernel) (by decide +kernel)))
  obtain ⟨c1, iS1, hKn1⟩ := u_known (C := rc_1) (T := tc_1) (N := 4) (n := 4) htg uw_1 (htg (.instantiable "PaperedOver$Rows" 4) (gm 70 (by decide +kernel) (by decide +kernel)))
  obtain ⟨c2, iS2, hKn2⟩ := u_known (C := rc_2) (T := tc_2) (N := 2) (n := 2) htg uw_2 (htg (.instantiable "PaperedOver$Tape" 2) (gm 91 (by decide +kernel) (by decide +kernel)))
  obtain ⟨c3, iS3, hKn3⟩ := u_known (C := rc_3) (T := tc_3) (N := 8) (n := 8) htg uw_3 (htg (.instantiable "PaperedOver$Reader" 8) (gm 106 (by decide +kernel) (by decide +kernel)))
  obtain ⟨c4, iS4, hKn4⟩ := u_known (C := rc_4) (T := tc_4) (N := 14) (n := 14) htg uw_4 (htg (.instantiable "PaperedOver$House" 14) (gm 112 (by decide +kernel) (by decide +kernel)))
  obtain ⟨c5, iS5, hKn5⟩ := u_known (C := rc_5) (T := tc_5) (N := 4) (n := 4) htg uw_5 (htg (.instantiable "PaperedOver$Spots" 4) (gm 219 (by decide +kernel) (by decide +kernel)))
  obtain ⟨c6, iS6, hKn6⟩ := u_known (C := rc_6) (T := tc_6) (N := 2) (n := 2) htg uw_6 (htg (.instantiable "PaperedOver$Image" 2) (gm 240 (by decide +kernel) (by decide +kernel)))
  obtain ⟨c7, iS7, hKn7⟩ := u_known (C := rc_7) (T := tc_7) (N := 11) (n := 11) htg uw_7 (htg (.instantiable "PaperedOver$Facts" 11) (gm 259 (by decide +kernel) (by decide +kernel)))
  obtain ⟨c8, iS8, hKn8⟩ := u_known (C := rc_8) (T := tc_8) (N := 5) (n := 5) htg uw_8 (htg (.instantiable "PaperedOver$Orders" 5) (gm 309 (by decide +kernel) (by decide +kernel)))
  obtain ⟨c9, iS9, hKn9⟩ := u_known (C := rc_9) (T := tc_9) (N := 3) (n := 3) htg uw_9 (htg (.instantiable "PaperedOver$Cutter" 3) (gm 332 (by decide +kernel) (by decide +kernel)))
  obtain ⟨c10, iS10, hKn10⟩ := u_known (C := rc_10) (T := tc_10) (N := 2) (n := 2) htg uw_10 (htg (.instantiable "PaperedOver$Bodies" 2) (gm 351 (by decide +kernel) (by decide +kernel)))
  obtain ⟨c11, iS11, hKn11⟩ := u_known (C := rc_11) (T := tc_11) (N := 29) (n := 29) htg uw_11 (htg (.instantiable "PaperedOverModel" 29) (gm 1023 (by decide +kernel) (by decide +kernel)))
  obtain ⟨D, hKc⟩ : ∃ D : va_G, ∀ (k : Nat) (q : vw_C), am_cls[k]? = some q → u_Kn s q.1 q.2.1 q.2.2 (D.1 k) (D.2 k) := by
    refine ⟨(fun k => match k with | 0 => c0 | 1 => c1 | 2 => c2 | 3 => c3 | 4 => c4 | 5 => c5 | 6 => c6 | 7 => c7 | 8 => c8 | 9 => c9 | 10 => c10 | _ => c11, fun k => match k with | 0 => iS0 | 1 => iS1 | 2 => iS2 | 3 => iS3 | 4 => iS4 | 5 => iS5 | 6 => iS6 | 7 => iS7 | 8 => iS8 | 9 => iS9 | 10 => iS10 | _ => iS11), ?_⟩
    intro k q hq
    match k, hq with
    | 0, hq => cases hq; exact hKn0
    | 1, hq => cases hq; exact hKn1
    | 2, hq => cases hq; exact hKn2
    | 3, hq => cases hq; exact hKn3
    | 4, hq => cases hq; exact hKn4
    | 5, hq => cases hq; exact hKn5
    | 6, hq => cases hq; exact hKn6
    | 7, hq => cases hq; exact hKn7
    | 8, hq => cases hq; exact hKn8
    | 9, hq => cases hq; exact hKn9
    | 10, hq => cases hq; exact hKn10
    | 11, hq => cases hq; exact hKn11
    | k + 12, hq => simp [am_cls] at hq
  have hK : va_K D am_cls [(cI, .int), (cZ, .boolean)] s := ⟨hKc, fun k q h => by
    match k, h with
    | 0, h => cases h; exact ⟨hcI, hrI⟩
    | 1, h => cases h; exact ⟨hcZ, hrZ⟩
    | k + 2, h => simp at h⟩
  have hN := lw_ci_nw hts
  have hS : va_S (fun q : Nat => s.heap.size ≤ q) s.heap s.heap [] := va_S.rf
  have hP : va_P D am_cls [] s.heap := fun k q h => by simp at h
  have hD : va_D (fun q : Nat => s.heap.size ≤ q) [] := ⟨fun i j p q h => by simp at h, fun k q h => by simp at h⟩
  have hl := lv_entry ([.ref b]) (n := 4) (Nat.le_of_ble_eq_true rfl)
  rw [lg_entry_eq]
  generalize (lg_sl ([.ref b]) ++ List.replicate (4 - (lg_sl ([.ref b])).length) Slot.unset).toArray = ls at hl ⊢
  have hl : lv_has ls 4 [(0, .ref b)] := hl
  refine va_new (ci := 0) (fs := [.null, .null, .null, .null, .null, .null, .null, .null, .null, .null, .null, .int 0, .int 0]) (C := rc_0) (T := tc_0) (N := 13) hx hb htg uw_0 yc_0 yo_0 hown (htg (.classLink R_law 7 "PaperedOver") (gm 61 (by decide +kernel) (by decide +kernel))) (htg (.instantiable "PaperedOver" 13) (gm 62 (by decide +kernel) (by decide +kernel))) (htg (.initialized "PaperedOver") (gm 42 (by decide +kernel) (by decide +kernel))) hK hP hD hS hA rfl (fun j hj => by rcases (show j = 0 ∨ j = 1 ∨ j = 2 ∨ j = 3 ∨ j = 4 ∨ j = 5 ∨ j = 6 ∨ j = 7 ∨ j = 8 ∨ j = 9 ∨ j = 10 ∨ j = 11 ∨ j = 12 by omega) with rfl | rfl | rfl | rfl | rfl | rfl | rfl | rfl | rfl | rfl | rfl | rfl | rfl <;> rfl) (Nat.le_of_ble_eq_true rfl) (Nat.le_of_ble_eq_true rfl) dw_0 (fun q1 H hP hD hS => ?_)
  refine W.widen (k := 1) (n := 13) (Nat.le_of_ble_eq_true rfl) (Nat.le_of_ble_eq_true rfl) ?_
  refine lv_dup hx hb dw_3 rfl ?_
  refine ci_call (va_runI (As := []) (rest := [.ref q1]) ⟨hx, hb, hml, hown, htg⟩ (ci_Main l D cI cZ q1 H.size) (cwI (ws' := gtb) 0 htg (gc (gm 65 (by decide +kernel) (by decide +kernel))) rfl rfl rfl (htg (.initialized "PaperedOver") (gm 42 (by decide +kernel) (by decide +kernel))) (htg (.methodLink R_law 9 (⟨"PaperedOver", "<init>", "()V"⟩ : MethodName)) (gm 63 (by decide +kernel) (by decide +kernel))) (htg (.instanceMethod (⟨"PaperedOver", "<init>", "()V"⟩ : MethodName)) (gm 64 (by decide +kernel) (by decide +kernel))) rfl ⟨(by decide +kernel), (by decide +kernel), (by decide +kernel)⟩ ⟨(Nat.le_of_ble_eq_true rfl), (Nat.le_of_ble_eq_true rfl)⟩) (ci_pre hK hN hP) rfl rfl hl.1 rfl (lv_room (Nat.le_of_ble_eq_true rfl)) dw_4 ⟨(Nat.le_of_ble_eq_true rfl), (Nat.le_of_ble_eq_true rfl)⟩) hP hD hS hA (fun u H locs hu hP2 hD2 hS2 => ?_)
  refine W.widen (k := 85) (n := 3872) (Nat.le_of_ble_eq_true rfl) (Nat.le_of_ble_eq_true rfl) ?_
  obtain rfl : u.1 = q1 := hu
  have hS := hS2
  refine lv_astore_n (lv' := [(1, .ref u.1), (0, .ref b)]) hx hb dw_7 rfl hl (by decide) rfl (fun ls hl => ?_)
  have hP : va_P D am_cls (w_Main cI cZ u) H := hP2
  have hD : va_D (fun q : Nat => s.heap.size ≤ q) (w_Main cI cZ u) := hD2
  refine va_new (ci := 11) (fs := [.int 0, .int 0, .null, .null, .null, .null, .null, .int 0, .null, .int 0, .int 0, .int 0, .int 0, .int 0, .int 0, .int 0, .int 0, .int 0, .int 0, .null, .null, .null, .null, .null, .null, .null, .null, .null, .int 0]) (C := rc_11) (T := tc_11) (N := 29) hx hb htg uw_11 yc_11 yo_11 hown (htg (.classLink R_law 10 "PaperedOverModel") (gm 1022 (by decide +kernel) (by decide +kernel))) (htg (.instantiable "PaperedOverModel" 29) (gm 1023 (by decide +kernel) (by decide +kernel))) (htg (.initialized "PaperedOverModel") (gm 53 (by decide +kernel) (by decide +kernel))) hK hP hD hS hA rfl (fun j hj => by rcases (show j = 0 ∨ j = 1 ∨ j = 2 ∨ j = 3 ∨ j = 4 ∨ j = 5 ∨ j = 6 ∨ j = 7 ∨ j = 8 ∨ j = 9 ∨ j = 10 ∨ j = 11 ∨ j = 12 ∨ j = 13 ∨ j = 14 ∨ j = 15 ∨ j = 16 ∨ j = 17 ∨ j = 18 ∨ j = 19 ∨ j = 20 ∨ j = 21 ∨ j = 22 ∨ j = 23 ∨ j = 24 ∨ j = 25 ∨ j = 26 ∨ j = 27 ∨ j = 28 by omega) with rfl | rfl | rfl | rfl | rfl | rfl | rfl | rfl | rfl | rfl | rfl | rfl | rfl | rfl | rfl | rfl | rfl | rfl | rfl | rfl | rfl | rfl | rfl | rfl | rfl | rfl | rfl | rfl | rfl <;> rfl) (Nat.le_of_ble_eq_true rfl) (Nat.le_of_ble_eq_true rfl) dw_8 (fun q2 H hP hD hS => ?_)
  refine W.widen (k := 86) (n := 3901) (Nat.le_of_ble_eq_true rfl) (Nat.le_of_ble_eq_true rfl) ?_
  refine lv_dup hx hb dw_11 rfl ?_
  refine ci_call (va_runI (As := []) (rest := [.ref q2]) ⟨hx, hb, hml, hown, htg⟩ (ci_Ref l D cI cZ q2 H.size) (cwI (ws' := gtb) 0 htg (gc (gm 1026 (by decide +kernel) (by decide +kernel))) rfl rfl rfl (htg (.initialized "PaperedOverModel") (gm 53 (by decide +kernel) (by decide +kernel))) (htg (.methodLink R_law 12 (⟨"PaperedOverModel", "<init>", "()V"⟩ : MethodName)) (gm 1024 (by decide +kernel) (by decide +kernel))) (htg (.instanceMethod (⟨"PaperedOverModel", "<init>", "()V"⟩ : MethodName)) (gm 1025 (by decide +kernel) (by decide +kernel))) rfl ⟨(by decide +kernel), (by decide +kernel), (by decide +kernel)⟩ ⟨(Nat.le_of_ble_eq_true rfl), (Nat.le_of_ble_eq_true rfl)⟩) (ci_pre hK hN hP) rfl rfl hl.1 rfl (lv_room (Nat.le_of_ble_eq_true rfl)) dw_12 ⟨(Nat.le_of_ble_eq_true rfl), (Nat.le_of_ble_eq_true rfl)⟩) hP hD hS hA (fun v H locs hu hP2 hD2 hS2 => ?_)
  refine W.widen (k := 101) (n := 6619) (Nat.le_of_ble_eq_true rfl) (Nat.le_of_ble_eq_true rfl) ?_
  obtain rfl : v 0 = q2 := hu
  have hS := hS2
  have hP : va_P D am_cls (w_Main cI cZ u ++ w_Ref cI cZ v) H := hP2
  have hD : va_D (fun q : Nat => s.heap.size ≤ q) (w_Main cI cZ u ++ w_Ref cI cZ v) := hD2
  refine lv_astore_n (lv' := [(2, .ref (v 0)), (1, .ref u.1), (0, .ref b)]) hx hb dw_15 rfl hl (by decide) rfl (fun ls hl => ?_)
  refine lv_iconst (v := 0) hx hb dw_16 (by decide) ?_
  refine lv_istore_n (lv' := [(3, .int 0), (2, .ref (v 0)), (1, .ref u.1), (0, .ref b)]) hx hb dw_17 rfl hl (by decide) rfl (fun ls hl => ?_)
  rw [wl_two cI cZ u v zt sk sv b] at hP hD
  have hPw : va_P D am_cls (am_wl (am_ad u v zt sk sv b) cI cZ M0) H := wl_P hP
  have hDw : ∀ M, va_D (fun q : Nat => s.heap.size ≤ q) (am_wl (am_ad u v zt sk sv b) cI cZ M) := fun M => wl_D hD
  have hEv : am_Ev (am_ad u v zt sk sv b) fv (fun q : Nat => s.heap.size ≤ q) s s.heap := ⟨lw_am_nw hts, hzt, hcs, hfv, hf2, hsv, hsr⟩
  have C : am_Cx p room_1 s m #[Value.ref b] c 101 6619 code 4 R_law D (am_ad u v zt sk sv b) fv cI cZ (fun q : Nat => s.heap.size ≤ q) 200 (some (L, xs)) := ⟨hx, hb, hml, hown, htg, hK, hDw, hEv, ⟨by decide, by decide⟩, ⟨by decide, by decide⟩, hX, hbl, Nat.not_le.mpr hbl⟩
  have hRe : am_Re p l e room_1 s m #[Value.ref b] below meth c 101 6619 (lw_Z below #[Value.ref b] s) code D (am_ad u v zt sk sv b) cI cZ (fun q : Nat => s.heap.size ≤ q) (some .boolean) (fun r _ => r = some (aI 1)) := by
    refine ⟨fun x M H locs ls pc h1 _ h3 h4 => ?_, fun x M H locs ls pc h1 => h1.elim, fun M H locs ls pc h1 => h1.elim⟩
    have e1 : some (aI x) = some (aI 1) := h1.2
    obtain rfl : x = 1 := by injection e1 with e2; injection e2 with e3; injection e3
    exact va_forget (fun q hq => h3.2.2 q hq) (W.widen (k := 600000) (n := 7302250) (by decide) (by decide) (lw_ret hx hb hr hlocks h4))
  have hgo := snd_cl am_clok_ok C hRe poLaw okLaw
  have hJ := law_loop hL (show 100 ≤ 200 by decide) _ hgo (L - 0) 0 M0 rfl (by omega) Rel_M0
  refine hJ H locs ls hPw hS ⟨hl.1, rfl, hl.2.1, fun i w hw => ?_⟩ (fun i w hw => ?_) (fun w hw => by cases hw)
  · match i, hw with
    | 0, hw => have hw : some (aR 16 0 0) = some w := hw; cases hw; exact lv_at hl 3 rfl
    | 1, hw => have hw : some (aR 0 0 0) = some w := hw; cases hw; exact lv_at hl 2 rfl
    | 2, hw => have hw : some (aR 11 0 0) = some w := hw; cases hw; exact lv_at hl 1 rfl
    | 3, hw => have hw : some (aI (nI 0)) = some w := hw; cases hw; exact lv_at hl 0 rfl
    | i + 4, hw => have hw : none = some w := hw; cases hw
  · match i, hw with
    | 0, hw => have hw : some (aR 16 0 0) = some w := hw; cases hw; exact Or.inr (by decide)
    | 1, hw => have hw : some (aR 0 0 0) = some w := hw; cases hw; exact Or.inl (by decide)
    | 2, hw => have hw : some (aR 11 0 0) = some w := hw; cases hw; exact Or.inl (by decide)
    | 3, hw => have hw : some (aI (nI 0)) = some w := hw; cases hw; exact trivial
    | i + 4, hw => have hw : none = some w := hw; cases hw
set_option maxHeartbeats 4000000 in
theorem lw_walk (l : Launch) (hflags : l.flags = flags0) (b : Addr) (xs : List Int32) : MetFree l x (headSpec (Jvm.Cond.code x code maxLocals ret :: tables_1) room_1) (lw_P b xs) (fun _ _ _ _ _ => True) lw_Q := by
  refine MetFree.of_bodyS (code := code) (maxLocals := maxLocals) (ret := ret) (by decide) ?_ ?_
  · intro args s m h hn
    obtain ⟨meth, c, h1, h2, h3, h4, h5, h6, -, -⟩ := Cond.code_spec hn (atoms_spec (ws := Jvm.Cond.code x code maxLocals ret :: tables_1) h _ List.mem_cons_self)
    exact ⟨meth, c, h1, h2, h3, h4, h5, h6⟩
  · intro p e s m args below meth c s₁ B hml0 hP _
    obtain ⟨rfl, hx, hbd, hgv⟩ := hP
    obtain ⟨scr, harrAt, hlist, hof, hsmall⟩ := hx
    obtain ⟨hcb, hkn, -, -⟩ := State.arrayAt?_spec harrAt
    have hown : s.vm.findClass R_law = some m.cls := findClass_of_methodNamed B.named
    have hts0 : ∀ c ∈ (Jvm.Cond.code x code maxLocals ret :: tables_1), c.before #[Value.ref b] s = true := atoms_spec (ws := Jvm.Cond.code x code maxLocals ret :: tables_1) B.pre
    have hts : ∀ w ∈ lw_tbl, w.before #[Value.ref b] s = true := k2_hts_sels lw_privs (fun w hw => hts0 w (List.mem_cons_of_mem _ hw)) lw_privs_ok
    have hml : c.maxLocals = 4 := B.maxLocals_eq (hts0 _ List.mem_cons_self)
    have X₀ : Stand p l e room_1 s m #[Value.ref b] below meth c s₁ [] 0 0 := Stand.of_body B
    have hh0 : s₁.heap = s.heap := by rw [B.state]; rfl
    have hsz : scr.slots.size = xs.length := by rw [← Array.length_toList, hlist, List.length_map]
    have hval : ∀ j : Nat, j < xs.length → scr.slots[j]? = some (.int (xs.getD j 0)) := fun j hj => by
      rw [← Array.getElem?_toList, hlist]
      simp [hj]
    have hbl : b < s.heap.size := (Array.getElem?_eq_some_iff.mp hcb).1
    have hX : va_X b xs.length (fun j => xs.getD j 0) s s.heap := ⟨scr, hcb, hof, hkn, hsz, hval⟩
    have K : W p l e room_1 s m #[Value.ref b] below meth c s₁.heap [] 0 0 (lw_Z below #[Value.ref b] s) (entryFrame m ([Value.ref b] : List Value).toArray 4) := by
      rw [hh0]
      exact whole_start l hflags hbd ⟨B.exec, B.bytes, B.returns, hml, hown, hts, hX, hbl, B.notSynchronized, hgv⟩
    obtain ⟨t, a1, o, b1, b2, b3⟩ := K s₁ rfl X₀
    exact ⟨t, o, a1, b1, b2, b3⟩
theorem lw_pre_spec {args : Array Value} {s : State} (h : (Jvm.Cond.and given_1 narrow_1).before args s = true) (hr : rest_1_c.before args s = true) : ∃ (b : Addr) (xs : List Int32), lw_P b xs args s := by
  have hs := flat_of_before _ h
  have hq := flat_of_before _ hr
  have hc : (Cond.count 1).before args s = true := hs _ (by decide +kernel)
  have harr : (Cond.arrayOf (.arg 0) .int).before args s = true := hs _ (by decide +kernel)
  have hle : (Cond.le (.length (.arg 0)) (.int 384)).before args s = true := hs _ (by decide +kernel)
  have hlen : (Cond.isInt (.length (.arg 0))).before args s = true := hq _ (by decide +kernel)
  have hall : (Cond.all (.arg 0) (.isInt (.elem (.arg 0) (.index 0)))).before args s = true := hq _ (by decide +kernel)
  obtain ⟨b, xs, hb, hx⟩ := State.ints_of_pre rfl harr hlen hall
  have hsm : xs.length < 2 ^ 31 := hx.choose_spec.2.2.2
  have hev : (Term.length (.arg 0)).eval args s none [] s = some (.int xs.length.toInt32) := hx.length_eval hb
  have hv := Cond.le_ints hev (show (Term.int 384).eval args s none [] s = some (.int 384) from rfl)
  have hd : xs.length.toInt32 ≤ 384 := by
    simpa [Cond.before, Cond.holds, hv] using hle
  have hN : xs.length ≤ 384 := (Int32.ofNat_le_ofNat hsm (by decide)).mp (show Int32.ofNat xs.length ≤ Int32.ofNat 384 from hd)
  exact ⟨b, xs, Cond.one_arg hc (show args[0]? = some (.ref b) from hb), hx, hN, h⟩
theorem lw_comes (l : Launch) (hflags : l.flags = flags0) : Comes l x (Jvm.Cond.code x code maxLocals ret :: tables_1) room_1 (fun tb e args s => Calls_1 tb e args s ∧ rest_1 tb e args s ∧ Pre_1 tb e args s)
    (fun _ _ args s o t => lw_Q args s o t) := by
  intro p e ha hc hk s m args below hf hfit hheap happ hpre
  obtain ⟨b, xs, hP⟩ := lw_pre_spec hpre.2.2 hpre.2.1
  obtain ⟨k, o, h1, h2, h3, hQ⟩ := lw_walk l hflags b xs p e ha hc hk s m args below hf ((Spec.applies_iff_loose hf).mp happ).1 hP trivial
  exact ⟨k, o, h1, h2, h3, hQ⟩
theorem lw_frame {s t : State} {o : Outcome} {args : Array Value} (h : Framed s o t [] 600000 7302250) :
    Framed s o t (fieldLocs frame_1_writes args s ++ arrayLocs frame_1_arrays args s ++ staticLocs frame_1_statics s) 600000 7302250 := h
theorem lw_limb (L : Cond) (hL : ∀ (args : Array Value) (s t : State), L.after args s (.returned (some (.int 1))) t = true) :
    ArmFor flags0 classFile x code maxLocals ret World_1 tables_1 room_1 Calls_1 rest_1 Pre_1
      (fun tb e a s o t => postC L tb e a s o t ∧ Framed s o t (fieldLocs frame_1_writes a s ++ arrayLocs frame_1_arrays a s ++ staticLocs frame_1_statics s) 600000 7302250) := by
  intro l hflags _ _ p e ha hc hk s m args below hf hfit hheap happ hpre
  obtain ⟨k, o, h1, h2, h3, rfl, hF⟩ := lw_comes l hflags p e ha hc hk s m args below hf hfit hheap happ hpre
  exact ⟨k, _, h1, h2, h3, hL args s _, lw_frame hF⟩
theorem i_vc : Claimed_1_1 ∧ Claimed_1_2 := ⟨lw_limb limb_1_1 (fun args s t => by simp [limb_1_1, Cond.after, Cond.holds, Cond.value]), lw_limb limb_1_2 (fun args s t => Cond.after_iff.mpr (by
  first | (rw [show limb_1_2 = Cond.eq .result (.int 1) from rfl, Cond.eq_ints (x := 1) (y := 1) rfl rfl]; simp; done) | (simp [limb_1_2, Cond.value, Term.eval]; done)))⟩
