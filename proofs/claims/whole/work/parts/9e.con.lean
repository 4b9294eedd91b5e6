/-- the constructors' words of nest mates -/
def ci_nw : List Cond := [.methodLinkNest "PaperedOver" 9 ⟨"PaperedOver$Rows", "<init>", "()V"⟩ "PaperedOver", .methodLinkNest "PaperedOver" 18 ⟨"PaperedOver$Tape", "<init>", "()V"⟩ "PaperedOver", .methodLinkNest "PaperedOver$Reader" 9 ⟨"PaperedOver$House", "<init>", "()V"⟩ "PaperedOver", .methodLinkNest "PaperedOver" 34 ⟨"PaperedOver$House", "<init>", "()V"⟩ "PaperedOver", .methodLinkNest "PaperedOver" 41 ⟨"PaperedOver$Spots", "<init>", "()V"⟩ "PaperedOver", .methodLinkNest "PaperedOver" 48 ⟨"PaperedOver$Image", "<init>", "()V"⟩ "PaperedOver", .methodLinkNest "PaperedOver$Image" 9 ⟨"PaperedOver$House", "<init>", "()V"⟩ "PaperedOver", .methodLinkNest "PaperedOver$Image" 18 ⟨"PaperedOver$Spots", "<init>", "()V"⟩ "PaperedOver", .methodLinkNest "PaperedOver" 76 ⟨"PaperedOver$Cutter", "<init>", "()V"⟩ "PaperedOver", .methodLinkNest "PaperedOver" 83 ⟨"PaperedOver$Bodies", "<init>", "()V"⟩ "PaperedOver"]
theorem ci_nw_warm {s U : State} (hW : s.WarmedH U.vm) (h : ∀ w ∈ ci_nw, va_Nw w s) : ∀ w ∈ ci_nw, va_Nw w U := by
  intro w hw
  have h1 := h w hw
  simp only [ci_nw, List.mem_cons, List.not_mem_nil, or_false] at hw
  rcases hw with rfl | rfl | rfl | rfl | rfl | rfl | rfl | rfl | rfl | rfl <;> exact va_Nw.warmM hW h1
theorem ci_nw_same {s U : State} (hv : s.vm = U.vm) (h : ∀ w ∈ ci_nw, va_Nw w s) : ∀ w ∈ ci_nw, va_Nw w U := by
  intro w hw
  have h1 := h w hw
  simp only [ci_nw, List.mem_cons, List.not_mem_nil, or_false] at hw
  rcases hw with rfl | rfl | rfl | rfl | rfl | rfl | rfl | rfl | rfl | rfl <;> exact va_Nw.same rfl hv h1
theorem gc {y : MethodName} {b : ByteArray} {n : Nat} (h : Cond.code y b n none ∈ gtb) : GoodIn gtb (Cond.code y b n none :: gtb) := gin (fun w hw => by
  rcases List.mem_cons.mp hw with rfl | hw
  · exact h
  · exact hw)
section Con
variable {p : Program} {l : Launch} {e : Env} {R : Room} {s : State} {m : MethodId} {args : Array Value} {below : List Frame} {meth : Method} {c : Code} {cells slots : Nat} {Q : State → Prop} {cc : ByteArray} {D : va_G} {cI cZ : ClassId} {A : Nat → Prop} {H H0 : Heap} {locs : List Loc} {pc : Nat} {ls : Array Slot} {rest : List Value} {ws : va_W}
def ci_B (D : va_G) (cI cZ : ClassId) (q : Nat) (e0 : va_E) (sz : Nat) (U : State) : Prop := U.heap.size = sz ∧ va_P D am_cls [(q, e0)] U.heap ∧ va_K D am_cls [(cI, .int), (cZ, .boolean)] U ∧ va_D (fun _ => True) [(q, e0)] ∧ ∀ w ∈ ci_nw, va_Nw w U
def ci_Q {S : Type} (pt : S → Nat) (q : Nat) (D : va_G) (W1 : S → va_W) (A : Nat → Prop) : Array Value → State → Outcome → State → Prop := va_Qv (fun u : S => pt u = q) (fun u t => va_P D am_cls (W1 u) t.heap ∧ va_D A (W1 u)) A
theorem ci_last {x : Nat × va_E} (h : va_P D am_cls (ws ++ [x]) H) : va_P D am_cls [x] H := fun k q hk => by
  match k, hk with
  | 0, hk => exact h ws.length q (by simpa using hk)
  | k + 1, hk => simp at hk
theorem ci_one {x : Nat × va_E} : va_D (fun _ => True) [x] := ⟨fun i j p q h1 h2 _ => by
  have := (List.getElem?_eq_some_iff.mp h1).1
  have := (List.getElem?_eq_some_iff.mp h2).1
  simp at *
  omega, fun _ _ _ => trivial⟩
theorem ci_pre {q : Nat} {e0 : va_E} {av : List Value} (hK : va_K D am_cls [(cI, .int), (cZ, .boolean)] s) (hN : ∀ w ∈ ci_nw, va_Nw w s) (hP : va_P D am_cls (ws ++ [(q, e0)]) H) : PreS s H (va_Pc av (ci_B D cI cZ q e0 H.size)) av := by
  refine ⟨fun a U g mk h => ?_, fun U hU hW => ⟨rfl, by rw [hU], by rw [hU]; exact ci_last hP, va_K.moved hW.alike hK, ci_one, ci_nw_warm hW hN⟩⟩
  obtain ⟨q0, q1, qP, qK, qD, qN⟩ := h
  exact ⟨q0, q1, qP, va_K.moved (u := U) (U := U.calling g mk a) (Vm.Alike.refl U.vm) qK, qD, ci_nw_same (s := U) (U := U.calling g mk a) rfl qN⟩
theorem ci_join {x : Nat × va_E} {w1 : va_W} {H1 : Heap} (hP : va_P D am_cls (ws ++ [x]) H) (hD : va_D A (ws ++ [x])) (hk : ∀ q : Nat, q < H.size → ¬ va_A [x] H.size q → H1[q]? = H[q]?) (hF : ∀ q, va_A [x] H.size q → A q) (hP1 : va_P D am_cls w1 H1) (hD1 : va_D (va_A [x] H.size) w1) : va_P D am_cls (ws ++ w1) H1 ∧ va_D A (ws ++ w1) := by
  have hin : ∀ (k : Nat) (q : Nat × va_E), ws[k]? = some q → (ws ++ [x])[k]? = some q := fun k q h => by
    rw [List.getElem?_append_left (List.getElem?_eq_some_iff.mp h).1]
    exact h
  have hx : (ws ++ [x])[ws.length]? = some x := by simp
  have apart : ∀ (k : Nat) (q : Nat × va_E), ws[k]? = some q → q.1 < H.size ∧ ¬ va_A [x] H.size q.1 := by
    intro k q hq
    have hl := (hP k q (hin k q hq)).lt
    refine ⟨hl, ?_⟩
    rintro (⟨j, e1, h⟩ | h)
    · match j, h with
      | 0, h =>
        have h2 : x.1 = q.1 := by cases h; rfl
        have h3 := hD.1 _ _ _ _ (hin k q hq) hx h2.symm
        have := (List.getElem?_eq_some_iff.mp hq).1
        omega
      | j + 1, h => simp at h
    · omega
  refine ⟨va_P.app (fun k q hq => (hP k q (hin k q hq)).kept (hk q.1 (apart k q hq).1 (apart k q hq).2)) hP1, va_D.app ⟨fun i j p q h1 h2 h3 => hD.1 i j p q (hin i p h1) (hin j q h2) h3, fun k q hq => hD.2 k q (hin k q hq)⟩ (hD1.weaken (fun _ _ _ h => hF _ h)) ?_⟩
  intro i j p q hp hq he
  exact (apart i p hp).2 (by rw [he]; exact hD1.2 j q hq)
theorem ci_call {S : Type} {pt : S → Nat} {W1 : S → va_W} {q mc ms : Nat} {e0 : va_E} {st0 : List Value} {a : Array Value} (hr : va_Run p l e R s m args below meth c H locs cells slots mc ms (F0 m pc ls st0) rest (ci_Q pt q D W1 (va_A [(q, e0)] H.size) a) (va_A [(q, e0)] H.size)) (hP : va_P D am_cls (ws ++ [(q, e0)]) H) (hD : va_D A (ws ++ [(q, e0)])) (hS : va_S A H0 H locs) (hA : ∀ q, H0.size ≤ q → A q)
    (kk : ∀ (u : S) (H1 : Heap) (locs1 : List Loc), pt u = q → va_P D am_cls (ws ++ W1 u) H1 → va_D A (ws ++ W1 u) → va_S A H0 H1 locs1 → W p l e R s m args below meth c H1 locs1 (cells + mc) (slots + ms) Q (F0 m (pc + 3) ls rest)) : W p l e R s m args below meth c H locs cells slots Q (F0 m pc ls st0) := by
  have hF : ∀ x, va_A [(q, e0)] H.size x → A x := by
    rintro x (⟨k, e1, h⟩ | h)
    · match k, h with
      | 0, h =>
        cases h
        exact hD.2 ws.length (q, e0) (by simp)
      | k + 1, h => simp at h
    · exact hA x (Nat.le_trans hS.1 h)
  exact va_callv hr hS (fun x _ h => hF x h) hF (fun u t H1 locs1 ht hvm hw hB hz1 hk1 hS1 => by
    obtain ⟨hP1, hD1⟩ := hB
    rw [ht] at hP1
    obtain ⟨hP2, hD2⟩ := ci_join hP hD hk1 hF hP1 hD1
    exact kk u H1 locs1 hw hP2 hD2 hS1)
theorem ci_newI (hx : p.tables.exec = Jvm.exec) (hb : c.code = cc) (hts : ∀ w ∈ gtb, w.before args s = true) (hK : va_K D am_cls [(cI, .int), (cZ, .boolean)] s) (hP : va_P D am_cls ws H) (hD : va_D A ws) (hS : va_S A H0 H locs) (hA : ∀ q, H0.size ≤ q → A q) {n : Int32} {N' : Nat} (hn : ¬ n < 0) (hN : n.toNatClampNeg = N') (hby : N' * componentBytes .int ≤ 536870912) (hc : cells + 1 ≤ R.cells) (hs2 : slots + N' ≤ R.slots) (hdg : decode cc pc = .ok (.newarray .int, 2))
    (kk : ∀ (q : Nat) (H1 : Heap), va_P D am_cls (ws ++ [(q, .inl (cI, N', .inl (fun _ => 0)))]) H1 → va_D A (ws ++ [(q, .inl (cI, N', .inl (fun _ => 0)))]) → va_S A H0 H1 locs → W p l e R s m args below meth c H1 locs (cells + 1) (slots + N') Q (F0 m (pc + 2) ls (.ref q :: rest))) : W p l e R s m args below meth c H locs cells slots Q (F0 m pc ls (.int n :: rest)) := by
  refine va_newa (atype := .int) (ty := .int) (a0 := (N', .inl (fun _ => 0))) hx hb (hts (.arrayClass .int) (gm 89 (by decide +kernel) (by decide +kernel))) rfl hK hP hD hS hA (fun _ => rfl) hn hN hby hc hs2 hdg (fun q cA H1 hK2 hP2 hD2 hS2 => ?_)
  have e1 : s.vm.findClass ("[" ++ FieldType.int.toString) = some cA := (hK2.2 2 (cA, .int) rfl).2
  have e2 : s.vm.findClass ("[" ++ FieldType.int.toString) = some cI := (hK.2 0 (cI, .int) rfl).2
  obtain rfl : cI = cA := Option.some.inj (e2.symm.trans e1)
  exact kk q H1 hP2 hD2 hS2
theorem ci_newZ (hx : p.tables.exec = Jvm.exec) (hb : c.code = cc) (hts : ∀ w ∈ gtb, w.before args s = true) (hK : va_K D am_cls [(cI, .int), (cZ, .boolean)] s) (hP : va_P D am_cls ws H) (hD : va_D A ws) (hS : va_S A H0 H locs) (hA : ∀ q, H0.size ≤ q → A q) {n : Int32} {N' : Nat} (hn : ¬ n < 0) (hN : n.toNatClampNeg = N') (hby : N' * componentBytes .boolean ≤ 536870912) (hc : cells + 1 ≤ R.cells) (hs2 : slots + N' ≤ R.slots) (hdg : decode cc pc = .ok (.newarray .boolean, 2))
    (kk : ∀ (q : Nat) (H1 : Heap), va_P D am_cls (ws ++ [(q, .inl (cZ, N', .inl (fun _ => 0)))]) H1 → va_D A (ws ++ [(q, .inl (cZ, N', .inl (fun _ => 0)))]) → va_S A H0 H1 locs → W p l e R s m args below meth c H1 locs (cells + 1) (slots + N') Q (F0 m (pc + 2) ls (.ref q :: rest))) : W p l e R s m args below meth c H locs cells slots Q (F0 m pc ls (.int n :: rest)) := by
  refine va_newa (atype := .boolean) (ty := .boolean) (a0 := (N', .inl (fun _ => 0))) hx hb (hts (.arrayClass .boolean) (gm 88 (by decide +kernel) (by decide +kernel))) rfl hK hP hD hS hA (fun _ => rfl) hn hN hby hc hs2 hdg (fun q cA H1 hK2 hP2 hD2 hS2 => ?_)
  have e1 : s.vm.findClass ("[" ++ FieldType.boolean.toString) = some cA := (hK2.2 2 (cA, .boolean) rfl).2
  have e2 : s.vm.findClass ("[" ++ FieldType.boolean.toString) = some cZ := (hK.2 1 (cZ, .boolean) rfl).2
  obtain rfl : cZ = cA := Option.some.inj (e2.symm.trans e1)
  exact kk q H1 hP2 hD2 hS2
end Con
theorem ob_in : Cond.instanceMethod objectInit ∈ gtb := gm 67 (by decide +kernel) (by decide +kernel)
theorem ob_co : Cond.code objectInit ⟨#[0xb1]⟩ 1 none ∈ gtb := gm 68 (by decide +kernel) (by decide +kernel)
