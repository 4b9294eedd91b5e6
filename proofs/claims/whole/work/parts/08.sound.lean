section Snd
variable {p : Program} {l : Launch} {e : Env} {R : Room} {s : State} {m : MethodId} {args : Array Value} {below : List Frame} {meth : Method} {c : Code} {cells slots : Nat} {Q : State → Prop} {cc : ByteArray} {nL : Nat} {own : String} {D : va_G} {ad : Nat × Nat × Nat → Nat} {fv : Value} {cI cZ : ClassId} {A : Nat → Prop} {d : Nat} {X : Option (Nat × (Nat → Int32))} {ret : Option FieldType} {Rt : Option am_V → am_M → Prop}
def am_J (p : Program) (l : Launch) (e : Env) (R : Room) (s : State) (m : MethodId) (args : Array Value) (below : List Frame) (meth : Method) (c : Code) (cells slots : Nat) (Q : State → Prop) (nL : Nat) (D : va_G) (ad : Nat × Nat × Nat → Nat) (fv : Value) (cI cZ : ClassId) (A : Nat → Prop) : Nat → am_L → List am_V → am_M → Prop := fun pc lv st M =>
  ∀ (H : Heap) (locs : List Loc) (ls : Array Slot), va_P D am_cls (am_wl ad cI cZ M) H → va_S A s.heap H locs → am_H ad fv ls nL lv → am_lvl lv → (∀ v ∈ st, am_vl v) → W p l e R s m args below meth c H locs cells slots Q (F0 m pc ls (st.map (cv ad fv)))
def am_X (X : Option (Nat × (Nat → Int32))) (ad : Nat × Nat × Nat → Nat) (s : State) (A : Nat → Prop) : Prop := match X with
  | none => True
  | some (L, xs) => va_X (ad (16, 0, 0)) L xs s s.heap ∧ ad (16, 0, 0) < s.heap.size ∧ ¬ A (ad (16, 0, 0))
def am_Cx (p : Program) (R : Room) (s : State) (m : MethodId) (args : Array Value) (c : Code) (cells slots : Nat) (cc : ByteArray) (nL : Nat) (own : String) (D : va_G) (ad : Nat × Nat × Nat → Nat) (fv : Value) (cI cZ : ClassId) (A : Nat → Prop) (d : Nat) (X : Option (Nat × (Nat → Int32))) : Prop :=
  p.tables.exec = Jvm.exec ∧ c.code = cc ∧ c.maxLocals = nL ∧ s.vm.findClass own = some m.cls ∧ (∀ w ∈ gtb, w.before args s = true) ∧ va_K D am_cls [(cI, .int), (cZ, .boolean)] s ∧ (∀ M, va_D A (am_wl ad cI cZ M)) ∧ am_Ev ad fv A s s.heap ∧ (d ≤ R.frames ∧ 64 * d ≤ R.locals) ∧ (cells ≤ R.cells ∧ slots ≤ R.slots) ∧ am_X X ad s A
theorem Af_A (hD : ∀ M, va_D A (am_wl ad cI cZ M)) : ∀ q, am_Af ad q → A q := by
  rintro q ⟨k, hk, rfl⟩
  obtain ⟨i, hi⟩ := List.getElem?_of_mem hk
  exact (hD (fun _ _ _ _ => 0)).2 i _ (wl_at hi)
theorem D_Af (hD : ∀ M, va_D A (am_wl ad cI cZ M)) (M : am_M) : va_D (am_Af ad) (am_wl ad cI cZ M) := by
  refine (hD M).weaken (fun k q hq _ => ?_)
  simp only [am_wl, List.getElem?_map] at hq
  cases hk : am_all[k]? with
  | none => rw [hk] at hq; cases hq
  | some x =>
    rw [hk] at hq
    cases hq
    exact ⟨x, List.mem_of_getElem? hk, rfl⟩
theorem gin {L : List Cond} (h : ∀ w ∈ L, w ∈ gtb) : GoodIn gtb L := fun w hw => gtb_good w (h w hw)
theorem am_ws_in {t : am_T} (h : Cond.code t.1 t.2.1 t.2.2.1 t.2.2.2 ∈ gtb) : ∀ w ∈ am_ws t, w ∈ gtb := by
  intro w hw
  rcases List.mem_cons.mp hw with rfl | hw
  · exact h
  · exact hw
theorem am_run {H : Heap} {locs : List Loc} {ls : Array Slot} {pc : Nat} {st0 rest : List Value} {a : Array Value} {Po : Option am_V → am_M → Prop} (hr : va_Run p l e R s m args below meth c H locs cells slots 0 0 (F0 m pc ls st0) rest (am_Q D ad fv cI cZ Po a) (am_Af ad)) (hS : va_S A s.heap H locs) (hA : ∀ q, am_Af ad q → A q)
    (kk : ∀ (r : Option am_V) (M2 : am_M), Po r M2 → ∀ (H1 : Heap) (locs1 : List Loc), va_P D am_cls (am_wl ad cI cZ M2) H1 → va_S A s.heap H1 locs1 → W p l e R s m args below meth c H1 locs1 cells slots Q (F0 m (pc + 3) ls ((r.map (cv ad fv)).toList ++ rest))) : W p l e R s m args below meth c H locs cells slots Q (F0 m pc ls st0) := by
  intro T hT X'
  obtain ⟨v, st₀, t, T', L, h0, X', hL, e1, e2, ⟨r, M2, hpo, hv, hp, hz, hk⟩, st⟩ := hr T hT X'
  have hv2 : v = r.map (cv ad fv) := by injection hv
  subst hv2
  rw [h0] at hz hk
  obtain ⟨t2, a1, b1⟩ := kk r M2 hpo T'.heap (locs ++ L) (by rw [e1]; exact hp) ⟨Nat.le_trans hS.1 (by rw [e1]; exact hz), fun q h1 h2 => by rw [e1, hk q (Nat.lt_of_lt_of_le h1 hS.1) (fun z => h2 (hA q z))]; exact hS.2.1 q h1 h2, fun q hq => by
      rcases List.mem_append.mp hq with h | h
      · exact hS.2.2 q h
      · exact hA _ (hL q h)⟩ T' rfl X'
  exact ⟨t2, st t2 a1, b1⟩
theorem am_blind {M : am_M} {av : List Value} : FrameBlind (va_Pc av (am_B D ad fv cI cZ M)) := by
  intro a U g mk h
  obtain ⟨h1, h2, h3, h4, h5⟩ := h
  exact ⟨h1, h2, h3, va_K.moved (u := U) (U := U.calling g mk a) (Vm.Alike.refl U.vm) h4, h5.call⟩
theorem am_pre (C : am_Cx p R s m args c cells slots cc nL own D ad fv cI cZ A d X) {H : Heap} {locs : List Loc} {M : am_M} (hP : va_P D am_cls (am_wl ad cI cZ M) H) (hS : va_S A s.heap H locs) {av : List Value} : ∀ U : State, U.heap = H → s.WarmedH U.vm → va_Pc av (am_B D ad fv cI cZ M) av.toArray U := by
  obtain ⟨hx, hb, hml, hown, hts, hK, hD, hE, hR, hR2, hX⟩ := C
  intro U hU hW
  exact ⟨rfl, by rw [hU]; exact hP, D_Af hD M, va_K.moved hW.alike hK, hE.go hS hU hW (Af_A hD)⟩
theorem cat_sum (hf : fv = .null ∨ ∃ t : Nat, fv = .ref t) : ∀ rest : List am_V, ((rest.map (cv ad fv)).map fun v => v.category).sum = am_cat rest
  | [] => rfl
  | Sum.inl q :: r => by
    have h1 := cv_cat1 (ad := ad) hf (v := Sum.inl q) (fun x h => by cases h)
    simp only [List.map_cons, List.sum_cons, h1, am_cat]
    rw [cat_sum hf r]
  | Sum.inr (Sum.inl x) :: r => by
    have h1 := cv_cat1 (ad := ad) hf (v := Sum.inr (Sum.inl x)) (fun x h => by cases h)
    simp only [List.map_cons, List.sum_cons, h1, am_cat]
    rw [cat_sum hf r]
  | Sum.inr (Sum.inr x) :: r => by
    simp only [List.map_cons, List.sum_cons, am_cat]
    rw [cat_sum hf r]
    rfl
theorem pop_inv : ∀ (n : Nat) (st acc as rest : List am_V), am_pop n st acc = some (as, rest) → ∃ bs, st = bs ++ rest ∧ as = bs.reverse ++ acc ∧ bs.length = n
  | 0, st, acc, as, rest, h => by
    simp only [am_pop, Option.some.injEq, Prod.mk.injEq] at h
    exact ⟨[], by simp [h.2], by simp [h.1], rfl⟩
  | n + 1, [], acc, as, rest, h => by simp [am_pop] at h
  | n + 1, v :: st, acc, as, rest, h => by
    obtain ⟨bs, h1, h2, h3⟩ := pop_inv n st (v :: acc) as rest h
    exact ⟨v :: bs, by simp [h1], by simp [h2], by simp [h3]⟩
/-- a call of a static method -/
theorem am_callS (C : am_Cx p R s m args c cells slots cc nL own D ad fv cI cZ A d X) {n d2 idx pc kd : Nat} {as rest : List am_V} {M : am_M} {Po : Option am_V → am_M → Prop} (hc : ConP d2 n as M Po) (hd2 : d2 < d) (hpk : am_pk own 5 idx (eC n as.length kd)) {H : Heap} {locs : List Loc} {ls : Array Slot} (hP : va_P D am_cls (am_wl ad cI cZ M) H) (hS : va_S A s.heap H locs) (hsz : ls.size = nL) (hcat : am_cat rest ≤ 8) (hval : ∀ v ∈ as, am_vl v) (hdg : decode cc pc = .ok (.invokestatic idx, 3))
    (kk : ∀ (r : Option am_V) (M2 : am_M), Po r M2 → ∀ (H1 : Heap) (locs1 : List Loc), va_P D am_cls (am_wl ad cI cZ M2) H1 → va_S A s.heap H1 locs1 → W p l e R s m args below meth c H1 locs1 cells slots Q (F0 m (pc + 3) ls ((r.map (cv ad fv)).toList ++ rest.map (cv ad fv)))) : W p l e R s m args below meth c H locs cells slots Q (F0 m pc ls ((as.map (cv ad fv)).reverse ++ rest.map (cv ad fv))) := by
  have hpre := am_pre C hP hS (av := as.map (cv ad fv))
  obtain ⟨hx, hb, hml, hown, hts, hK, hD, hE, hR, hR2, hX⟩ := C
  obtain ⟨⟨w1, w2, w3, w4, w5, w6⟩, hst, hlink⟩ := hpk
  have hws := am_ws_in w1
  have hroom : (am_rm d2).frames + 1 ≤ R.frames ∧ 8 + ((mt n).2.2.1 + 11) + (am_rm d2).locals ≤ R.locals := by
    have e1 : (am_rm d2).frames = d2 := rfl
    have e2 : (am_rm d2).locals = 64 * d2 := rfl
    rw [e1, e2]
    omega
  have hcat2 : 2 * (F0 m pc ls ((as.map (cv ad fv)).reverse ++ rest.map (cv ad fv))).monitorRoom + ((rest.map (cv ad fv)).map fun v => v.category).sum ≤ 8 := lv_room (by rw [cat_sum hE.2.2.2.2.1]; exact hcat)
  rcases hlink with hlink | hlink
  · exact am_run (va_runS (As := as.map (cv ad fv)) (rest := rest.map (cv ad fv)) ⟨hx, hb, hml, hown, hts⟩ (hc l D ad fv cI cZ hval) (va_cwS (ws' := gtb) as.length hts (gin (by
      intro w hw
      rcases List.mem_append.mp hw with h | h
      · simp only [List.mem_cons, List.not_mem_nil, or_false] at h
        rcases h with rfl | rfl | rfl
        · exact hlink
        · exact hst
        · exact w2
      · exact hws w h)) rfl rfl rfl ⟨w3, w4, w5⟩ hroom) ⟨am_blind, hpre⟩ rfl (by simp) hsz rfl hcat2 hdg ⟨hR2.1, hR2.2⟩) hS (Af_A hD) kk
  · exact am_run (va_runSN (host := "PaperedOver") (As := as.map (cv ad fv)) (rest := rest.map (cv ad fv)) ⟨hx, hb, hml, hown, hts⟩ (hc l D ad fv cI cZ hval) ⟨va_cnB (ws' := gtb) as.length hts (gin hws) rfl rfl rfl (hE.1 _ hlink) (hts _ w2) ⟨w3, w4, w5⟩ hroom, hts _ hst, trivial⟩ ⟨am_blind, hpre⟩ rfl (by simp) hsz rfl hcat2 hdg ⟨hR2.1, hR2.2⟩) hS (Af_A hD) kk
/-- a call of an instance's method -/
theorem am_callV (C : am_Cx p R s m args c cells slots cc nL own D ad fv cI cZ A d X) {n d2 idx pc k j o : Nat} {as rest : List am_V} {M : am_M} {Po : Option am_V → am_M → Prop} (hc : ConP d2 n (aR k j o :: as) M Po) (hd2 : d2 < d) (ho : o = 0 ∨ k = 13) (hpk : am_pk own 4 idx (eC n (as.length + 1) k)) {H : Heap} {locs : List Loc} {ls : Array Slot} (hP : va_P D am_cls (am_wl ad cI cZ M) H) (hS : va_S A s.heap H locs) (hsz : ls.size = nL) (hcat : am_cat rest ≤ 8) (hval : ∀ v ∈ aR k j o :: as, am_vl v) (hdg : decode cc pc = .ok (.invokevirtual idx, 3))
    (kk : ∀ (r : Option am_V) (M2 : am_M), Po r M2 → ∀ (H1 : Heap) (locs1 : List Loc), va_P D am_cls (am_wl ad cI cZ M2) H1 → va_S A s.heap H1 locs1 → W p l e R s m args below meth c H1 locs1 cells slots Q (F0 m (pc + 3) ls ((r.map (cv ad fv)).toList ++ rest.map (cv ad fv)))) : W p l e R s m args below meth c H locs cells slots Q (F0 m pc ls ((as.map (cv ad fv)).reverse ++ cv ad fv (aR k j o) :: rest.map (cv ad fv))) := by
  have hpre := am_pre C hP hS (av := (aR k j o :: as).map (cv ad fv))
  obtain ⟨hx, hb, hml, hown, hts, hK, hD, hE, hR, hR2, hX⟩ := C
  obtain ⟨np, hnp, ⟨w1, w2, w3, w4, w5, w6⟩, hlink, hin, hsel, hcls⟩ := hpk
  have hnp : np = as.length := by omega
  subst hnp
  have hws := am_ws_in w1
  have hroom : (am_rm d2).frames + 1 ≤ R.frames ∧ 8 + ((mt n).2.2.1 + 11) + (am_rm d2).locals ≤ R.locals := by
    have e1 : (am_rm d2).frames = d2 := rfl
    have e2 : (am_rm d2).locals = 64 * d2 := rfl
    rw [e1, e2]
    omega
  have hcat2 : 2 * (F0 m pc ls ((as.map (cv ad fv)).reverse ++ cv ad fv (aR k j o) :: rest.map (cv ad fv))).monitorRoom + ((rest.map (cv ad fv)).map fun v => v.category).sum ≤ 8 := lv_room (by rw [cat_sum hE.2.2.2.2.1]; exact hcat)
  have hgood : GoodIn gtb (wsV own idx (mt n).1.cls (mt n).1 (am_ws (mt n))) := gin (by
      intro w hw
      rcases List.mem_append.mp hw with h | h
      · simp only [List.mem_cons, List.not_mem_nil, or_false] at h
        rcases h with rfl | rfl | rfl | rfl
        · exact hlink
        · exact hin
        · exact hsel
        · exact w2
      · exact hws w h)
  have hv1 : am_vl (aR k j o) := hval _ List.mem_cons_self
  have hrec : ¬ k = 15 ∧ ∃ cell : Cell, H[ad (k, j, o)]? = some cell ∧ cell.vm.isStatics = false ∧ s.vm.findClass (mt n).1.cls = some cell.cls := by
    rcases hcls with ⟨rc, h1, h2⟩ | ⟨h1, h2⟩
    · have hk12 : k < 12 := (List.getElem?_eq_some_iff.mp h1).1
      refine ⟨by omega, ?_⟩
      rcases ho with rfl | rfl
      · rcases hv1 with hv1 | hv1
        · obtain ⟨i, hi⟩ := List.getElem?_of_mem hv1
          have := va_recv hK hP h1 (q0 := i) (a := ad (k, j, 0)) (fs := am_fl ad M k j 0 (am_ob k)) (wl_at hi)
          rw [h2] at this
          exact this
        · exfalso
          revert hv1
          simp only [am_ro, List.mem_cons, Prod.mk.injEq, List.not_mem_nil, or_false]
          omega
      · omega
    · subst h1
      refine ⟨by omega, ?_⟩
      rcases hv1 with hv1 | hv1
      · exact absurd hv1 (fun h => absurd ((by decide +kernel : ∀ q ∈ am_all, q.1 < 12) _ h) (show ¬ (13 : Nat) < 12 by decide))
      · have hj : j = 0 ∧ o < 8 := by
          revert hv1
          simp only [am_ro, List.mem_cons, Prod.mk.injEq, List.not_mem_nil, or_false]
          omega
        obtain ⟨rfl, ho8⟩ := hj
        have := vk_recv hE.2.2.2.2.2.1 ho8 hS
        rw [h2]
        exact this
  have hcv : cv ad fv (aR k j o) = .ref (ad (k, j, o)) := cv_ref hrec.1
  rw [hcv]
  have hM := hc l D ad fv cI cZ hval
  have e0 : (aR k j o :: as).map (cv ad fv) = Value.ref (ad (k, j, o)) :: as.map (cv ad fv) := by rw [List.map_cons, hcv]
  rw [e0] at hM hpre
  exact am_run (va_runV (As := as.map (cv ad fv)) (rest := rest.map (cv ad fv)) ⟨hx, hb, hml, hown, hts⟩ hM (cwV (ws' := gtb) as.length hts hgood rfl rfl rfl ⟨rfl, w3, w4, w5⟩ hroom) ⟨am_blind, hrec.2, hpre⟩ rfl (by simp) hsz rfl (by rw [hcv] at hcat2; exact hcat2) hdg ⟨hR2.1, hR2.2⟩) hS (Af_A hD) kk
end Snd
