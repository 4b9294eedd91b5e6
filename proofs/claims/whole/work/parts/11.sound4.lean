theorem ro_12 {i : Nat} (h : i < 3) : am_vl (aR 12 0 i) := by
  have : i = 0 ∨ i = 1 ∨ i = 2 := by omega
  rcases this with rfl | rfl | rfl <;> exact Or.inr (by decide)
theorem ro_13 {i : Nat} (h : i < 8) : am_vl (aR 13 0 i) := by
  have : i = 0 ∨ i = 1 ∨ i = 2 ∨ i = 3 ∨ i = 4 ∨ i = 5 ∨ i = 6 ∨ i = 7 := by omega
  rcases this with rfl | rfl | rfl | rfl | rfl | rfl | rfl | rfl <;> exact Or.inr (by decide)
theorem ro_14 {i : Nat} (h : i < 8) : am_vl (aR 14 0 i) := by
  have : i = 0 ∨ i = 1 ∨ i = 2 ∨ i = 3 ∨ i = 4 ∨ i = 5 ∨ i = 6 ∨ i = 7 := by omega
  rcases this with rfl | rfl | rfl | rfl | rfl | rfl | rfl | rfl <;> exact Or.inr (by decide)
section Snd4
variable {p : Program} {l : Launch} {e : Env} {R : Room} {s : State} {m : MethodId} {args : Array Value} {below : List Frame} {meth : Method} {c : Code} {cells slots : Nat} {Q : State → Prop} {cc : ByteArray} {nL : Nat} {own : String} {D : va_G} {ad : Nat × Nat × Nat → Nat} {fv : Value} {cI cZ : ClassId} {A : Nat → Prop} {d : Nat} {X : Option (Nat × (Nat → Int32))} {ret : Option FieldType} {Rt : Option am_V → am_M → Prop}
def am_Re (p : Program) (l : Launch) (e : Env) (R : Room) (s : State) (m : MethodId) (args : Array Value) (below : List Frame) (meth : Method) (c : Code) (cells slots : Nat) (Q : State → Prop) (cc : ByteArray) (D : va_G) (ad : Nat × Nat × Nat → Nat) (cI cZ : ClassId) (A : Nat → Prop) (ret : Option FieldType) (Rt : Option am_V → am_M → Prop) : Prop :=
  (∀ (x : Int32) (M : am_M) (H : Heap) (locs : List Loc) (ls : Array Slot) (pc : Nat), am_ret ret x (Rt (some (aI x)) M) → va_P D am_cls (am_wl ad cI cZ M) H → va_S A s.heap H locs → decode cc pc = .ok (.ireturn, 1) → W p l e R s m args below meth c H locs cells slots Q (F0 m pc ls [.int x])) ∧
  (∀ (x : Int64) (M : am_M) (H : Heap) (locs : List Loc) (ls : Array Slot) (pc : Nat), am_retL ret (Rt (some (aL x)) M) → va_P D am_cls (am_wl ad cI cZ M) H → va_S A s.heap H locs → decode cc pc = .ok (.lreturn, 1) → W p l e R s m args below meth c H locs cells slots Q (F0 m pc ls [.long x])) ∧
  (∀ (M : am_M) (H : Heap) (locs : List Loc) (ls : Array Slot) (pc : Nat), am_retV ret (Rt none M) → va_P D am_cls (am_wl ad cI cZ M) H → va_S A s.heap H locs → decode cc pc = .ok (.return_, 1) → W p l e R s m args below meth c H locs cells slots Q (F0 m pc ls []))
set_option maxHeartbeats 4000000 in
theorem snd_step (hcl : am_clok) (C : am_Cx p R s m args c cells slots cc nL own D ad fv cI cZ A d X) (hRe : am_Re p l e R s m args below meth c cells slots Q cc D ad cI cZ A ret Rt) {el : am_E} {k : am_L → List am_V → am_M → Prop} {n : Nat} (hdec : decode cc el.1 = .ok (el.2.1, n)) (hn : am_isw el.2.1 = false → n = am_ln el.2.1) (hk : am_isw el.2.1 = false → ∀ lv st M, k lv st M → am_J p l e R s m args below meth c cells slots Q nL D ad fv cI cZ A (el.1 + n) lv st M) (hsc : am_sc1 el = true) (hpo : ∀ t i en, am_key el.2.1 = some (t, i) → el.2.2.2 = some en → am_pk own t i en) {lv : am_L} {st : List am_V} {M : am_M} (h : am_step d X ret (am_J p l e R s m args below meth c cells slots Q nL D ad fv cI cZ A) Rt el k lv st M) : am_J p l e R s m args below meth c cells slots Q nL D ad fv cI cZ A el.1 lv st M := by
  obtain ⟨pc, ins, ns, en⟩ := el
  have C0 := C
  obtain ⟨hx, hb, hml, hown, hts, hK, hD, hE, hR, hR2, hX⟩ := C0
  have hf := hE.2.2.2.2.1
  cases ins with
  | iconst b =>
    obtain rfl : n = 1 := hn rfl
    replace hk := hk rfl
    obtain ⟨v, rfl, h2⟩ := eI_inv h
    intro H locs ls hP hS hl hlv hst
    exact lv_iconst hx hb hdec (of_decide_eq_true hsc) (hk _ _ _ h2 H locs ls hP hS hl hlv (vl_cons trivial hst))
  | bipush b =>
    obtain rfl : n = 2 := hn rfl
    replace hk := hk rfl
    obtain ⟨v, rfl, h2⟩ := eI_inv h
    intro H locs ls hP hS hl hlv hst
    exact lv_bipush hx hb hdec (of_decide_eq_true hsc) (hk _ _ _ h2 H locs ls hP hS hl hlv (vl_cons trivial hst))
  | sipush b =>
    obtain rfl : n = 3 := hn rfl
    replace hk := hk rfl
    obtain ⟨v, rfl, h2⟩ := eI_inv h
    intro H locs ls hP hS hl hlv hst
    exact lv_sipush hx hb hdec (of_decide_eq_true hsc) (hk _ _ _ h2 H locs ls hP hS hl hlv (vl_cons trivial hst))
  | lconst b =>
    obtain rfl : n = 1 := hn rfl
    replace hk := hk rfl
    cases en with
    | none => exact h.elim
    | some ev =>
      rcases ev with cs | cl | ci | cj | cr | ct | cu
      · exact h.elim
      · exact h.elim
      · exact h.elim
      · intro H locs ls hP hS hl hlv hst
        exact lv_lconst hx hb hdec (of_decide_eq_true hsc) (hk _ _ _ h H locs ls hP hS hl hlv (vl_cons trivial hst))
      · exact h.elim
      · exact h.elim
      · exact h.elim
  | ldc idx =>
    obtain rfl : n = 2 := hn rfl
    replace hk := hk rfl
    cases en with
    | none => exact h.elim
    | some ev =>
      rcases ev with cs | cl | ci | cj | cr | ct | cu
      · exact h.elim
      · exact h.elim
      · intro H locs ls hP hS hl hlv hst
        exact lv_ldc hx hb hown (hts _ (hpo 1 idx _ rfl rfl)) hdec (hk _ _ _ h H locs ls hP hS hl hlv (vl_cons trivial hst))
      · exact h.elim
      · obtain ⟨i, hi, rfl, hw, rfl⟩ := hpo 1 idx _ rfl rfl
        subst hw
        intro H locs ls hP hS hl hlv hst
        refine va_ldcS hx hb hown (hE.2.2.2.2.2.2 i hi) hdec ?_
        have h5 := hk _ _ _ h H locs ls hP hS hl hlv (vl_cons (ro_13 hi) hst)
        rw [List.map_cons, cv_ref (show ¬ (13 : Nat) = 15 by decide)] at h5
        exact h5
      · exact h.elim
      · exact h.elim
  | ldc_w idx =>
    obtain rfl : n = 3 := hn rfl
    replace hk := hk rfl
    obtain ⟨v, rfl, h2⟩ := eI_inv h
    intro H locs ls hP hS hl hlv hst
    exact lv_ldcw hx hb hown (hts _ (hpo 1 idx _ rfl rfl)) hdec (hk _ _ _ h2 H locs ls hP hS hl hlv (vl_cons trivial hst))
  | ldc2_w idx =>
    obtain rfl : n = 3 := hn rfl
    replace hk := hk rfl
    cases en with
    | none => exact h.elim
    | some ev =>
      rcases ev with cs | cl | ci | cj | cr | ct | cu
      · exact h.elim
      · exact h.elim
      · exact h.elim
      · intro H locs ls hP hS hl hlv hst
        exact lv_ldc2 hx hb hown (hts _ (hpo 2 idx _ rfl rfl)) hdec (hk _ _ _ h H locs ls hP hS hl hlv (vl_cons trivial hst))
      · exact h.elim
      · exact h.elim
      · exact h.elim
  | iload_n b =>
    obtain rfl : n = 1 := hn rfl
    replace hk := hk rfl
    obtain ⟨i, l2, rfl, h2⟩ := n1_inv h
    clear h
    split at h2
    · rename_i x hx2
      intro H locs ls hP hS hl hlv hst
      exact lv_iload_n hx hb hdec (of_decide_eq_true hsc) (hl.2.2.2 _ _ hx2) (hk _ _ _ h2 H locs ls hP hS hl hlv (vl_cons trivial hst))
    · exact h2.elim
  | iload b =>
    obtain rfl : n = 2 := hn rfl
    replace hk := hk rfl
    obtain ⟨i, l2, rfl, h2⟩ := n1_inv h
    clear h
    obtain rfl := of_decide_eq_true hsc
    split at h2
    · rename_i x hx2
      intro H locs ls hP hS hl hlv hst
      exact lv_iload hx hb hdec  (hl.2.2.2 _ _ hx2) (hk _ _ _ h2 H locs ls hP hS hl hlv (vl_cons trivial hst))
    · exact h2.elim
  | lload_n b =>
    obtain rfl : n = 1 := hn rfl
    replace hk := hk rfl
    obtain ⟨i, l2, rfl, h2⟩ := n1_inv h
    clear h
    split at h2
    · rename_i x hx2
      intro H locs ls hP hS hl hlv hst
      exact lv_lload_n hx hb hdec (of_decide_eq_true hsc) (hl.2.2.2 _ _ hx2) (hk _ _ _ h2 H locs ls hP hS hl hlv (vl_cons trivial hst))
    · exact h2.elim
  | lload b =>
    obtain rfl : n = 2 := hn rfl
    replace hk := hk rfl
    obtain ⟨i, l2, rfl, h2⟩ := n1_inv h
    clear h
    obtain rfl := of_decide_eq_true hsc
    split at h2
    · rename_i x hx2
      intro H locs ls hP hS hl hlv hst
      exact lv_lload hx hb hdec  (hl.2.2.2 _ _ hx2) (hk _ _ _ h2 H locs ls hP hS hl hlv (vl_cons trivial hst))
    · exact h2.elim
  | aload_n b =>
    obtain rfl : n = 1 := hn rfl
    replace hk := hk rfl
    obtain ⟨i, l2, rfl, h2⟩ := n1_inv h
    clear h
    split at h2
    · rename_i kd j o hx2
      intro H locs ls hP hS hl hlv hst
      have h5 := hk _ _ _ h2 H locs ls hP hS hl hlv (vl_cons (hlv _ _ hx2) hst)
      have h6 := hl.2.2.2 _ _ hx2
      by_cases h15 : kd = 15
      · have e0 : cv ad fv (Sum.inl (kd, j, o)) = fv := by simp [cv, h15]
        rw [List.map_cons, e0] at h5
        rw [e0] at h6
        rcases hf with rfl | ⟨t, rfl⟩
        · exact lv_aload_nN hx hb hdec (of_decide_eq_true hsc) h6 h5
        · exact lv_aload_n hx hb hdec (of_decide_eq_true hsc) h6 h5
      · have e0 : cv ad fv (Sum.inl (kd, j, o)) = .ref (ad (kd, j, o)) := cv_ref h15
        rw [List.map_cons, e0] at h5
        rw [e0] at h6
        exact lv_aload_n hx hb hdec (of_decide_eq_true hsc) h6 h5
    · exact h2.elim
  | aload b =>
    obtain rfl : n = 2 := hn rfl
    replace hk := hk rfl
    obtain ⟨i, l2, rfl, h2⟩ := n1_inv h
    clear h
    obtain rfl := of_decide_eq_true hsc
    split at h2
    · rename_i kd j o hx2
      intro H locs ls hP hS hl hlv hst
      have h5 := hk _ _ _ h2 H locs ls hP hS hl hlv (vl_cons (hlv _ _ hx2) hst)
      have h6 := hl.2.2.2 _ _ hx2
      by_cases h15 : kd = 15
      · have e0 : cv ad fv (Sum.inl (kd, j, o)) = fv := by simp [cv, h15]
        rw [List.map_cons, e0] at h5
        rw [e0] at h6
        rcases hf with rfl | ⟨t, rfl⟩
        · exact lv_aloadN hx hb hdec  h6 h5
        · exact lv_aload hx hb hdec  h6 h5
      · have e0 : cv ad fv (Sum.inl (kd, j, o)) = .ref (ad (kd, j, o)) := cv_ref h15
        rw [List.map_cons, e0] at h5
        rw [e0] at h6
        exact lv_aload hx hb hdec  h6 h5
    · exact h2.elim
  | istore_n b =>
    obtain rfl : n = 1 := hn rfl
    replace hk := hk rfl
    obtain ⟨i, l2, rfl, h2⟩ := n1_inv h
    clear h
    obtain ⟨x, r, rfl, h3⟩ := pI_inv h2
    obtain ⟨hok, h4⟩ := ck_inv h3
    intro H locs ls hP hS hl hlv hst
    exact lv_istore_n hx hb hdec (of_decide_eq_true hsc) (as_has hl) (by have := ok1_lt hok; have := hl.2.1; omega) rfl (fun ls2 hl2 => hk _ _ _ h4 H locs ls2 hP hS (H_set1 (v := aI x) hf hl hok hl2) (lvl_set hlv trivial) (vl_tl hst))
  | istore b =>
    obtain rfl : n = 2 := hn rfl
    replace hk := hk rfl
    obtain ⟨i, l2, rfl, h2⟩ := n1_inv h
    clear h
    obtain rfl := of_decide_eq_true hsc
    obtain ⟨x, r, rfl, h3⟩ := pI_inv h2
    obtain ⟨hok, h4⟩ := ck_inv h3
    intro H locs ls hP hS hl hlv hst
    exact lv_istore hx hb hdec  (as_has hl) (by have := ok1_lt hok; have := hl.2.1; omega) rfl (fun ls2 hl2 => hk _ _ _ h4 H locs ls2 hP hS (H_set1 (v := aI x) hf hl hok hl2) (lvl_set hlv trivial) (vl_tl hst))
  | astore_n b =>
    obtain rfl : n = 1 := hn rfl
    replace hk := hk rfl
    obtain ⟨i, l2, rfl, h2⟩ := n1_inv h
    clear h
    obtain ⟨kd, j, o, r, rfl, h3⟩ := pR_inv h2
    obtain ⟨hok2, h4⟩ := ck_inv h3
    obtain ⟨hok, hn15⟩ := (Bool.and_eq_true _ _).mp hok2
    have h15 : ¬ kd = 15 := by
      intro e0
      subst e0
      cases hn15
    intro H locs ls hP hS hl hlv hst
    have e0 : cv ad fv (Sum.inl (kd, j, o)) = .ref (ad (kd, j, o)) := cv_ref h15
    show W p l e R s m args below meth c H locs cells slots Q (F0 m pc ls (cv ad fv (Sum.inl (kd, j, o)) :: r.map (cv ad fv)))
    rw [e0]
    exact lv_astore_n hx hb hdec (of_decide_eq_true hsc) (as_has hl) (by have := ok1_lt hok; have := hl.2.1; omega) rfl (fun ls2 hl2 => hk _ _ _ h4 H locs ls2 hP hS (H_set1 (v := Sum.inl (kd, j, o)) hf hl hok (by rw [e0]; exact hl2)) (lvl_set hlv (hst _ List.mem_cons_self)) (vl_tl hst))
  | lstore_n b =>
    obtain rfl : n = 1 := hn rfl
    replace hk := hk rfl
    obtain ⟨i, l2, rfl, h2⟩ := n1_inv h
    clear h
    obtain ⟨x, r, rfl, h3⟩ := pL_inv h2
    obtain ⟨hok2, h4⟩ := ck_inv h3
    obtain ⟨hok, hlt⟩ := (Bool.and_eq_true _ _).mp hok2
    have hlt2 : i + 1 < lv.length := Nat.le_of_ble_eq_true hlt
    intro H locs ls hP hS hl hlv hst
    exact lv_lstore_n hx hb hdec (of_decide_eq_true hsc) (as_has hl) (by have := hl.2.1; omega) rfl (fun ls2 hl2 => hk _ _ _ h4 H locs ls2 hP hS (H_set2 (v := aL x) hf hl hok hl2) (lvl_none (lvl_set hlv trivial)) (vl_tl hst))
  | iinc a b =>
    obtain rfl : n = 3 := hn rfl
    replace hk := hk rfl
    obtain ⟨i, l2, rfl, h2⟩ := n1_inv h
    clear h
    obtain ⟨v, rfl, h3⟩ := eI_inv h2
    obtain ⟨hs1, hs2⟩ := (Bool.and_eq_true _ _).mp hsc
    obtain rfl := of_decide_eq_true hs1
    have hs2 := of_decide_eq_true hs2
    split at h3
    · rename_i x hx2
      obtain ⟨hok, h4⟩ := ck_inv h3
      intro H locs ls hP hS hl hlv hst
      obtain ⟨q, hq⟩ := List.getElem?_of_mem (as_mem (ad := ad) (fv := fv) hx2)
      exact lv_iinc (v := x + v) hx hb hdec (as_has hl) hq (by rw [hs2]) (by have := ok1_lt hok; have := hl.2.1; omega) rfl (fun ls2 hl2 => hk _ _ _ h4 H locs ls2 hP hS (H_set1 (v := aI (x + v)) hf hl hok hl2) (lvl_set hlv trivial) hst)
    · exact h3.elim
  | iadd =>
    obtain rfl : n = 1 := hn rfl
    replace hk := hk rfl
    obtain ⟨y, r1, rfl, h2⟩ := pI_inv h
    clear h
    obtain ⟨x, r, rfl, h3⟩ := pI_inv h2
    clear h2
    intro H locs ls hP hS hl hlv hst
    exact lv_iadd hx hb hdec (hk _ _ _ h3 H locs ls hP hS hl hlv (vl_cons trivial (vl_tl (vl_tl hst))))
  | isub =>
    obtain rfl : n = 1 := hn rfl
    replace hk := hk rfl
    obtain ⟨y, r1, rfl, h2⟩ := pI_inv h
    clear h
    obtain ⟨x, r, rfl, h3⟩ := pI_inv h2
    clear h2
    intro H locs ls hP hS hl hlv hst
    exact lv_isub hx hb hdec (hk _ _ _ h3 H locs ls hP hS hl hlv (vl_cons trivial (vl_tl (vl_tl hst))))
  | imul =>
    obtain rfl : n = 1 := hn rfl
    replace hk := hk rfl
    obtain ⟨y, r1, rfl, h2⟩ := pI_inv h
    clear h
    obtain ⟨x, r, rfl, h3⟩ := pI_inv h2
    clear h2
    intro H locs ls hP hS hl hlv hst
    exact lv_imul hx hb hdec (hk _ _ _ h3 H locs ls hP hS hl hlv (vl_cons trivial (vl_tl (vl_tl hst))))
  | iand =>
    obtain rfl : n = 1 := hn rfl
    replace hk := hk rfl
    obtain ⟨y, r1, rfl, h2⟩ := pI_inv h
    clear h
    obtain ⟨x, r, rfl, h3⟩ := pI_inv h2
    clear h2
    intro H locs ls hP hS hl hlv hst
    exact lv_iand hx hb hdec (hk _ _ _ h3 H locs ls hP hS hl hlv (vl_cons trivial (vl_tl (vl_tl hst))))
  | ior =>
    obtain rfl : n = 1 := hn rfl
    replace hk := hk rfl
    obtain ⟨y, r1, rfl, h2⟩ := pI_inv h
    clear h
    obtain ⟨x, r, rfl, h3⟩ := pI_inv h2
    clear h2
    intro H locs ls hP hS hl hlv hst
    exact lv_ior hx hb hdec (hk _ _ _ h3 H locs ls hP hS hl hlv (vl_cons trivial (vl_tl (vl_tl hst))))
  | ixor =>
    obtain rfl : n = 1 := hn rfl
    replace hk := hk rfl
    obtain ⟨y, r1, rfl, h2⟩ := pI_inv h
    clear h
    obtain ⟨x, r, rfl, h3⟩ := pI_inv h2
    clear h2
    intro H locs ls hP hS hl hlv hst
    exact lv_ixor hx hb hdec (hk _ _ _ h3 H locs ls hP hS hl hlv (vl_cons trivial (vl_tl (vl_tl hst))))
  | ishl =>
    obtain rfl : n = 1 := hn rfl
    replace hk := hk rfl
    obtain ⟨y, r1, rfl, h2⟩ := pI_inv h
    clear h
    obtain ⟨x, r, rfl, h3⟩ := pI_inv h2
    clear h2
    intro H locs ls hP hS hl hlv hst
    exact lv_ishl hx hb hdec (hk _ _ _ h3 H locs ls hP hS hl hlv (vl_cons trivial (vl_tl (vl_tl hst))))
  | ishr =>
    obtain rfl : n = 1 := hn rfl
    replace hk := hk rfl
    obtain ⟨y, r1, rfl, h2⟩ := pI_inv h
    clear h
    obtain ⟨x, r, rfl, h3⟩ := pI_inv h2
    clear h2
    intro H locs ls hP hS hl hlv hst
    exact lv_ishr hx hb hdec (hk _ _ _ h3 H locs ls hP hS hl hlv (vl_cons trivial (vl_tl (vl_tl hst))))
  | idiv =>
    obtain rfl : n = 1 := hn rfl
    replace hk := hk rfl
    obtain ⟨y, r1, rfl, h2⟩ := pI_inv h
    clear h
    obtain ⟨x, r, rfl, h3⟩ := pI_inv h2
    clear h2
    intro H locs ls hP hS hl hlv hst
    exact lv_idiv hx hb hdec h3.1 (hk _ _ _ h3.2 H locs ls hP hS hl hlv (vl_cons trivial (vl_tl (vl_tl hst))))
  | irem =>
    obtain rfl : n = 1 := hn rfl
    replace hk := hk rfl
    obtain ⟨y, r1, rfl, h2⟩ := pI_inv h
    clear h
    obtain ⟨x, r, rfl, h3⟩ := pI_inv h2
    clear h2
    intro H locs ls hP hS hl hlv hst
    exact lv_irem hx hb hdec h3.1 (hk _ _ _ h3.2 H locs ls hP hS hl hlv (vl_cons trivial (vl_tl (vl_tl hst))))
  | ladd =>
    obtain rfl : n = 1 := hn rfl
    replace hk := hk rfl
    obtain ⟨y, r1, rfl, h2⟩ := pL_inv h
    clear h
    obtain ⟨x, r, rfl, h3⟩ := pL_inv h2
    clear h2
    intro H locs ls hP hS hl hlv hst
    exact lv_ladd hx hb hdec (hk _ _ _ h3 H locs ls hP hS hl hlv (vl_cons trivial (vl_tl (vl_tl hst))))
  | land =>
    obtain rfl : n = 1 := hn rfl
    replace hk := hk rfl
    obtain ⟨y, r1, rfl, h2⟩ := pL_inv h
    clear h
    obtain ⟨x, r, rfl, h3⟩ := pL_inv h2
    clear h2
    intro H locs ls hP hS hl hlv hst
    exact lv_land hx hb hdec (hk _ _ _ h3 H locs ls hP hS hl hlv (vl_cons trivial (vl_tl (vl_tl hst))))
  | lor =>
    obtain rfl : n = 1 := hn rfl
    replace hk := hk rfl
    obtain ⟨y, r1, rfl, h2⟩ := pL_inv h
    clear h
    obtain ⟨x, r, rfl, h3⟩ := pL_inv h2
    clear h2
    intro H locs ls hP hS hl hlv hst
    exact lv_lor hx hb hdec (hk _ _ _ h3 H locs ls hP hS hl hlv (vl_cons trivial (vl_tl (vl_tl hst))))
  | lcmp =>
    obtain rfl : n = 1 := hn rfl
    replace hk := hk rfl
    obtain ⟨y, r1, rfl, h2⟩ := pL_inv h
    clear h
    obtain ⟨x, r, rfl, h3⟩ := pL_inv h2
    clear h2
    intro H locs ls hP hS hl hlv hst
    exact W.lcmp hx hb hdec (hk _ _ _ h3 H locs ls hP hS hl hlv (vl_cons trivial (vl_tl (vl_tl hst))))
  | lshl =>
    obtain rfl : n = 1 := hn rfl
    replace hk := hk rfl
    obtain ⟨y, r1, rfl, h2⟩ := pI_inv h
    clear h
    obtain ⟨x, r, rfl, h3⟩ := pL_inv h2
    clear h2
    intro H locs ls hP hS hl hlv hst
    exact lv_lshl hx hb hdec rfl (hk _ _ _ h3 H locs ls hP hS hl hlv (vl_cons trivial (vl_tl (vl_tl hst))))
  | lshr =>
    obtain rfl : n = 1 := hn rfl
    replace hk := hk rfl
    obtain ⟨y, r1, rfl, h2⟩ := pI_inv h
    clear h
    obtain ⟨x, r, rfl, h3⟩ := pL_inv h2
    clear h2
    intro H locs ls hP hS hl hlv hst
    exact lv_lshr hx hb hdec rfl (hk _ _ _ h3 H locs ls hP hS hl hlv (vl_cons trivial (vl_tl (vl_tl hst))))
  | lushr =>
    obtain rfl : n = 1 := hn rfl
    replace hk := hk rfl
    obtain ⟨y, r1, rfl, h2⟩ := pI_inv h
    clear h
    obtain ⟨x, r, rfl, h3⟩ := pL_inv h2
    clear h2
    intro H locs ls hP hS hl hlv hst
    exact lv_lushr hx hb hdec rfl (hk _ _ _ h3 H locs ls hP hS hl hlv (vl_cons trivial (vl_tl (vl_tl hst))))
  | ineg =>
    obtain rfl : n = 1 := hn rfl
    replace hk := hk rfl
    obtain ⟨x, r, rfl, h2⟩ := pI_inv h
    clear h
    intro H locs ls hP hS hl hlv hst
    exact lv_ineg hx hb hdec (hk _ _ _ h2 H locs ls hP hS hl hlv (vl_cons trivial (vl_tl hst)))
  | i2l =>
    obtain rfl : n = 1 := hn rfl
    replace hk := hk rfl
    obtain ⟨x, r, rfl, h2⟩ := pI_inv h
    clear h
    intro H locs ls hP hS hl hlv hst
    exact lv_i2l hx hb hdec rfl (hk _ _ _ h2 H locs ls hP hS hl hlv (vl_cons trivial (vl_tl hst)))
  | l2i =>
    obtain rfl : n = 1 := hn rfl
    replace hk := hk rfl
    obtain ⟨x, r, rfl, h2⟩ := pL_inv h
    clear h
    intro H locs ls hP hS hl hlv hst
    exact lv_l2i hx hb hdec rfl (hk _ _ _ h2 H locs ls hP hS hl hlv (vl_cons trivial (vl_tl hst)))
  | i2b =>
    obtain rfl : n = 1 := hn rfl
    replace hk := hk rfl
    obtain ⟨x, r, rfl, h2⟩ := pI_inv h
    clear h
    intro H locs ls hP hS hl hlv hst
    exact lv_i2b hx hb hdec rfl (hk _ _ _ h2 H locs ls hP hS hl hlv (vl_cons trivial (vl_tl hst)))
  | i2s =>
    obtain rfl : n = 1 := hn rfl
    replace hk := hk rfl
    obtain ⟨x, r, rfl, h2⟩ := pI_inv h
    clear h
    intro H locs ls hP hS hl hlv hst
    exact lv_i2s hx hb hdec rfl (hk _ _ _ h2 H locs ls hP hS hl hlv (vl_cons trivial (vl_tl hst)))
  | i2c =>
    obtain rfl : n = 1 := hn rfl
    replace hk := hk rfl
    obtain ⟨x, r, rfl, h2⟩ := pI_inv h
    clear h
    intro H locs ls hP hS hl hlv hst
    exact lv_i2c hx hb hdec rfl (hk _ _ _ h2 H locs ls hP hS hl hlv (vl_cons trivial (vl_tl hst)))
  | dup =>
    obtain rfl : n = 1 := hn rfl
    replace hk := hk rfl
    replace h : am_pA st (fun x r => k lv (x :: x :: r) M) := h
    obtain ⟨v, r, rfl, hv, h2⟩ := pA_inv h
    clear h
    intro H locs ls hP hS hl hlv hst
    exact lv_dup hx hb hdec (cv_cat1 hf hv) (hk _ _ _ h2 H locs ls hP hS hl hlv (vl_cons (hst _ List.mem_cons_self) hst))
  | dup2 =>
    obtain rfl : n = 1 := hn rfl
    replace hk := hk rfl
    replace h : am_pA st (fun x r => am_pA r fun y r => k lv (x :: y :: x :: y :: r) M) := h
    obtain ⟨v, r1, rfl, hv, h2⟩ := pA_inv h
    clear h
    obtain ⟨w, r, rfl, hw, h3⟩ := pA_inv h2
    clear h2
    intro H locs ls hP hS hl hlv hst
    exact lv_dup2_11 hx hb hdec (cv_cat1 hf hv) (cv_cat1 hf hw) (hk _ _ _ h3 H locs ls hP hS hl hlv (vl_cons (hst _ List.mem_cons_self) (vl_cons (hst _ (List.mem_cons_of_mem _ List.mem_cons_self)) hst)))
  | pop =>
    obtain rfl : n = 1 := hn rfl
    replace hk := hk rfl
    replace h : am_pA st (fun _ r => k lv r M) := h
    obtain ⟨v, r, rfl, hv, h2⟩ := pA_inv h
    clear h
    intro H locs ls hP hS hl hlv hst
    exact lv_pop hx hb hdec (cv_cat1 hf hv) (hk _ _ _ h2 H locs ls hP hS hl hlv (vl_tl hst))
  | getfield idx =>
    obtain rfl : n = 3 := hn rfl
    replace hk := hk rfl
    cases en with
    | none => exact h.elim
    | some ev =>
      rcases ev with cs | cl | ci | cj | cr | ct | cu
      · obtain ⟨c1, s1⟩ := cs
        exact snd_get hcl C (hpo 0 idx _ rfl rfl) hdec (fun r hr => hk _ _ _ hr) h
      · exact h.elim
      · exact h.elim
      · exact h.elim
      · exact h.elim
      · obtain ⟨kd, j, o, r, rfl, h2⟩ := pR_inv h
        obtain ⟨hck, h3⟩ := ck_inv h2
        obtain rfl := Nat.eq_of_beq_eq_true hck
        intro H locs ls hP hS hl hlv hst
        have hv2 : j = 0 ∧ o < 8 := by
          rcases hst _ List.mem_cons_self with q | q
          · exact absurd ((by decide +kernel : ∀ q ∈ am_all, q.1 < 12) _ q) (show ¬ (13 : Nat) < 12 by decide)
          · revert q
            simp only [am_ro, List.mem_cons, Prod.mk.injEq, List.not_mem_nil, or_false]
            omega
        obtain ⟨rfl, ho⟩ := hv2
        have hst2 := vl_tl hst
        show W p l e R s m args below meth c H locs cells slots Q (F0 m pc ls (cv ad fv (Sum.inl (13, 0, o)) :: r.map (cv ad fv)))
        rw [cv_ref (show ¬ (13 : Nat) = 15 by decide)]
        rcases hpo 0 idx _ rfl rfl with ⟨rfl, hlk⟩ | ⟨rfl, hlk⟩
        · exact vk_getf hx hb (hE.2.2.2.2.2.1.1 o ho).2.1 hS hown (hts _ hlk) (fun _ q => q) hdec (hk _ _ _ h3 H locs ls hP hS hl hlv (vl_cons trivial hst2))
        · refine vk_getf hx hb (hE.2.2.2.2.2.1.1 o ho).2.2.1 hS hown (hts _ hlk) (fun _ q => q) hdec ?_
          have h5 := hk _ _ _ h3 H locs ls hP hS hl hlv (vl_cons (ro_14 ho) hst2)
          rw [List.map_cons, cv_ref (show ¬ (14 : Nat) = 15 by decide)] at h5
          exact h5
      · exact h.elim
  | putfield idx =>
    obtain rfl : n = 3 := hn rfl
    replace hk := hk rfl
    cases en with
    | none => exact h.elim
    | some ev =>
      rcases ev with cs | ev
      · obtain ⟨c1, s1⟩ := cs
        exact snd_put hcl C (hpo 0 idx _ rfl rfl) hdec (fun r M2 hr => hk _ _ _ hr) h
      · exact h.elim
  | getstatic idx =>
    obtain rfl : n = 3 := hn rfl
    replace hk := hk rfl
    cases en with
    | none => exact h.elim
    | some ev =>
      rcases ev with cs | cl | ci | cj | cr | ct | cu
      · exact h.elim
      · exact h.elim
      · obtain ⟨rfl, hlk⟩ := hpo 3 idx _ rfl rfl
        intro H locs ls hP hS hl hlv hst
        exact va_gets hx hb hE.2.2.1 hS hown (hts _ hlk) (fun _ q => q) hdec (hk _ _ _ h H locs ls hP hS hl hlv (vl_cons trivial hst))
      · exact h.elim
      · intro H locs ls hP hS hl hlv hst
        rcases hpo 3 idx _ rfl rfl with ⟨i, hi, rfl, hlk⟩ | ⟨rfl, hlk⟩
        · refine va_gets hx hb (hE.2.1 i hi).1 hS hown (hts _ hlk) (fun _ q => q) hdec ?_
          have h5 := hk _ _ _ h H locs ls hP hS hl hlv (vl_cons (ro_12 hi) hst)
          rw [List.map_cons, cv_ref (show ¬ (12 : Nat) = 15 by decide)] at h5
          exact h5
        · refine va_gets hx hb hE.2.2.2.1 hS hown (hts _ hlk) (fun _ q => q) hdec ?_
          exact hk _ _ _ h H locs ls hP hS hl hlv (vl_cons (Or.inr (by decide)) hst)
      · exact h.elim
      · exact h.elim
  | arraylength =>
    obtain rfl : n = 1 := hn rfl
    replace hk := hk rfl
    exact snd_len C hdec (fun r hr => hk _ _ _ hr) h
  | iaload =>
    obtain rfl : n = 1 := hn rfl
    replace hk := hk rfl
    exact snd_ild C hdec (fun r hr => hk _ _ _ hr) h
  | baload =>
    obtain rfl : n = 1 := hn rfl
    replace hk := hk rfl
    exact snd_bld C hdec (fun r hr => hk _ _ _ hr) h
  | iastore =>
    obtain rfl : n = 1 := hn rfl
    replace hk := hk rfl
    exact snd_ist C hdec (fun r M2 hr => hk _ _ _ hr) h
  | bastore =>
    obtain rfl : n = 1 := hn rfl
    replace hk := hk rfl
    exact snd_bst C hdec (fun r M2 hr => hk _ _ _ hr) h
  | if_icmp op off =>
    obtain rfl : n = 3 := hn rfl
    replace hk := hk rfl
    obtain ⟨t, l2, rfl, h2⟩ := n1_inv h
    clear h
    obtain ⟨y, r1, rfl, h3⟩ := pI_inv h2
    clear h2
    obtain ⟨x, r, rfl, h4⟩ := pI_inv h3
    clear h3
    have ht := of_decide_eq_true hsc
    intro H locs ls hP hS hl hlv hst
    have hst2 := vl_tl (vl_tl hst)
    cases op with
    | eq => exact lv_icmp_eq hx hb hdec ht (fun q => h4.1 q H locs ls hP hS hl hlv hst2) (fun q => hk _ _ _ (h4.2 q) H locs ls hP hS hl hlv hst2)
    | ne => exact lv_icmp_ne hx hb hdec ht (fun q => h4.2 q H locs ls hP hS hl hlv hst2) (fun q => hk _ _ _ (h4.1 q) H locs ls hP hS hl hlv hst2)
    | lt => exact lv_icmp_lt hx hb hdec ht (fun q => h4.1 q H locs ls hP hS hl hlv hst2) (fun q => hk _ _ _ (h4.2 q) H locs ls hP hS hl hlv hst2)
    | ge => exact lv_icmp_ge hx hb hdec ht (fun q => h4.1 q H locs ls hP hS hl hlv hst2) (fun q => hk _ _ _ (h4.2 q) H locs ls hP hS hl hlv hst2)
    | gt => exact lv_icmp_gt hx hb hdec ht (fun q => h4.1 q H locs ls hP hS hl hlv hst2) (fun q => hk _ _ _ (h4.2 q) H locs ls hP hS hl hlv hst2)
    | le => exact lv_icmp_le hx hb hdec ht (fun q => h4.1 q H locs ls hP hS hl hlv hst2) (fun q => hk _ _ _ (h4.2 q) H locs ls hP hS hl hlv hst2)
  | ifCond op off =>
    obtain rfl : n = 3 := hn rfl
    replace hk := hk rfl
    obtain ⟨t, l2, rfl, h2⟩ := n1_inv h
    clear h
    obtain ⟨x, r, rfl, h4⟩ := pI_inv h2
    clear h2
    have ht := of_decide_eq_true hsc
    intro H locs ls hP hS hl hlv hst
    have hst2 := vl_tl hst
    cases op with
    | eq => exact lv_if_eq hx hb hdec ht (fun q => h4.1 q H locs ls hP hS hl hlv hst2) (fun q => hk _ _ _ (h4.2 q) H locs ls hP hS hl hlv hst2)
    | ne => exact lv_if_ne hx hb hdec ht (fun q => h4.2 q H locs ls hP hS hl hlv hst2) (fun q => hk _ _ _ (h4.1 q) H locs ls hP hS hl hlv hst2)
    | lt => exact lv_if_lt hx hb hdec ht (fun q => h4.1 q H locs ls hP hS hl hlv hst2) (fun q => hk _ _ _ (h4.2 q) H locs ls hP hS hl hlv hst2)
    | ge => exact lv_if_ge hx hb hdec ht (fun q => h4.1 q H locs ls hP hS hl hlv hst2) (fun q => hk _ _ _ (h4.2 q) H locs ls hP hS hl hlv hst2)
    | gt => exact lv_if_gt hx hb hdec ht (fun q => h4.1 q H locs ls hP hS hl hlv hst2) (fun q => hk _ _ _ (h4.2 q) H locs ls hP hS hl hlv hst2)
    | le => exact lv_if_le hx hb hdec ht (fun q => h4.1 q H locs ls hP hS hl hlv hst2) (fun q => hk _ _ _ (h4.2 q) H locs ls hP hS hl hlv hst2)
  | goto off =>
    obtain rfl : n = 3 := hn rfl
    replace hk := hk rfl
    obtain ⟨t, l2, rfl, h2⟩ := n1_inv h
    clear h
    have ht := of_decide_eq_true hsc
    intro H locs ls hP hS hl hlv hst
    exact lv_goto hx hb hdec ht (h2 H locs ls hP hS hl hlv hst)
  | tableswitch df lo hi offs =>
    cases ns with
    | nil => exact h.elim
    | cons t0 l0 =>
      obtain ⟨x, r, rfl, h2⟩ := pI_inv h
      clear h
      obtain ⟨hs1, hs3⟩ := (Bool.and_eq_true _ _).mp hsc
      obtain ⟨hs1, hs2⟩ := (Bool.and_eq_true _ _).mp hs1
      have hs1 := of_decide_eq_true hs1
      have hs3 := of_decide_eq_true hs3
      intro H locs ls hP hS hl hlv hst
      have hst2 := vl_tl hst
      by_cases hr0 : x.toInt < lo ∨ hi < x.toInt
      · have h5 := sw_out offs.toList l0 lo hs2 (by omega) h2
        exact lv_tableOut hx hb hdec hr0 hs1 (h5 H locs ls hP hS hl hlv hst2)
      · have hlt : (x.toInt - lo).toNat < offs.toList.length := by omega
        have ho : offs.toList[(x.toInt - lo).toNat]? = some offs.toList[(x.toInt - lo).toNat] := List.getElem?_eq_getElem hlt
        obtain ⟨t, ht, h5⟩ := sw_in offs.toList l0 lo _ _ hs2 ho (by omega) h2
        exact lv_tableIn hx hb hdec (by omega) (by omega) (by rw [← Array.getElem?_toList]; exact ho) ht (h5 H locs ls hP hS hl hlv hst2)
  | invokevirtual idx =>
    obtain rfl : n = 3 := hn rfl
    replace hk := hk rfl
    cases en with
    | none => exact h.elim
    | some ev =>
      rcases ev with cs | cl | cw
      · exact h.elim
      · obtain ⟨n0, a0, kd⟩ := cl
        replace h : am_callM d n0 a0 (some kd) st M (fun r M2 => k lv r M2) := h
        unfold am_callM at h
        cases hp : am_pop a0 st [] with
        | none => rw [hp] at h; exact h.elim
        | some q =>
          obtain ⟨as, rest⟩ := q
          rw [hp] at h
          obtain ⟨hrc, h2⟩ := ck_inv h
          obtain ⟨hct, d2, Po, hd2, hcon, h30⟩ := ck_inv h2
          obtain ⟨bs, rfl, e2, e3⟩ := pop_inv _ _ _ _ _ hp
          cases as with
          | nil => cases hrc
          | cons v as =>
            rcases v with q | x
            · obtain ⟨k0, j0, o0⟩ := q
              have hrc2 : (Nat.beq k0 kd && (Nat.beq o0 0 || Nat.beq k0 13)) = true := hrc
              obtain ⟨g1, g2⟩ := (Bool.and_eq_true _ _).mp hrc2
              obtain rfl := Nat.eq_of_beq_eq_true g1
              have g3 : o0 = 0 ∨ k0 = 13 := by
                rcases (Bool.or_eq_true _ _).mp g2 with q | q
                · exact Or.inl (Nat.eq_of_beq_eq_true q)
                · exact Or.inr (Nat.eq_of_beq_eq_true q)
              have e4 : bs = as.reverse ++ [aR k0 j0 o0] := by
                have e5 : bs.reverse = aR k0 j0 o0 :: as := by simpa using e2.symm
                have e6 := congrArg List.reverse e5
                simpa using e6
              have e7 : a0 = as.length + 1 := by rw [← e3, e4]; simp
              subst e7
              subst e4
              intro H locs ls hP hS hl hlv hst
              have hval : ∀ v ∈ aR k0 j0 o0 :: as, am_vl v := fun v hv => hst v (by
                rcases List.mem_cons.mp hv with rfl | hv
                · simp
                · simp [hv])
              have e8 : ((as.reverse ++ [aR k0 j0 o0]) ++ rest).map (cv ad fv) = (as.map (cv ad fv)).reverse ++ cv ad fv (aR k0 j0 o0) :: rest.map (cv ad fv) := by simp
              show W p l e R s m args below meth c H locs cells slots Q (F0 m pc ls (((as.reverse ++ [aR k0 j0 o0]) ++ rest).map (cv ad fv)))
              rw [e8]
              refine am_callV C hcon hd2 g3 (hpo 4 idx _ rfl rfl) hP hS hl.1 (Nat.le_of_ble_eq_true hct) hval hdec (fun r M2 hpo9 H1 locs1 hP1 hS1 => ?_)
              have h3 := h30 r M2 hpo9
              have hrest : ∀ v ∈ rest, am_vl v := fun v hv => hst v (by simp [hv])
              cases r with
              | none => exact hk _ _ _ h3 H1 locs1 ls hP1 hS1 hl hlv hrest
              | some rv =>
                rcases rv with q | x
                · exact h3.elim
                · exact hk _ _ _ h3 H1 locs1 ls hP1 hS1 hl hlv (vl_cons trivial hrest)
            · cases hrc
      · exact h.elim
  | invokestatic idx =>
    obtain rfl : n = 3 := hn rfl
    replace hk := hk rfl
    cases en with
    | none => exact h.elim
    | some ev =>
      rcases ev with cs | cl | ci | cj | cr | ct | cu
      · exact h.elim
      · obtain ⟨n0, a0, kd⟩ := cl
        replace h : am_callM d n0 a0 none st M (fun r M2 => k lv r M2) := h
        unfold am_callM at h
        cases hp : am_pop a0 st [] with
        | none => rw [hp] at h; exact h.elim
        | some q =>
          obtain ⟨as, rest⟩ := q
          rw [hp] at h
          obtain ⟨hrc, h2⟩ := ck_inv h
          obtain ⟨hct, d2, Po, hd2, hcon, h30⟩ := ck_inv h2
          obtain ⟨bs, rfl, e2, e3⟩ := pop_inv _ _ _ _ _ hp
          have e4 : bs = as.reverse := by
            have e5 : bs.reverse = as := by simpa using e2.symm
            have e6 := congrArg List.reverse e5
            simpa using e6
          have e7 : a0 = as.length := by rw [← e3, e4]; simp
          subst e7
          subst e4
          intro H locs ls hP hS hl hlv hst
          have hval : ∀ v ∈ as, am_vl v := fun v hv => hst v (by simp [hv])
          have e8 : (as.reverse ++ rest).map (cv ad fv) = (as.map (cv ad fv)).reverse ++ rest.map (cv ad fv) := by simp
          show W p l e R s m args below meth c H locs cells slots Q (F0 m pc ls ((as.reverse ++ rest).map (cv ad fv)))
          rw [e8]
          refine am_callS C hcon hd2 (hpo 5 idx _ rfl rfl) hP hS hl.1 (Nat.le_of_ble_eq_true hct) hval hdec (fun r M2 hpo9 H1 locs1 hP1 hS1 => ?_)
          have h3 := h30 r M2 hpo9
          have hrest : ∀ v ∈ rest, am_vl v := fun v hv => hst v (by simp [hv])
          cases r with
          | none => exact hk _ _ _ h3 H1 locs1 ls hP1 hS1 hl hlv hrest
          | some rv =>
            rcases rv with q | x
            · exact h3.elim
            · exact hk _ _ _ h3 H1 locs1 ls hP1 hS1 hl hlv (vl_cons trivial hrest)
      · exact h.elim
      · exact h.elim
      · exact h.elim
      · exact h.elim
      · exact snd_cpy C (hpo 5 idx _ rfl rfl) hdec (fun r M2 hr => hk _ _ _ hr) h
  | ireturn =>
    obtain rfl : n = 1 := hn rfl
    replace hk := hk rfl
    obtain ⟨x, r, rfl, h2⟩ := pI_inv h
    clear h
    obtain ⟨hr, h3⟩ := ck_inv h2
    obtain rfl := List.isEmpty_iff.mp hr
    intro H locs ls hP hS hl hlv hst
    exact hRe.1 x M H locs ls pc h3 hP hS hdec
  | lreturn =>
    obtain rfl : n = 1 := hn rfl
    replace hk := hk rfl
    obtain ⟨x, r, rfl, h2⟩ := pL_inv h
    clear h
    obtain ⟨hr, h3⟩ := ck_inv h2
    obtain rfl := List.isEmpty_iff.mp hr
    intro H locs ls hP hS hl hlv hst
    exact hRe.2.1 x M H locs ls pc h3 hP hS hdec
  | return_ =>
    obtain rfl : n = 1 := hn rfl
    replace hk := hk rfl
    obtain ⟨hr, h3⟩ := ck_inv h
    obtain rfl := List.isEmpty_iff.mp hr
    intro H locs ls hP hS hl hlv hst
    exact hRe.2.2 M H locs ls pc h3 hP hS hdec
  | _ => exact h.elim
end Snd4
