section Snd3
variable {p : Program} {l : Launch} {e : Env} {R : Room} {s : State} {m : MethodId} {args : Array Value} {below : List Frame} {meth : Method} {c : Code} {cells slots : Nat} {Q : State → Prop} {cc : ByteArray} {nL : Nat} {own : String} {D : va_G} {ad : Nat × Nat × Nat → Nat} {fv : Value} {cI cZ : ClassId} {A : Nat → Prop} {d : Nat} {X : Option (Nat × (Nat → Int32))} {ret : Option FieldType} {Rt : Option am_V → am_M → Prop}
theorem vl_tl {v : am_V} {st : List am_V} (h : ∀ w ∈ v :: st, am_vl w) : ∀ w ∈ st, am_vl w := fun w hw => h w (List.mem_cons_of_mem _ hw)
theorem vl_cons {v : am_V} {st : List am_V} (hv : am_vl v) (h : ∀ w ∈ st, am_vl w) : ∀ w ∈ v :: st, am_vl w := fun w hw => by
  rcases List.mem_cons.mp hw with rfl | hw
  · exact hv
  · exact h w hw
theorem snd_ild (C : am_Cx p R s m args c cells slots cc nL own D ad fv cI cZ A d X) {pc : Nat} {lv : am_L} {st : List am_V} {M : am_M} {K : List am_V → Prop} (hdg : decode cc pc = .ok (.iaload, 1)) (hk : ∀ r, K r → am_J p l e R s m args below meth c cells slots Q nL D ad fv cI cZ A (pc + 1) lv r M) (h : am_ild X M st K) : am_J p l e R s m args below meth c cells slots Q nL D ad fv cI cZ A pc lv st M := by
  obtain ⟨hx, hb, hml, hown, hts, hK, hD, hE, hR, hR2, hX⟩ := C
  obtain ⟨i, r1, rfl, h1⟩ := pI_inv h
  clear h
  obtain ⟨k, j, o, r, rfl, h⟩ := pR_inv h1
  clear h1
  intro H locs ls hP hS hl hlv hst
  have hst2 := vl_tl (vl_tl hst)
  have hv1 : am_vl (aR k j o) := hst _ (List.mem_cons_of_mem _ List.mem_cons_self)
  show W p l e R s m args below meth c H locs cells slots Q (F0 m pc ls (.int i :: cv ad fv (Sum.inl (k, j, o)) :: r.map (cv ad fv)))
  cases ha : am_al false k o with
  | some n =>
    rw [ha] at h
    have hin := vl_in hv1 (al_lt ha)
    obtain ⟨i2, hi⟩ := List.getElem?_of_mem hin
    have hat := wl_at (ad := ad) (cI := cI) (cZ := cZ) (M := M) hi
    rw [cell_arr ha] at hat
    rw [cv_ref (am_no15 _ hin)]
    exact va_iald hx hb hK hP i2 0 hat rfl h.1 hdg (hk _ h.2 H locs ls hP hS hl hlv (vl_cons trivial hst2))
  | none =>
    rw [ha] at h
    dsimp only at h
    split at h
    · have hv2 : j = 0 ∧ o < 3 := by
        rcases hv1 with q | q
        · exact absurd ((by decide +kernel : ∀ q ∈ am_all, q.1 < 12) _ q) (show ¬ (12 : Nat) < 12 by decide)
        · revert q
          simp only [am_ro, List.mem_cons, Prod.mk.injEq, List.not_mem_nil, or_false]
          omega
      obtain ⟨rfl, ho⟩ := hv2
      rw [cv_ref (show ¬ (12 : Nat) = 15 by decide)]
      exact va_ti hx hb (hE.2.1 o ho).2 hS h.1 rfl hdg (hk _ h.2 H locs ls hP hS hl hlv (vl_cons trivial hst2))
    · cases X with
      | none => exact h.elim
      | some q =>
        obtain ⟨L, xs⟩ := q
        have hv2 : j = 0 ∧ o = 0 := by
          rcases hv1 with q | q
          · exact absurd ((by decide +kernel : ∀ q ∈ am_all, q.1 < 12) _ q) (show ¬ (16 : Nat) < 12 by decide)
          · revert q
            simp only [am_ro, List.mem_cons, Prod.mk.injEq, List.not_mem_nil, or_false]
            omega
        obtain ⟨rfl, rfl⟩ := hv2
        rw [cv_ref (show ¬ (16 : Nat) = 15 by decide)]
        exact va_sld hx hb hX.1 hX.2.1 hX.2.2 hS h.1 hdg (hk _ h.2 H locs ls hP hS hl hlv (vl_cons trivial hst2))
    · exact h.elim
theorem snd_bld (C : am_Cx p R s m args c cells slots cc nL own D ad fv cI cZ A d X) {pc : Nat} {lv : am_L} {st : List am_V} {M : am_M} {K : List am_V → Prop} (hdg : decode cc pc = .ok (.baload, 1)) (hk : ∀ r, K r → am_J p l e R s m args below meth c cells slots Q nL D ad fv cI cZ A (pc + 1) lv r M) (h : am_bld M st K) : am_J p l e R s m args below meth c cells slots Q nL D ad fv cI cZ A pc lv st M := by
  obtain ⟨hx, hb, hml, hown, hts, hK, hD, hE, hR, hR2, hX⟩ := C
  obtain ⟨i, r1, rfl, h1⟩ := pI_inv h
  clear h
  obtain ⟨k, j, o, r, rfl, h⟩ := pR_inv h1
  clear h1
  intro H locs ls hP hS hl hlv hst
  have hst2 := vl_tl (vl_tl hst)
  have hv1 : am_vl (aR k j o) := hst _ (List.mem_cons_of_mem _ List.mem_cons_self)
  show W p l e R s m args below meth c H locs cells slots Q (F0 m pc ls (.int i :: cv ad fv (Sum.inl (k, j, o)) :: r.map (cv ad fv)))
  cases ha : am_al true k o with
  | some n =>
    rw [ha] at h
    have hin := vl_in hv1 (al_lt ha)
    obtain ⟨i2, hi⟩ := List.getElem?_of_mem hin
    have hat := wl_at (ad := ad) (cI := cI) (cZ := cZ) (M := M) hi
    rw [cell_arr ha] at hat
    rw [cv_ref (am_no15 _ hin)]
    exact va_zald hx hb hK hP i2 1 hat rfl h.1 hdg (hk _ h.2 H locs ls hP hS hl hlv (vl_cons trivial hst2))
  | none =>
    rw [ha] at h
    dsimp only at h
    split at h
    · have hv2 : j = 0 ∧ o < 8 := by
        rcases hv1 with q | q
        · exact absurd ((by decide +kernel : ∀ q ∈ am_all, q.1 < 12) _ q) (show ¬ (14 : Nat) < 12 by decide)
        · revert q
          simp only [am_ro, List.mem_cons, Prod.mk.injEq, List.not_mem_nil, or_false]
          omega
      obtain ⟨rfl, ho⟩ := hv2
      rw [cv_ref (show ¬ (14 : Nat) = 15 by decide)]
      exact va_tb hx hb (hE.2.2.2.2.2.1.1 o ho).2.2.2 hS h.1 rfl hdg (hk _ h.2 H locs ls hP hS hl hlv (vl_cons trivial hst2))
    · exact h.elim
theorem snd_len (C : am_Cx p R s m args c cells slots cc nL own D ad fv cI cZ A d X) {pc : Nat} {lv : am_L} {st : List am_V} {M : am_M} {K : List am_V → Prop} (hdg : decode cc pc = .ok (.arraylength, 1)) (hk : ∀ r, K r → am_J p l e R s m args below meth c cells slots Q nL D ad fv cI cZ A (pc + 1) lv r M) (h : am_len X M st K) : am_J p l e R s m args below meth c cells slots Q nL D ad fv cI cZ A pc lv st M := by
  obtain ⟨hx, hb, hml, hown, hts, hK, hD, hE, hR, hR2, hX⟩ := C
  obtain ⟨k, j, o, r, rfl, h1⟩ := pR_inv h
  clear h
  have h := h1
  clear h1
  intro H locs ls hP hS hl hlv hst
  have hst2 := vl_tl hst
  have hv1 : am_vl (aR k j o) := hst _ List.mem_cons_self
  show W p l e R s m args below meth c H locs cells slots Q (F0 m pc ls (cv ad fv (Sum.inl (k, j, o)) :: r.map (cv ad fv)))
  cases ha : am_al false k o with
  | some n =>
    rw [ha] at h
    have hin := vl_in hv1 (al_lt ha)
    obtain ⟨i2, hi⟩ := List.getElem?_of_mem hin
    have hat := wl_at (ad := ad) (cI := cI) (cZ := cZ) (M := M) hi
    rw [cell_arr ha] at hat
    rw [cv_ref (am_no15 _ hin)]
    exact va_alen hx hb hK hP i2 0 hat (ty := .int) rfl rfl hdg (hk _ h H locs ls hP hS hl hlv (vl_cons trivial hst2))
  | none =>
    rw [ha] at h
    dsimp only at h
    split at h
    · have hv2 : j = 0 ∧ o < 3 := by
        rcases hv1 with q | q
        · exact absurd ((by decide +kernel : ∀ q ∈ am_all, q.1 < 12) _ q) (show ¬ (12 : Nat) < 12 by decide)
        · revert q
          simp only [am_ro, List.mem_cons, Prod.mk.injEq, List.not_mem_nil, or_false]
          omega
      obtain ⟨rfl, ho⟩ := hv2
      rw [cv_ref (show ¬ (12 : Nat) = 15 by decide)]
      exact va_tlen hx hb (hE.2.1 o ho).2 hS rfl hdg (hk _ h H locs ls hP hS hl hlv (vl_cons trivial hst2))
    · have hv2 : j = 0 ∧ o < 8 := by
        rcases hv1 with q | q
        · exact absurd ((by decide +kernel : ∀ q ∈ am_all, q.1 < 12) _ q) (show ¬ (14 : Nat) < 12 by decide)
        · revert q
          simp only [am_ro, List.mem_cons, Prod.mk.injEq, List.not_mem_nil, or_false]
          omega
      obtain ⟨rfl, ho⟩ := hv2
      rw [cv_ref (show ¬ (14 : Nat) = 15 by decide)]
      exact va_tlen hx hb (hE.2.2.2.2.2.1.1 o ho).2.2.2 hS rfl hdg (hk _ h H locs ls hP hS hl hlv (vl_cons trivial hst2))
    · cases X with
      | none => exact h.elim
      | some q =>
        obtain ⟨L, xs⟩ := q
        have hv2 : j = 0 ∧ o = 0 := by
          rcases hv1 with q | q
          · exact absurd ((by decide +kernel : ∀ q ∈ am_all, q.1 < 12) _ q) (show ¬ (16 : Nat) < 12 by decide)
          · revert q
            simp only [am_ro, List.mem_cons, Prod.mk.injEq, List.not_mem_nil, or_false]
            omega
        obtain ⟨rfl, rfl⟩ := hv2
        rw [cv_ref (show ¬ (16 : Nat) = 15 by decide)]
        exact va_slen hx hb hX.1 hX.2.1 hX.2.2 hS hdg (hk _ h H locs ls hP hS hl hlv (vl_cons trivial hst2))
    · exact h.elim
theorem wl_setA {b : Bool} {M : am_M} {k j o n i : Nat} {f : Nat → Int32} (ha : am_al b k o = some n) (hi : am_all[i]? = some (k, j, o)) : (am_wl ad cI cZ M).set i (ad (k, j, o), .inl (if b then cZ else cI, n, .inl f)) = am_wl ad cI cZ (sA M k j o f) := by
  rw [← wl_set (M2 := sA M k j o f) hi cell_ne, cell_arr ha, sA_same]
theorem snd_ist (C : am_Cx p R s m args c cells slots cc nL own D ad fv cI cZ A d X) {pc : Nat} {lv : am_L} {st : List am_V} {M : am_M} {K : List am_V → am_M → Prop} (hdg : decode cc pc = .ok (.iastore, 1)) (hk : ∀ r M2, K r M2 → am_J p l e R s m args below meth c cells slots Q nL D ad fv cI cZ A (pc + 1) lv r M2) (h : am_ist M st K) : am_J p l e R s m args below meth c cells slots Q nL D ad fv cI cZ A pc lv st M := by
  obtain ⟨hx, hb, hml, hown, hts, hK, hD, hE, hR, hR2, hX⟩ := C
  obtain ⟨x, r0, rfl, h0⟩ := pI_inv h
  clear h
  obtain ⟨i, r1, rfl, h1⟩ := pI_inv h0
  clear h0
  obtain ⟨k, j, o, r, rfl, h⟩ := pR_inv h1
  clear h1
  intro H locs ls hP hS hl hlv hst
  have hst2 := vl_tl (vl_tl (vl_tl hst))
  have hv1 : am_vl (aR k j o) := hst _ (List.mem_cons_of_mem _ (List.mem_cons_of_mem _ List.mem_cons_self))
  show W p l e R s m args below meth c H locs cells slots Q (F0 m pc ls (.int x :: .int i :: cv ad fv (Sum.inl (k, j, o)) :: r.map (cv ad fv)))
  cases ha : am_al false k o with
  | none => rw [ha] at h; exact h.elim
  | some n =>
    rw [ha] at h
    have hin := vl_in hv1 (al_lt ha)
    obtain ⟨i2, hi⟩ := List.getElem?_of_mem hin
    have hat := wl_at (ad := ad) (cI := cI) (cZ := cZ) (M := M) hi
    rw [cell_arr ha] at hat
    rw [cv_ref (am_no15 _ hin)]
    refine va_iast hx hb hK hP (hD M) hS i2 0 hat rfl h.1 hdg (fun H1 locs1 hP1 _ hS1 => ?_)
    have hP2 : va_P D am_cls (am_wl ad cI cZ (sA M k j o (upd (M k j o) i.toNatClampNeg x))) H1 := by
      rw [← wl_setA ha hi]
      exact hP1
    exact hk _ _ h.2 H1 locs1 ls hP2 hS1 hl hlv hst2
theorem snd_bst (C : am_Cx p R s m args c cells slots cc nL own D ad fv cI cZ A d X) {pc : Nat} {lv : am_L} {st : List am_V} {M : am_M} {K : List am_V → am_M → Prop} (hdg : decode cc pc = .ok (.bastore, 1)) (hk : ∀ r M2, K r M2 → am_J p l e R s m args below meth c cells slots Q nL D ad fv cI cZ A (pc + 1) lv r M2) (h : am_bst M st K) : am_J p l e R s m args below meth c cells slots Q nL D ad fv cI cZ A pc lv st M := by
  obtain ⟨hx, hb, hml, hown, hts, hK, hD, hE, hR, hR2, hX⟩ := C
  obtain ⟨x, r0, rfl, h0⟩ := pI_inv h
  clear h
  obtain ⟨i, r1, rfl, h1⟩ := pI_inv h0
  clear h0
  obtain ⟨k, j, o, r, rfl, h⟩ := pR_inv h1
  clear h1
  intro H locs ls hP hS hl hlv hst
  have hst2 := vl_tl (vl_tl (vl_tl hst))
  have hv1 : am_vl (aR k j o) := hst _ (List.mem_cons_of_mem _ (List.mem_cons_of_mem _ List.mem_cons_self))
  show W p l e R s m args below meth c H locs cells slots Q (F0 m pc ls (.int x :: .int i :: cv ad fv (Sum.inl (k, j, o)) :: r.map (cv ad fv)))
  cases ha : am_al true k o with
  | none => rw [ha] at h; exact h.elim
  | some n =>
    rw [ha] at h
    have hin := vl_in hv1 (al_lt ha)
    obtain ⟨i2, hi⟩ := List.getElem?_of_mem hin
    have hat := wl_at (ad := ad) (cI := cI) (cZ := cZ) (M := M) hi
    rw [cell_arr ha] at hat
    rw [cv_ref (am_no15 _ hin)]
    refine va_zast hx hb hK hP (hD M) hS i2 1 hat rfl h.1 hdg (fun H1 locs1 hP1 _ hS1 => ?_)
    have hP2 : va_P D am_cls (am_wl ad cI cZ (sA M k j o (upd (M k j o) i.toNatClampNeg (vp_nar .boolean x)))) H1 := by
      rw [← wl_setA ha hi]
      exact hP1
    exact hk _ _ h.2 H1 locs1 ls hP2 hS1 hl hlv hst2
theorem snd_cpy (C : am_Cx p R s m args c cells slots cc nL own D ad fv cI cZ A d X) {pc idx : Nat} {lv : am_L} {st : List am_V} {M : am_M} {K : List am_V → am_M → Prop} (hpk : am_pk own 5 idx eX) (hdg : decode cc pc = .ok (.invokestatic idx, 3)) (hk : ∀ r M2, K r M2 → am_J p l e R s m args below meth c cells slots Q nL D ad fv cI cZ A (pc + 3) lv r M2) (h : am_cpy d M st K) : am_J p l e R s m args below meth c cells slots Q nL D ad fv cI cZ A pc lv st M := by
  obtain ⟨hx, hb, hml, hown, hts, hK, hD, hE, hR, hR2, hX⟩ := C
  obtain ⟨w1, w2, w3, w4⟩ := hpk
  obtain ⟨n, r0, rfl, h0⟩ := pI_inv h
  clear h
  obtain ⟨dp, r1, rfl, h1⟩ := pI_inv h0
  clear h0
  obtain ⟨k1, j1, o1, r2, rfl, h2⟩ := pR_inv h1
  clear h1
  obtain ⟨sp, r3, rfl, h3⟩ := pI_inv h2
  clear h2
  obtain ⟨k0, j0, o0, r, rfl, h4⟩ := pR_inv h3
  clear h3
  obtain ⟨hck, h⟩ := ck_inv h4
  clear h4
  obtain ⟨hd1, hr⟩ := (Bool.and_eq_true _ _).mp hck
  obtain rfl := List.isEmpty_iff.mp hr
  have hd1 : 1 ≤ d := Nat.le_of_ble_eq_true hd1
  intro H locs ls hP hS hl hlv hst
  have hv1 : am_vl (aR k1 j1 o1) := hst _ (List.mem_cons_of_mem _ (List.mem_cons_of_mem _ List.mem_cons_self))
  have hv0 : am_vl (aR k0 j0 o0) := hst _ (List.mem_cons_of_mem _ (List.mem_cons_of_mem _ (List.mem_cons_of_mem _ (List.mem_cons_of_mem _ List.mem_cons_self))))
  show W p l e R s m args below meth c H locs cells slots Q (F0 m pc ls (.int n :: .int dp :: cv ad fv (Sum.inl (k1, j1, o1)) :: .int sp :: cv ad fv (Sum.inl (k0, j0, o0)) :: []))
  cases ha0 : am_al false k0 o0 with
  | none => rw [ha0] at h; exact h.elim
  | some n0 =>
    cases ha1 : am_al false k1 o1 with
    | none => rw [ha0, ha1] at h; exact h.elim
    | some n1 =>
      rw [ha0, ha1] at h
      obtain ⟨⟨g1, g2, g3, g4, g5⟩, h⟩ := h
      have hin0 := vl_in hv0 (al_lt ha0)
      have hin1 := vl_in hv1 (al_lt ha1)
      obtain ⟨i0, hi0⟩ := List.getElem?_of_mem hin0
      obtain ⟨i1, hi1⟩ := List.getElem?_of_mem hin1
      have hat0 := wl_at (ad := ad) (cI := cI) (cZ := cZ) (M := M) hi0
      have hat1 := wl_at (ad := ad) (cI := cI) (cZ := cZ) (M := M) hi1
      rw [cell_arr ha0] at hat0
      rw [cell_arr ha1] at hat1
      rw [cv_ref (am_no15 _ hin0), cv_ref (am_no15 _ hin1)]
      refine va_copyi hx hb (hml.trans hl.1.symm) hown (hts _ w1) (hts _ w2) (hts _ w3) (hts _ w4) hK hP (hD M) hS i0 i1 0 0 (ty := .int) hat0 hat1 rfl rfl rfl g1 g2 g3 g4 g5 (fun _ _ => rfl) (Nat.le_trans hd1 hR.1) (by
        have : nativeFrameWords "java/lang/System" "arraycopy" 5 ≤ 50 := by decide +kernel
        show 0 + _ ≤ _
        omega) hdg (fun H1 locs1 hP1 _ hS1 => ?_)
      have hP2 : va_P D am_cls (am_wl ad cI cZ (sA M k1 j1 o1 (va_cpy (M k0 j0 o0) (M k1 j1 o1) sp.toNatClampNeg dp.toNatClampNeg n.toNatClampNeg))) H1 := by
        rw [← wl_setA ha1 hi1]
        exact hP1
      exact hk _ _ h H1 locs1 ls hP2 hS1 hl hlv (fun v hv => by cases hv)
end Snd3
