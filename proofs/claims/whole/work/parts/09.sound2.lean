theorem ck_bb {a b c : Nat} (h : (Nat.beq a b && Nat.beq c 0) = true) : a = b ∧ c = 0 := by
  obtain ⟨h1, h2⟩ := (Bool.and_eq_true _ _).mp h
  exact ⟨Nat.eq_of_beq_eq_true h1, Nat.eq_of_beq_eq_true h2⟩
/-! the facts of the shapes, by program -/
theorem sh_ref : ∀ q ∈ am_all, ∀ g, some g ∈ am_ob q.1 → q.2.2 = 0 → g q.2.1 ∈ am_all := by
  intro q hq g hg h0
  have key : am_all.all (fun q => !(q.2.2 == 0) || (am_ob q.1).all (fun x => match x with | some g => decide (g q.2.1 ∈ am_all) | none => true)) = true := by decide +kernel
  have h1 := List.all_eq_true.mp key q hq
  simp only [h0, beq_self_eq_true, Bool.not_true, Bool.false_or] at h1
  have h2 := List.all_eq_true.mp h1 _ hg
  exact of_decide_eq_true h2
theorem sh_put : ∀ c, c < 12 → ∀ s, s < 40 → (am_ob c)[s]? = some none → ∃ r : vw_C, am_cls[c]? = some r ∧ (r.2.1 s).2.2.2 = false ∧ parseFieldDescriptor (r.2.1 s).2.2.1 = some (if am_fb c s then .boolean else .int) := by
  have key : (List.range 12).all (fun c => (List.range 40).all (fun s => match (am_ob c)[s]? with
    | some none => (match am_cls[c]? with | some r => decide ((r.2.1 s).2.2.2 = false) && decide (parseFieldDescriptor (r.2.1 s).2.2.1 = some (if am_fb c s then .boolean else .int)) | none => false)
    | _ => true)) = true := by decide +kernel
  intro c hc s hs h
  have h1 := List.all_eq_true.mp (List.all_eq_true.mp key c (List.mem_range.mpr hc)) s (List.mem_range.mpr hs)
  rw [h] at h1
  cases hr : am_cls[c]? with
  | none => rw [hr] at h1; cases h1
  | some r =>
    rw [hr] at h1
    simp only [Bool.and_eq_true, decide_eq_true_eq] at h1
    exact ⟨r, rfl, h1.1, h1.2⟩
theorem sh_len : ∀ c, c < 12 → ∃ r : vw_C, am_cls[c]? = some r ∧ r.2.2 = (am_ob c).length ∧ r.2.2 < 40 := by
  have key : (List.range 12).all (fun c => match am_cls[c]? with | some r => decide (r.2.2 = (am_ob c).length) && decide (r.2.2 < 40) | none => false) = true := by decide +kernel
  intro c hc
  have h1 := List.all_eq_true.mp key c (List.mem_range.mpr hc)
  cases hr : am_cls[c]? with
  | none => rw [hr] at h1; cases h1
  | some r =>
    rw [hr] at h1
    simp only [Bool.and_eq_true, decide_eq_true_eq] at h1
    exact ⟨r, rfl, h1.1, h1.2⟩
def am_clok : Prop := ∀ (c : Nat) (r : vw_C), am_cls[c]? = some r → (∀ w ∈ u_ws r.1 r.2.1 r.2.2, w ∈ gtb) ∧ (∃ ty0 : Nat → FieldType, ∀ k, k < r.2.2 → parseFieldDescriptor (r.2.1 k).2.2.1 = some (ty0 k)) ∧ ∀ a, a < r.2.2 → ∀ b, b < r.2.2 → a ≠ b → (r.2.1 a).2.1 ≠ (r.2.1 b).2.1
theorem vl_in {k j o : Nat} (h : am_vl (aR k j o)) (hk : k < 12) : (k, j, o) ∈ am_all := by
  rcases h with h | h
  · exact h
  · exfalso
    revert h
    simp only [am_ro, List.mem_cons, Prod.mk.injEq, List.not_mem_nil, or_false]
    omega
theorem vl_all {q : Nat × Nat × Nat} (h : q ∈ am_all) : am_vl (Sum.inl q) := Or.inl h
theorem al_lt {b : Bool} {k o n : Nat} (h : am_al b k o = some n) : k < 12 := by
  unfold am_al at h
  cases o with
  | zero => cases h
  | succ o =>
    dsimp only at h
    by_cases hk : k < 12
    · exact hk
    · have : am_ar k = [] := by
        unfold am_ar
        split <;> first | rfl | omega
      rw [this] at h
      simp at h
section Snd2
variable {p : Program} {l : Launch} {e : Env} {R : Room} {s : State} {m : MethodId} {args : Array Value} {below : List Frame} {meth : Method} {c : Code} {cells slots : Nat} {Q : State → Prop} {cc : ByteArray} {nL : Nat} {own : String} {D : va_G} {ad : Nat × Nat × Nat → Nat} {fv : Value} {cI cZ : ClassId} {A : Nat → Prop} {d : Nat} {X : Option (Nat × (Nat → Int32))} {ret : Option FieldType} {Rt : Option am_V → am_M → Prop}
theorem snd_get (hcl : am_clok) (C : am_Cx p R s m args c cells slots cc nL own D ad fv cI cZ A d X) {idx pc ci sl : Nat} {lv : am_L} {st : List am_V} {M : am_M} {K : List am_V → Prop} (hpk : am_pk own 0 idx (eF ci sl)) (hdg : decode cc pc = .ok (.getfield idx, 3)) (hk : ∀ r, K r → am_J p l e R s m args below meth c cells slots Q nL D ad fv cI cZ A (pc + 3) lv r M) (h : am_get M st ci sl K) : am_J p l e R s m args below meth c cells slots Q nL D ad fv cI cZ A pc lv st M := by
  obtain ⟨hx, hb, hml, hown, hts, hK, hD, hE, hR, hR2, hX⟩ := C
  obtain ⟨k, j, o, r, rfl, h2⟩ := pR_inv h
  clear h
  obtain ⟨hb2, h⟩ := ck_inv h2
  clear h2
  obtain ⟨rfl, rfl⟩ := ck_bb hb2
  obtain ⟨rc, hrc, hsl, hlink⟩ := hpk
  obtain ⟨hw, -, -⟩ := hcl _ _ hrc
  intro H locs ls hP hS hl hlv hst
  have hk12 : k < 12 := (List.getElem?_eq_some_iff.mp hrc).1
  have hin := vl_in (hst _ List.mem_cons_self) hk12
  obtain ⟨i, hi⟩ := List.getElem?_of_mem hin
  have hat := wl_at (ad := ad) (cI := cI) (cZ := cZ) (M := M) hi
  show W p l e R s m args below meth c H locs cells slots Q (F0 m pc ls (cv ad fv (Sum.inl (k, j, 0)) :: r.map (cv ad fv)))
  rw [cv_ref (am_no15 _ hin)]
  cases ho : (am_ob k)[sl]? with
  | none => rw [ho] at h; exact h.elim
  | some x =>
    rw [ho] at h
    cases x with
    | none =>
      exact va_get hx hb hts hw hown hK hP i hat hrc sl hsl (hts _ hlink) (fun _ q => q) (v := .int (M k j 0 sl)) (by rw [fl_none _ _ _ ho, Nat.zero_add]) hdg (hk _ h H locs ls hP hS hl hlv (fun v hv => by
        rcases List.mem_cons.mp hv with rfl | hv
        · exact trivial
        · exact hst v (List.mem_cons_of_mem _ hv)))
    | some g =>
      have hg : g j ∈ am_all := sh_ref _ hin g (List.mem_of_getElem? ho) rfl
      refine va_get hx hb hts hw hown hK hP i hat hrc sl hsl (hts _ hlink) (fun _ q => q) (v := .ref (ad (g j))) (fl_some _ _ _ ho) hdg ?_
      have := hk _ h H locs ls hP hS hl hlv (fun v hv => by
        rcases List.mem_cons.mp hv with rfl | hv
        · exact vl_all hg
        · exact hst v (List.mem_cons_of_mem _ hv))
      rw [List.map_cons, cv_ref (am_no15 _ hg)] at this
      exact this
theorem snd_put (hcl : am_clok) (C : am_Cx p R s m args c cells slots cc nL own D ad fv cI cZ A d X) {idx pc ci sl : Nat} {lv : am_L} {st : List am_V} {M : am_M} {K : List am_V → am_M → Prop} (hpk : am_pk own 0 idx (eF ci sl)) (hdg : decode cc pc = .ok (.putfield idx, 3)) (hk : ∀ r M2, K r M2 → am_J p l e R s m args below meth c cells slots Q nL D ad fv cI cZ A (pc + 3) lv r M2) (h : am_put M st ci sl K) : am_J p l e R s m args below meth c cells slots Q nL D ad fv cI cZ A pc lv st M := by
  obtain ⟨hx, hb, hml, hown, hts, hK, hD, hE, hR, hR2, hX⟩ := C
  obtain ⟨x, r1, rfl, h1⟩ := pI_inv h
  clear h
  obtain ⟨k, j, o, r, rfl, h2⟩ := pR_inv h1
  clear h1
  obtain ⟨hb2, h⟩ := ck_inv h2
  clear h2
  obtain ⟨rfl, rfl⟩ := ck_bb hb2
  obtain ⟨rc, hrc, hsl, hlink⟩ := hpk
  obtain ⟨hw, ⟨ty0, hty⟩, hnm⟩ := hcl _ _ hrc
  intro H locs ls hP hS hl hlv hst
  have hk12 : k < 12 := (List.getElem?_eq_some_iff.mp hrc).1
  obtain ⟨rc2, hrc2, hlen, h40⟩ := sh_len k hk12
  obtain rfl : rc = rc2 := Option.some.inj (hrc.symm.trans hrc2)
  have hin := vl_in (hst _ (List.mem_cons_of_mem _ List.mem_cons_self)) hk12
  obtain ⟨i, hi⟩ := List.getElem?_of_mem hin
  have hat := wl_at (ad := ad) (cI := cI) (cZ := cZ) (M := M) hi
  show W p l e R s m args below meth c H locs cells slots Q (F0 m pc ls (.int x :: cv ad fv (Sum.inl (k, j, 0)) :: r.map (cv ad fv)))
  rw [cv_ref (am_no15 _ hin)]
  cases ho : (am_ob k)[sl]? with
  | none => rw [ho] at h; exact h.elim
  | some y =>
    rw [ho] at h
    cases y with
    | some g => exact h.elim
    | none =>
      obtain ⟨rc3, hrc3, hfin, hd⟩ := sh_put k hk12 sl (by omega) ho
      obtain rfl : rc = rc3 := Option.some.inj (hrc.symm.trans hrc3)
      have hKv : K r (sA M k j 0 (upd (M k j 0) sl x)) ∧ narrow (if am_fb k sl then .boolean else .int) (.int x) = .int x ∧ fits (if am_fb k sl then .boolean else .int) (.int x) = true := by
        dsimp only at h
        cases hfb : am_fb k sl with
        | false => rw [hfb] at h; exact ⟨h, rfl, rfl⟩
        | true =>
          rw [hfb] at h
          have h1 : vp_nar .boolean x = x := h.1
          have h2 : x &&& 1 = x := h1
          refine ⟨h.2, by show Value.int (x &&& 1) = .int x; rw [h2], ?_⟩
          show (x == 0 || x == 1) = true
          obtain ⟨q, hq, e1⟩ := pk_andE x (m := 1) 1 (by decide)
          rw [h2] at e1
          have : q = 0 ∨ q = 1 := by omega
          rcases this with rfl | rfl <;> (rw [e1]; decide)
      have hset : (am_wl ad cI cZ M).set i (ad (k, j, 0), .inr (k, (am_fl ad M k j 0 (am_ob k)).set sl (.int x))) = am_wl ad cI cZ (sA M k j 0 (upd (M k j 0) sl x)) := by
        rw [← wl_set (M2 := sA M k j 0 (upd (M k j 0) sl x)) hi (cell_ne)]
        congr 2
        show Sum.inr (k, _) = Sum.inr (k, am_fl ad (sA M k j 0 (upd (M k j 0) sl x)) k j 0 (am_ob k))
        rw [fl_set (M2 := sA M k j 0 (upd (M k j 0) sl x)) _ _ _ ho (by rw [sA_same, Nat.zero_add])]
      refine va_put hx hb hts hw ty0 hty hnm hown hK hP (hD M) hS i hat hrc sl hsl (hts _ hlink) (fun _ q => q) hfin hd hKv.2.1 hKv.2.2 (by rw [fl_len]; show sl < (am_ob k).length; omega) hdg (fun H1 locs1 hP1 _ hS1 => ?_)
      have hP2 : va_P D am_cls (am_wl ad cI cZ (sA M k j 0 (upd (M k j 0) sl x))) H1 := by
        rw [← hset]
        exact hP1
      exact hk _ _ hKv.1 H1 locs1 ls hP2 hS1 hl hlv (fun v hv => hst v (List.mem_cons_of_mem _ (List.mem_cons_of_mem _ hv)))
end Snd2
