theorem poc_inv {pool : List (Nat × Nat × am_N)} {el : am_E} {t i : Nat} {en : am_N} (h : am_poc pool el = true) (hk : am_key el.2.1 = some (t, i)) (he : el.2.2.2 = some en) : (t, i, en) ∈ pool := by
  unfold am_poc at h
  rw [hk, he] at h
  obtain ⟨q, hq, h2⟩ := List.any_eq_true.mp h
  simp only [Bool.and_eq_true, beq_iff_eq] at h2
  obtain ⟨⟨rfl, rfl⟩, h3⟩ := h2
  rw [← am_eqN_ok h3]
  exact hq
theorem chk_inv {cc : ByteArray} {pool : List (Nat × Nat × am_N)} {el : am_E} {L : List am_E} (h : am_chk cc pool (el :: L) = true) : ∃ n, decode cc el.1 = .ok (el.2.1, n) ∧ (am_isw el.2.1 = false → n = am_ln el.2.1 ∧ ∀ e2 L2, L = e2 :: L2 → e2.1 = el.1 + n) ∧ am_sc1 el = true ∧ am_poc pool el = true ∧ am_chk cc pool L = true := by
  unfold am_chk at h
  obtain ⟨h123, h4⟩ := (Bool.and_eq_true _ _).mp h
  obtain ⟨h12, h3⟩ := (Bool.and_eq_true _ _).mp h123
  obtain ⟨h1, h2⟩ := (Bool.and_eq_true _ _).mp h12
  cases hd : decode cc el.1 with
  | error x => rw [hd] at h1; cases h1
  | ok q =>
    obtain ⟨i, n⟩ := q
    rw [hd] at h1
    obtain ⟨g1, g2⟩ := (Bool.and_eq_true _ _).mp h1
    obtain rfl := of_decide_eq_true g1
    refine ⟨n, rfl, fun hs => ?_, h2, h3, h4⟩
    rw [hs, Bool.false_or] at g2
    obtain ⟨g3, g4⟩ := (Bool.and_eq_true _ _).mp g2
    refine ⟨by simpa using g3, fun e2 L2 e => ?_⟩
    subst e
    simpa using g4
theorem to_suf {cc : ByteArray} {pool : List (Nat × Nat × am_N)} (pc : Nat) : ∀ code : List am_E, am_chk cc pool code = true → am_chk cc pool (am_to pc code) = true ∧ ∀ el L, am_to pc code = el :: L → el.1 = pc
  | [], h => ⟨h, fun _ _ e => by cases e⟩
  | el :: L, h => by
    unfold am_to
    cases hb : Nat.beq el.1 pc with
    | true =>
      refine ⟨h, fun e2 L2 e => ?_⟩
      cases e
      exact Nat.eq_of_beq_eq_true hb
    | false =>
      obtain ⟨-, -, -, -, -, h2⟩ := chk_inv h
      exact to_suf pc L h2
section Snd5
variable {p : Program} {l : Launch} {e : Env} {R : Room} {s : State} {m : MethodId} {args : Array Value} {below : List Frame} {meth : Method} {c : Code} {cells slots : Nat} {Q : State → Prop} {cc : ByteArray} {nL : Nat} {own : String} {D : va_G} {ad : Nat × Nat × Nat → Nat} {fv : Value} {cI cZ : ClassId} {A : Nat → Prop} {d : Nat} {X : Option (Nat × (Nat → Int32))} {ret : Option FieldType} {Rt : Option am_V → am_M → Prop}
theorem snd_rst (hcl : am_clok) (C : am_Cx p R s m args c cells slots cc nL own D ad fv cI cZ A d X) (hRe : am_Re p l e R s m args below meth c cells slots Q cc D ad cI cZ A ret Rt) {pool : List (Nat × Nat × am_N)} (hpool : ∀ q ∈ pool, am_pk own q.1 q.2.1 q.2.2) (cut : List Nat) : ∀ (S : List am_E), am_chk cc pool S = true → ∀ (lv : am_L) (st : List am_V) (M : am_M), am_rst d X ret (am_J p l e R s m args below meth c cells slots Q nL D ad fv cI cZ A) Rt cut S lv st M → ∀ el L, S = el :: L → am_J p l e R s m args below meth c cells slots Q nL D ad fv cI cZ A el.1 lv st M
  | [], _, _, _, _, _, _, _, hS => by cases hS
  | el :: L, hc, lv, st, M, h, _, _, hS => by
    cases hS
    obtain ⟨n, h1, h2, h3, h4, h5⟩ := chk_inv hc
    unfold am_rst at h
    cases hcut : cut.any (Nat.beq el.1) with
    | true => rw [hcut] at h; exact h
    | false =>
      rw [hcut] at h
      refine snd_step hcl C hRe (n := n) h1 (fun q => (h2 q).1) (fun q lv st M hk => ?_) h3 (fun t i en hk he => hpool _ (poc_inv h4 hk he)) h
      cases L with
      | nil => exact hk.elim
      | cons e2 L2 =>
        have := snd_rst hcl C hRe hpool cut (e2 :: L2) h5 lv st M hk e2 L2 rfl
        rw [(h2 q).2 e2 L2 rfl] at this
        exact this
theorem snd_blk (hcl : am_clok) (C : am_Cx p R s m args c cells slots cc nL own D ad fv cI cZ A d X) (hRe : am_Re p l e R s m args below meth c cells slots Q cc D ad cI cZ A ret Rt) {pool : List (Nat × Nat × am_N)} (hpool : ∀ q ∈ pool, am_pk own q.1 q.2.1 q.2.2) (cut : List Nat) : ∀ (S : List am_E), am_chk cc pool S = true → ∀ (lv : am_L) (st : List am_V) (M : am_M), am_blk d X ret (am_J p l e R s m args below meth c cells slots Q nL D ad fv cI cZ A) Rt cut S lv st M → ∀ el L, S = el :: L → am_J p l e R s m args below meth c cells slots Q nL D ad fv cI cZ A el.1 lv st M
  | [], _, _, _, _, _, _, _, hS => by cases hS
  | el :: L, hc, lv, st, M, h, _, _, hS => by
    cases hS
    obtain ⟨n, h1, h2, h3, h4, h5⟩ := chk_inv hc
    refine snd_step hcl C hRe (n := n) h1 (fun q => (h2 q).1) (fun q lv st M hk => ?_) h3 (fun t i en hk he => hpool _ (poc_inv h4 hk he)) h
    cases L with
    | nil => exact hk.elim
    | cons e2 L2 =>
      have := snd_rst hcl C hRe hpool cut (e2 :: L2) h5 lv st M hk e2 L2 rfl
      rw [(h2 q).2 e2 L2 rfl] at this
      exact this
theorem snd_cl (hcl : am_clok) (C : am_Cx p R s m args c cells slots cc nL own D ad fv cI cZ A d X) (hRe : am_Re p l e R s m args below meth c cells slots Q cc D ad cI cZ A ret Rt) {pool : List (Nat × Nat × am_N)} (hpool : ∀ q ∈ pool, am_pk own q.1 q.2.1 q.2.2) {code : List am_E} (hc : am_chk cc pool code = true) : am_cl d X ret code (am_J p l e R s m args below meth c cells slots Q nL D ad fv cI cZ A) Rt := by
  intro cut pc lv st M h
  obtain ⟨h1, h2⟩ := to_suf pc code hc
  cases hq : am_to pc code with
  | nil => rw [hq] at h; exact h.elim
  | cons el L =>
    rw [hq] at h h1
    have := snd_blk hcl C hRe hpool cut (el :: L) h1 lv st M h el L rfl
    rw [h2 el L hq] at this
    exact this
end Snd5
theorem sl_cons (v : Value) (vs : List Value) : (lg_sl (v :: vs)).length = (if v.category = 2 then 2 else 1) + (lg_sl vs).length := by
  unfold lg_sl
  rw [List.flatMap_cons, List.length_append]
  by_cases h : v.category = 2
  · rw [if_pos h, if_pos h]; rfl
  · rw [if_neg h, if_neg h]; rfl
theorem args_len {ad : Nat × Nat × Nat → Nat} {fv : Value} (hf : fv = .null ∨ ∃ t : Nat, fv = .ref t) : ∀ as : List am_V, (lg_sl (as.map (cv ad fv))).length = (am_args as).length
  | [] => rfl
  | Sum.inl q :: t => by
    have h1 := cv_cat1 (ad := ad) hf (v := Sum.inl q) (fun x h => by cases h)
    rw [List.map_cons, sl_cons, h1, args_len hf t]
    simp [am_args, Nat.add_comm]
  | Sum.inr (Sum.inl x) :: t => by
    rw [List.map_cons, sl_cons, args_len hf t]
    simp [am_args, cv, Value.category, Nat.add_comm]
  | Sum.inr (Sum.inr x) :: t => by
    rw [List.map_cons, sl_cons, args_len hf t]
    simp [am_args, cv, Value.category]
    omega
theorem nth_rep : ∀ (n i : Nat), am_nth (List.replicate n none) i = none
  | 0, i => by simp [am_nth]
  | n + 1, 0 => by simp [List.replicate_succ, am_nth]
  | n + 1, i + 1 => by
    rw [List.replicate_succ]
    exact nth_rep n i
theorem args_nth {ad : Nat × Nat × Nat → Nat} {fv : Value} (hf : fv = .null ∨ ∃ t : Nat, fv = .ref t) (n : Nat) : ∀ (as : List am_V) (b i : Nat) (v : am_V), am_nth (am_args as ++ List.replicate n none) i = some v → (b + i, cv ad fv v) ∈ lv_args b (as.map (cv ad fv)) ∧ v ∈ as
  | [], b, i, v, h => by
    have h1 : am_nth (List.replicate n none) i = some v := h
    rw [nth_rep] at h1
    cases h1
  | Sum.inl q :: t, b, 0, v, h => by
    cases h
    simp [lv_args]
  | Sum.inl q :: t, b, i + 1, v, h => by
    have h1 := cv_cat1 (ad := ad) hf (v := Sum.inl q) (fun x h => by cases h)
    obtain ⟨h2, h3⟩ := args_nth hf n t (b + 1) i v h
    refine ⟨?_, List.mem_cons_of_mem _ h3⟩
    have hne : ¬ (cv ad fv (Sum.inl q)).category = 2 := by omega
    simp only [List.map_cons, lv_args, if_neg hne]
    refine List.mem_cons_of_mem _ ?_
    have e0 : b + (i + 1) = b + 1 + i := by omega
    rw [e0]
    exact h2
  | Sum.inr (Sum.inl x) :: t, b, 0, v, h => by
    cases h
    simp [lv_args]
  | Sum.inr (Sum.inl x) :: t, b, i + 1, v, h => by
    obtain ⟨h2, h3⟩ := args_nth hf n t (b + 1) i v h
    refine ⟨?_, List.mem_cons_of_mem _ h3⟩
    have hne : ¬ (cv ad fv (Sum.inr (Sum.inl x))).category = 2 := by simp [cv, Value.category]
    simp only [List.map_cons, lv_args, if_neg hne]
    refine List.mem_cons_of_mem _ ?_
    have e0 : b + (i + 1) = b + 1 + i := by omega
    rw [e0]
    exact h2
  | Sum.inr (Sum.inr x) :: t, b, 0, v, h => by
    cases h
    simp [lv_args]
  | Sum.inr (Sum.inr x) :: t, b, 1, v, h => by cases h
  | Sum.inr (Sum.inr x) :: t, b, i + 2, v, h => by
    obtain ⟨h2, h3⟩ := args_nth hf n t (b + 2) i v h
    refine ⟨?_, List.mem_cons_of_mem _ h3⟩
    have hne : (cv ad fv (Sum.inr (Sum.inr x))).category = 2 := by simp [cv, Value.category]
    simp only [List.map_cons, lv_args, if_pos hne]
    refine List.mem_cons_of_mem _ ?_
    have e0 : b + (i + 2) = b + 2 + i := by omega
    rw [e0]
    exact h2
def am_mok (n : Nat) (code : List am_E) : Prop := plainFor (mt n).1 = true ∧ ∃ pool, am_chk (mt n).2.1 pool code = true ∧ ∀ q ∈ pool, am_pk (mt n).1.cls q.1 q.2.1 q.2.2
theorem con_of0 (hcl : am_clok) {d n : Nat} {as : List am_V} {M : am_M} {Po : Option am_V → am_M → Prop} {code : List am_E} (hok : am_mok n code) (lv0 : am_L) (h0 : am_lv0 (mt n).2.2.1 as = lv0) (hlen : (am_args as).length ≤ (mt n).2.2.1) {ret : Option FieldType} (hret : (mt n).2.2.2 = ret) (h : am_Sem d ret code lv0 M Po) : ConP d n as M Po := by
  subst hret
  subst h0
  intro l D ad fv cI cZ hval
  obtain ⟨hpl, pool, hchk, hpool⟩ := hok
  refine va_MetF (cc := (mt n).2.1) (maxL := (mt n).2.2.1) (ret := (mt n).2.2.2) hpl rfl ?_
  intro p e s m args below meth c s₁ B hml hpre
  obtain ⟨rfl, hP, hD, hK, hE⟩ := hpre
  have hf := hE.2.2.2.2.1
  have hts0 : ∀ w ∈ am_ws (mt n), w.before ((as.map (cv ad fv)).toArray) s = true := atoms_spec (ws := am_ws (mt n)) B.pre
  have hts : ∀ w ∈ gtb, w.before ((as.map (cv ad fv)).toArray) s = true := fun w hw => hts0 w (List.mem_cons_of_mem _ hw)
  have hown : s.vm.findClass (mt n).1.cls = some m.cls := findClass_of_methodNamed B.named
  have hDall : ∀ M, va_D (am_Af ad) (am_wl ad cI cZ M) := by
    intro M9
    refine ⟨fun i j x y hi hj hxy => ?_, fun k q hq => ?_⟩
    · simp only [am_wl, List.getElem?_map] at hi hj
      cases h1 : am_all[i]? with
      | none => rw [h1] at hi; cases hi
      | some q1 =>
        cases h2 : am_all[j]? with
        | none => rw [h2] at hj; cases hj
        | some q2 =>
          rw [h1] at hi
          rw [h2] at hj
          cases hi
          cases hj
          exact hD.1 i j _ _ (wl_at h1) (wl_at h2) hxy
    · simp only [am_wl, List.getElem?_map] at hq
      cases h1 : am_all[k]? with
      | none => rw [h1] at hq; cases hq
      | some q1 =>
        rw [h1] at hq
        cases hq
        exact ⟨q1, List.mem_of_getElem? h1, rfl⟩
  have C : am_Cx p (am_rm d) s m ((as.map (cv ad fv)).toArray) c 0 0 (mt n).2.1 (mt n).2.2.1 (mt n).1.cls D ad fv cI cZ (am_Af ad) d none := ⟨B.exec, B.bytes, hml, hown, hts, hK, hDall, hE, ⟨Nat.le_refl _, Nat.le_refl _⟩, ⟨Nat.le_refl _, Nat.le_refl _⟩, trivial⟩
  have hRe : am_Re p l e (am_rm d) s m ((as.map (cv ad fv)).toArray) below meth c 0 0 (MQ below (am_Q D ad fv cI cZ Po) ((as.map (cv ad fv)).toArray) s 0 0 (am_Af ad)) (mt n).2.1 D ad cI cZ (am_Af ad) (mt n).2.2.2 Po := by
    refine ⟨fun x M9 H locs ls pc hq hP9 hS9 hdg => ?_, fun x M9 H locs ls pc hq hP9 hS9 hdg => ?_, fun M9 H locs ls pc hq hP9 hS9 hdg => ?_⟩
    · have key : ∃ ty, (mt n).2.2.2 = some ty ∧ narrow ty (.int x) = .int x ∧ Po (some (aI x)) M9 := by
        cases hr : (mt n).2.2.2 with
        | none => rw [hr] at hq; exact hq.elim
        | some ty =>
          rw [hr] at hq
          refine ⟨ty, rfl, ?_⟩
          cases ty <;> first | exact ⟨rfl, hq⟩ | exact ⟨congrArg Value.int hq.1, hq.2⟩ | exact ⟨rfl, hq.2⟩
      obtain ⟨ty, h1, h2, hpo9⟩ := key
      exact W.zret B.exec B.bytes (B.returns.trans h1) h2 (fun t ht _ => ⟨_, M9, hpo9, rfl, by rw [ht]; exact hP9, hS9.F ht⟩) hS9.2.2 hdg B.notSynchronized
    · have key : (mt n).2.2.2 = some .long ∧ Po (some (aL x)) M9 := by
        unfold am_retL at hq
        split at hq
        · rename_i he
          exact ⟨he, hq⟩
        · exact hq.elim
      obtain ⟨h1, hpo9⟩ := key
      exact W.lret B.exec B.bytes (B.returns.trans h1) (fun t ht _ => ⟨_, M9, hpo9, rfl, by rw [ht]; exact hP9, hS9.F ht⟩) hS9.2.2 hdg B.notSynchronized
    · have key : (mt n).2.2.2 = none ∧ Po none M9 := by
        unfold am_retV at hq
        split at hq
        · rename_i he
          exact ⟨he, hq⟩
        · exact hq.elim
      obtain ⟨h1, hpo9⟩ := key
      exact W.vret B.exec B.bytes (B.returns.trans h1) (fun t ht _ => ⟨_, M9, hpo9, rfl, by rw [ht]; exact hP9, hS9.F ht⟩) hS9.2.2 hdg B.notSynchronized
  have hJ := h _ (snd_cl hcl C hRe hpool hchk)
  have hl := lv_entry (as.map (cv ad fv)) (n := (mt n).2.2.1) (by rw [args_len hf]; exact hlen)
  rw [lg_entry_eq]
  refine hJ s.heap [] _ hP va_S.rf ⟨hl.1, ?_, hl.2.1, fun i v hv => ?_⟩ (fun i v hv => ?_) (fun v hv => by cases hv)
  · simp only [am_lv0, List.length_append, List.length_replicate]
    omega
  · have h9 := (args_nth (ad := ad) hf _ as 0 i v hv).1
    rw [Nat.zero_add] at h9
    exact hl.2.2 _ h9
  · exact hval v (args_nth (ad := ad) hf _ as 0 i v hv).2
theorem con_of1 (hcl : am_clok) {d n : Nat} {as : List am_V} {M : am_M} {Po : Option am_V → am_M → Prop} {code : List am_E} (hok : am_mok n code) (lv0 : am_L) (ret : Option FieldType) (h : am_Sem d ret code lv0 M Po) (h0 : am_lv0 (mt n).2.2.1 as = lv0 := by rfl) (hlen : (am_args as).length ≤ (mt n).2.2.1 := by exact Nat.le_of_ble_eq_true rfl) (hret : (mt n).2.2.2 = ret := by rfl) : ConP d n as M Po := con_of0 hcl hok lv0 h0 hlen hret h
