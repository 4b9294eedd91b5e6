/-! inversions of the machine's words -/
theorem pI_inv {st : List am_V} {f : Int32 → List am_V → Prop} (h : am_pI st f) : ∃ x r, st = aI x :: r ∧ f x r := by
  unfold am_pI at h
  split at h
  · exact ⟨_, _, rfl, h⟩
  · exact h.elim
theorem pL_inv {st : List am_V} {f : Int64 → List am_V → Prop} (h : am_pL st f) : ∃ x r, st = aL x :: r ∧ f x r := by
  unfold am_pL at h
  split at h
  · exact ⟨_, _, rfl, h⟩
  · exact h.elim
theorem pR_inv {st : List am_V} {f : Nat → Nat → Nat → List am_V → Prop} (h : am_pR st f) : ∃ k j o r, st = aR k j o :: r ∧ f k j o r := by
  unfold am_pR at h
  split at h
  · exact ⟨_, _, _, _, rfl, h⟩
  · exact h.elim
theorem pA_inv {st : List am_V} {f : am_V → List am_V → Prop} (h : am_pA st f) : ∃ v r, st = v :: r ∧ (∀ x, v ≠ aL x) ∧ f v r := by
  unfold am_pA at h
  split at h
  · exact ⟨_, _, rfl, (fun x q => by cases q), h⟩
  · exact ⟨_, _, rfl, (fun x q => by cases q), h⟩
  · exact h.elim
theorem n1_inv {ns : List Nat} {f : Nat → Prop} (h : am_n1 ns f) : ∃ i l, ns = i :: l ∧ f i := by
  unfold am_n1 at h
  split at h
  · exact ⟨_, _, rfl, h⟩
  · exact h.elim
theorem eI_inv {en : Option am_N} {f : Int32 → Prop} (h : am_eI en f) : ∃ x, en = some (eI x) ∧ f x := by
  unfold am_eI at h
  split at h
  · exact ⟨_, rfl, h⟩
  · exact h.elim
theorem ck_inv {b : Bool} {P : Prop} (h : am_ck b P) : b = true ∧ P := by
  unfold am_ck at h
  split at h
  · exact ⟨rfl, h⟩
  · exact h.elim
/-! the world -/
theorem am_nodup : am_all.Nodup := by decide +kernel
theorem am_no15 : ∀ q ∈ am_all, ¬ q.1 = 15 := by decide +kernel
theorem am_ro15 : ∀ q ∈ am_ro, q.1 = 15 ∨ ¬ q.1 = 15 := by decide +kernel
section Wl
variable {ad : Nat × Nat × Nat → Nat} {fv : Value} {cI cZ : ClassId}
theorem cv_ref {q : Nat × Nat × Nat} (h : ¬ q.1 = 15) : cv ad fv (Sum.inl q) = .ref (ad q) := by simp [cv, h]
theorem wl_at {M : am_M} {p : Nat} {q : Nat × Nat × Nat} (h : am_all[p]? = some q) : (am_wl ad cI cZ M)[p]? = some (ad q, am_cell ad cI cZ M q) := by simp [am_wl, h]
theorem wl_set {M M2 : am_M} {p : Nat} {q : Nat × Nat × Nat} (h : am_all[p]? = some q) (hM : ∀ q2, q2 ≠ q → am_cell ad cI cZ M2 q2 = am_cell ad cI cZ M q2) : (am_wl ad cI cZ M).set p (ad q, am_cell ad cI cZ M2 q) = am_wl ad cI cZ M2 := by
  apply List.ext_getElem?
  intro i
  by_cases hi : i = p
  · subst hi
    have hl := (List.getElem?_eq_some_iff.mp (wl_at (ad := ad) (cI := cI) (cZ := cZ) (M := M) h)).1
    rw [List.getElem?_set_self hl, wl_at h]
  · rw [List.getElem?_set_ne (Ne.symm hi)]
    simp only [am_wl, List.getElem?_map]
    cases hq : am_all[i]? with
    | none => rfl
    | some q2 =>
      have hne : q2 ≠ q := by
        intro e
        subst e
        exact hi ((List.getElem?_inj (List.getElem?_eq_some_iff.mp hq).1 am_nodup).mp (hq.trans h.symm))
      simp [hM q2 hne]
theorem fl_congr {M M2 : am_M} {k j : Nat} (h : M2 k j 0 = M k j 0) : ∀ (L : List (Option (Nat → Nat × Nat × Nat))) (i : Nat), am_fl ad M2 k j i L = am_fl ad M k j i L
  | [], _ => rfl
  | none :: t, i => by
    show Value.int (M2 k j 0 i) :: am_fl ad M2 k j (i + 1) t = Value.int (M k j 0 i) :: am_fl ad M k j (i + 1) t
    rw [h, fl_congr h t (i + 1)]
  | some g :: t, i => by
    show Value.ref (ad (g j)) :: am_fl ad M2 k j (i + 1) t = Value.ref (ad (g j)) :: am_fl ad M k j (i + 1) t
    rw [fl_congr h t (i + 1)]
theorem fl_none {M : am_M} {k j : Nat} : ∀ (L : List (Option (Nat → Nat × Nat × Nat))) (i s : Nat), L[s]? = some none → (am_fl ad M k j i L)[s]? = some (.int (M k j 0 (i + s)))
  | [], _, _, h => by simp at h
  | none :: t, i, 0, _ => rfl
  | some g :: t, i, 0, h => by simp at h
  | none :: t, i, s + 1, h => by
    show (Value.int (M k j 0 i) :: am_fl ad M k j (i + 1) t)[s + 1]? = _
    rw [List.getElem?_cons_succ, fl_none t (i + 1) s (by simpa using h), Nat.add_right_comm, Nat.add_assoc]
  | some g :: t, i, s + 1, h => by
    show (Value.ref (ad (g j)) :: am_fl ad M k j (i + 1) t)[s + 1]? = _
    rw [List.getElem?_cons_succ, fl_none t (i + 1) s (by simpa using h), Nat.add_right_comm, Nat.add_assoc]
theorem fl_some {M : am_M} {k j : Nat} {g : Nat → Nat × Nat × Nat} : ∀ (L : List (Option (Nat → Nat × Nat × Nat))) (i s : Nat), L[s]? = some (some g) → (am_fl ad M k j i L)[s]? = some (.ref (ad (g j)))
  | [], _, _, h => by simp at h
  | none :: t, i, 0, h => by simp at h
  | some g2 :: t, i, 0, h => by
    simp at h
    subst h
    rfl
  | none :: t, i, s + 1, h => by
    show (Value.int (M k j 0 i) :: am_fl ad M k j (i + 1) t)[s + 1]? = _
    rw [List.getElem?_cons_succ, fl_some t (i + 1) s (by simpa using h)]
  | some g2 :: t, i, s + 1, h => by
    show (Value.ref (ad (g2 j)) :: am_fl ad M k j (i + 1) t)[s + 1]? = _
    rw [List.getElem?_cons_succ, fl_some t (i + 1) s (by simpa using h)]
theorem fl_len {M : am_M} {k j : Nat} : ∀ (L : List (Option (Nat → Nat × Nat × Nat))) (i : Nat), (am_fl ad M k j i L).length = L.length
  | [], _ => rfl
  | none :: t, i => by
    show (am_fl ad M k j (i + 1) t).length + 1 = _
    rw [fl_len t (i + 1)]; rfl
  | some g :: t, i => by
    show (am_fl ad M k j (i + 1) t).length + 1 = _
    rw [fl_len t (i + 1)]; rfl
theorem fl_set {M M2 : am_M} {k j : Nat} {x : Int32} : ∀ (L : List (Option (Nat → Nat × Nat × Nat))) (i s : Nat), L[s]? = some none → M2 k j 0 = upd (M k j 0) (i + s) x → (am_fl ad M k j i L).set s (.int x) = am_fl ad M2 k j i L
  | [], _, _, h, _ => by simp at h
  | none :: t, i, 0, _, hM => by
    have h1 : am_fl ad M2 k j (i + 1) t = am_fl ad M k j (i + 1) t := by
      have key : ∀ (t : List (Option (Nat → Nat × Nat × Nat))) (n : Nat), i < n → am_fl ad M2 k j n t = am_fl ad M k j n t := by
        intro t
        induction t with
        | nil => intro n _; rfl
        | cons a t ih =>
          intro n hn
          cases a with
          | none =>
            show Value.int (M2 k j 0 n) :: am_fl ad M2 k j (n + 1) t = Value.int (M k j 0 n) :: am_fl ad M k j (n + 1) t
            rw [ih (n + 1) (by omega), hM]
            have : ¬ n = i + 0 := by omega
            simp only [upd, if_neg this]
          | some g =>
            show Value.ref (ad (g j)) :: am_fl ad M2 k j (n + 1) t = Value.ref (ad (g j)) :: am_fl ad M k j (n + 1) t
            rw [ih (n + 1) (by omega)]
      exact key t (i + 1) (by omega)
    show Value.int x :: am_fl ad M k j (i + 1) t = Value.int (M2 k j 0 i) :: am_fl ad M2 k j (i + 1) t
    rw [h1, hM]
    simp [upd]
  | some g :: t, i, 0, h, _ => by simp at h
  | none :: t, i, s + 1, h, hM => by
    show Value.int (M k j 0 i) :: (am_fl ad M k j (i + 1) t).set s (.int x) = Value.int (M2 k j 0 i) :: am_fl ad M2 k j (i + 1) t
    rw [fl_set (M2 := M2) t (i + 1) s (by simpa using h) (by rw [hM]; congr 1; omega), hM]
    have : ¬ i = i + (s + 1) := by omega
    simp only [upd, if_neg this]
  | some g :: t, i, s + 1, h, hM => by
    show Value.ref (ad (g j)) :: (am_fl ad M k j (i + 1) t).set s (.int x) = Value.ref (ad (g j)) :: am_fl ad M2 k j (i + 1) t
    rw [fl_set (M2 := M2) t (i + 1) s (by simpa using h) (by rw [hM]; congr 1; omega)]
theorem sA_same {M : am_M} {k j o : Nat} {f : Nat → Int32} : sA M k j o f k j o = f := by simp [sA]
theorem sA_ne {M : am_M} {k j o : Nat} {f : Nat → Int32} {a b c : Nat} (h : ¬ (a, b, c) = (k, j, o)) : sA M k j o f a b c = M a b c := by
  have h2 : ¬ (a = k ∧ b = j ∧ c = o) := fun q => h (by rw [q.1, q.2.1, q.2.2])
  simp only [sA, if_neg h2]
theorem cell_ne {M : am_M} {k j o : Nat} {f : Nat → Int32} : ∀ q2 : Nat × Nat × Nat, q2 ≠ (k, j, o) → am_cell ad cI cZ (sA M k j o f) q2 = am_cell ad cI cZ M q2 := by
  rintro ⟨a, b, c⟩ hne
  unfold am_cell
  cases c with
  | zero =>
    show Sum.inr (a, am_fl ad (sA M k j o f) a b 0 (am_ob a)) = Sum.inr (a, am_fl ad M a b 0 (am_ob a))
    rw [fl_congr (sA_ne hne)]
  | succ c =>
    show (match (am_ar a)[c]? with
      | some bn => Sum.inl (if bn.1 = true then cZ else cI, bn.2, Sum.inl (sA M k j o f a b (c + 1)))
      | none => Sum.inl (cI, 0, Sum.inl (fun _ => 0))) = (match (am_ar a)[c]? with
      | some bn => Sum.inl (if bn.1 = true then cZ else cI, bn.2, Sum.inl (M a b (c + 1)))
      | none => Sum.inl (cI, 0, Sum.inl (fun _ => 0)))
    rw [sA_ne hne]
/-- an array's cell, by its sort -/
theorem cell_arr {M : am_M} {b : Bool} {k j o n : Nat} (h : am_al b k o = some n) : am_cell ad cI cZ M (k, j, o) = .inl (if b then cZ else cI, n, .inl (M k j o)) := by
  unfold am_al at h
  cases o with
  | zero => cases h
  | succ o =>
    dsimp only at h
    show (match (am_ar k)[o]? with
      | some bn => Sum.inl (if bn.1 = true then cZ else cI, bn.2, Sum.inl (M k j (o + 1)))
      | none => Sum.inl (cI, 0, Sum.inl (fun _ => 0))) = _
    cases hq : (am_ar k)[o]? with
    | none => rw [hq] at h; cases h
    | some q =>
      rw [hq] at h
      obtain ⟨q1, q2⟩ := q
      cases q1 <;> cases b <;> first | (cases h; rfl) | cases h
end Wl
/-! locals -/
def am_H (ad : Nat × Nat × Nat → Nat) (fv : Value) (ls : Array Slot) (nL : Nat) (lv : am_L) : Prop := ls.size = nL ∧ lv.length = nL ∧ lv_wf ls ∧ ∀ (i : Nat) (v : am_V), am_nth lv i = some v → ls[i]? = some (.val (cv ad fv v))
def am_as (ad : Nat × Nat × Nat → Nat) (fv : Value) (lv : am_L) : List (Nat × Value) := (List.range lv.length).filterMap (fun i => (am_nth lv i).map (fun v => (i, cv ad fv v)))
theorem nth_lt : ∀ {lv : am_L} {i : Nat} {v : am_V}, am_nth lv i = some v → i < lv.length
  | [], i, v, h => by simp [am_nth] at h
  | x :: t, 0, v, h => by simp
  | x :: t, i + 1, v, h => by
    have := nth_lt (lv := t) (i := i) h
    simp; omega
theorem as_mem {ad : Nat × Nat × Nat → Nat} {fv : Value} {lv : am_L} {i : Nat} {v : am_V} (h : am_nth lv i = some v) : (i, cv ad fv v) ∈ am_as ad fv lv := List.mem_filterMap.mpr ⟨i, List.mem_range.mpr (nth_lt h), by rw [h]; rfl⟩
theorem as_has {ad : Nat × Nat × Nat → Nat} {fv : Value} {ls : Array Slot} {nL : Nat} {lv : am_L} (h : am_H ad fv ls nL lv) : lv_has ls nL (am_as ad fv lv) := by
  refine ⟨h.1, h.2.2.1, fun q hq => ?_⟩
  obtain ⟨i, -, hi⟩ := List.mem_filterMap.mp hq
  cases hv : am_nth lv i with
  | none => rw [hv] at hi; cases hi
  | some v =>
    rw [hv] at hi
    cases hi
    exact h.2.2.2 i v hv
theorem set_nth : ∀ {lv : am_L} {i j : Nat} {v w : am_V}, am_nth (am_set lv i v) j = some w → (j = i ∧ w = v) ∨ (j ≠ i ∧ am_nth lv j = some w)
  | [], i, j, v, w, h => by simp [am_set, am_nth] at h
  | x :: t, 0, 0, v, w, h => by
    left
    simp [am_set, am_nth] at h
    exact ⟨rfl, h.symm⟩
  | x :: t, 0, j + 1, v, w, h => Or.inr ⟨by omega, h⟩
  | x :: t, i + 1, 0, v, w, h => Or.inr ⟨by omega, h⟩
  | x :: t, i + 1, j + 1, v, w, h => by
    rcases set_nth (lv := t) (i := i) (j := j) h with ⟨a, b⟩ | ⟨a, b⟩
    · exact Or.inl ⟨by omega, b⟩
    · exact Or.inr ⟨by omega, b⟩
theorem none_nth : ∀ {lv : am_L} {i j : Nat} {w : am_V}, am_nth (am_none lv i) j = some w → j ≠ i ∧ am_nth lv j = some w
  | [], i, j, w, h => by simp [am_none, am_nth] at h
  | x :: t, 0, 0, w, h => by simp [am_none, am_nth] at h
  | x :: t, 0, j + 1, w, h => ⟨by omega, h⟩
  | x :: t, i + 1, 0, w, h => ⟨by omega, h⟩
  | x :: t, i + 1, j + 1, w, h => by
    obtain ⟨a, b⟩ := none_nth (lv := t) (i := i) (j := j) h
    exact ⟨by omega, b⟩
theorem set_len : ∀ (lv : am_L) (i : Nat) (v : am_V), (am_set lv i v).length = lv.length
  | [], _, _ => rfl
  | _ :: _, 0, _ => rfl
  | x :: t, i + 1, v => by simp [am_set, set_len t i v]
theorem none_len : ∀ (lv : am_L) (i : Nat), (am_none lv i).length = lv.length
  | [], _ => rfl
  | _ :: _, 0 => rfl
  | x :: t, i + 1 => by simp [am_none, none_len t i]
theorem ok1_lt : ∀ {lv : am_L} {i : Nat}, am_ok1 lv i = true → i < lv.length
  | [], i, h => by simp [am_ok1] at h
  | x :: t, 0, h => by simp
  | x :: t, 1, h => by
    simp only [am_ok1, Bool.and_eq_true] at h
    have := ok1_lt (lv := t) (i := 0) h.2
    simp; omega
  | x :: t, i + 2, h => by
    have := ok1_lt (lv := t) (i := i + 1) h
    simp; omega
theorem ok1_prev : ∀ {lv : am_L} {i : Nat} {v : am_V}, am_ok1 lv (i + 1) = true → am_nth lv i = some v → ∀ x, v ≠ aL x
  | [], i, v, h, _ => by simp [am_ok1] at h
  | x :: t, 0, v, h, hv => by
    simp only [am_ok1, Bool.and_eq_true] at h
    intro y hy
    subst hy
    have hx : x = some (aL y) := hv
    subst hx
    simp [am_isL] at h
  | x :: t, i + 1, v, h, hv => ok1_prev (lv := t) (i := i) h hv
theorem cv_cat1 {ad : Nat × Nat × Nat → Nat} {fv : Value} (hf : fv = .null ∨ ∃ t : Nat, fv = .ref t) {v : am_V} (h : ∀ x, v ≠ aL x) : (cv ad fv v).category = 1 := by
  rcases v with q | x | x
  · by_cases hq : q.1 = 15
    · rcases hf with rfl | ⟨t, rfl⟩ <;> simp [cv, hq, Value.category]
    · simp [cv, hq, Value.category]
  · rfl
  · exact absurd rfl (h x)
theorem H_set1 {ad : Nat × Nat × Nat → Nat} {fv : Value} (hf : fv = .null ∨ ∃ t : Nat, fv = .ref t) {ls ls2 : Array Slot} {nL i : Nat} {lv : am_L} {v : am_V} (h : am_H ad fv ls nL lv) (ho : am_ok1 lv i = true) (h2 : lv_has ls2 nL ((i, cv ad fv v) :: (am_as ad fv lv).filter (fun q => !(q.1 == i) && !(q.1 + 1 == i && q.2.category == 2)))) : am_H ad fv ls2 nL (am_set lv i v) := by
  refine ⟨h2.1, (set_len lv i v).trans h.2.1, h2.2.1, fun j w hw => ?_⟩
  rcases set_nth hw with ⟨rfl, rfl⟩ | ⟨hne, hw3⟩
  · exact h2.2.2 _ List.mem_cons_self
  · refine h2.2.2 (j, cv ad fv w) (List.mem_cons_of_mem _ (List.mem_filter.mpr ⟨as_mem hw3, ?_⟩))
    by_cases hj : j + 1 = i
    · subst hj
      have := cv_cat1 (ad := ad) hf (ok1_prev ho hw3)
      simp [this]
    · simp [hne, hj]
theorem H_set2 {ad : Nat × Nat × Nat → Nat} {fv : Value} (hf : fv = .null ∨ ∃ t : Nat, fv = .ref t) {ls ls2 : Array Slot} {nL i : Nat} {lv : am_L} {v : am_V} (h : am_H ad fv ls nL lv) (ho : am_ok1 lv i = true) (h2 : lv_has ls2 nL ((i, cv ad fv v) :: (am_as ad fv lv).filter (fun q => !(q.1 == i) && (!(q.1 == i + 1) && !(q.1 + 1 == i && q.2.category == 2))))) : am_H ad fv ls2 nL (am_none (am_set lv i v) (i + 1)) := by
  refine ⟨h2.1, (none_len _ _).trans ((set_len lv i v).trans h.2.1), h2.2.1, fun j w hw => ?_⟩
  obtain ⟨hn1, hw⟩ := none_nth hw
  rcases set_nth hw with ⟨rfl, rfl⟩ | ⟨hne, hw3⟩
  · exact h2.2.2 _ List.mem_cons_self
  · refine h2.2.2 (j, cv ad fv w) (List.mem_cons_of_mem _ (List.mem_filter.mpr ⟨as_mem hw3, ?_⟩))
    by_cases hj : j + 1 = i
    · subst hj
      have := cv_cat1 (ad := ad) hf (ok1_prev ho hw3)
      simp [this, hn1]
    · simp [hne, hj, hn1]
def am_lvl (lv : am_L) : Prop := ∀ (i : Nat) (v : am_V), am_nth lv i = some v → am_vl v
theorem lvl_set {lv : am_L} {i : Nat} {v : am_V} (h : am_lvl lv) (hv : am_vl v) : am_lvl (am_set lv i v) := by
  intro j w hw
  rcases set_nth hw with ⟨-, rfl⟩ | ⟨-, hw⟩
  · exact hv
  · exact h j w hw
theorem lvl_none {lv : am_L} {i : Nat} (h : am_lvl lv) : am_lvl (am_none lv i) := fun j w hw => h j w (none_nth hw).2
/-! a switch -/
theorem ofNat_toInt {c : Nat} (h : c < 1000) : (Int32.ofNat c).toInt = (c : Int) := nI_toInt (n := c) (by omega)
theorem sw_in {pc : Nat} {x : Int32} {K : Nat → Prop} {df : Nat} : ∀ (os : List Int) (l : List Nat) (lo : Int) (i : Nat) (off : Int), am_swc pc lo os l = true → os[i]? = some off → x.toInt = lo + i → am_sw x K df l → ∃ t : Nat, (pc : Int) + off = (t : Int) ∧ K t
  | [], l, lo, i, off, _, h, _, _ => by simp at h
  | o :: os, [], lo, i, off, h, _, _, _ => by simp [am_swc] at h
  | o :: os, [t], lo, i, off, h, _, _, _ => by simp [am_swc] at h
  | o :: os, t :: c :: l, lo, 0, off, h, ho, hx, hs => by
    simp only [am_swc, Bool.and_eq_true, decide_eq_true_eq] at h
    simp at ho
    subst ho
    refine ⟨t, h.1.1.1, hs.1 (Int32.toInt_inj.mp ?_)⟩
    rw [ofNat_toInt h.1.2, h.1.1.2, hx]
    simp
  | o :: os, t :: c :: l, lo, i + 1, off, h, ho, hx, hs => by
    simp only [am_swc, Bool.and_eq_true, decide_eq_true_eq] at h
    have hne : ¬ x = Int32.ofNat c := by
      intro e
      rw [e, ofNat_toInt h.1.2, h.1.1.2] at hx
      omega
    exact sw_in os l (lo + 1) i off h.2 (by simpa using ho) (by rw [hx]; omega) (hs.2 hne)
theorem sw_out {pc : Nat} {x : Int32} {K : Nat → Prop} {df : Nat} : ∀ (os : List Int) (l : List Nat) (lo : Int), am_swc pc lo os l = true → (x.toInt < lo ∨ lo + os.length ≤ x.toInt) → am_sw x K df l → K df
  | [], [], lo, _, _, hs => hs
  | [], t :: l, lo, h, _, _ => by simp [am_swc] at h
  | o :: os, [], lo, h, _, _ => by simp [am_swc] at h
  | o :: os, [t], lo, h, _, _ => by simp [am_swc] at h
  | o :: os, t :: c :: l, lo, h, hx, hs => by
    simp only [am_swc, Bool.and_eq_true, decide_eq_true_eq] at h
    have hne : ¬ x = Int32.ofNat c := by
      intro e
      rw [e, ofNat_toInt h.1.2, h.1.1.2] at hx
      simp at hx
      omega
    exact sw_out os l (lo + 1) h.2 (by simp at hx; omega) (hs.2 hne)
