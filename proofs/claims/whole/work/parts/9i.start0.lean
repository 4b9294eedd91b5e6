def ln0 : Nat → Int32 := (upd (upd (upd (upd (upd (upd (upd (upd (fun _ => 0) (0 : Int32).toNatClampNeg (-1)) (1 : Int32).toNatClampNeg (-1)) (2 : Int32).toNatClampNeg (-1)) (3 : Int32).toNatClampNeg (-1)) (4 : Int32).toNatClampNeg (-1)) (5 : Int32).toNatClampNeg (-1)) (6 : Int32).toNatClampNeg (-1)) (7 : Int32).toNatClampNeg (-1))
def M0 : am_M := sA (fun _ _ _ _ => 0) 11 0 1 ln0
theorem M0_l : M0 11 0 1 = ln0 := by
  unfold M0 sA
  simp
theorem M0_h : M0 11 0 4 = fun _ => 0 := by
  unfold M0 sA
  simp
theorem z_nW : nW (fun _ => 0) = 0 := by decide +kernel
theorem z_nP : nP (fun _ => 0) = 0 := by decide +kernel
theorem z_nT : nT (fun _ => 0) = 0 := by decide +kernel
theorem z_nS : nS (fun _ => 0) = 0 := by decide +kernel
theorem z_seen (p : Nat) : Seen (fun _ => 0) p = false := by
  unfold Seen
  rw [z_nS]
  rfl
theorem z_on (w p : Nat) : On (fun _ => 0) w p = false := by
  unfold On
  rw [z_nS]
  rfl
theorem z_ah (p q : Nat) : Ah (fun _ => 0) p q = false := by
  unfold Ah
  rw [z_nS]
  rfl
theorem z_wsh {R : Nat → Nat → Bool} (h : ∀ p q, R p q = false) : ∀ n p q, wsh R n p q = false
  | 0, p, q => h p q
  | n + 1, p, q => by
    show (wsh R n p q || (wsh R n p n && wsh R n n q)) = false
    rw [z_wsh h n p q, z_wsh h n p n]
    rfl
theorem z_su (p q : Nat) : Su (fun _ => 0) p q = false := z_wsh z_ah 10 p q
theorem z_bs {f : Nat → Bool} (h : ∀ p, f p = false) : (0 : Int32) = bs f := by
  have e : f = fun _ => false := funext h
  rw [e]
  decide +kernel
theorem z_HV : HV (fun _ => 0) := by
  refine ⟨⟨by decide +kernel, by decide +kernel⟩, ⟨by decide +kernel, by decide +kernel⟩, ⟨by decide +kernel, by decide +kernel⟩, ⟨by decide +kernel, by decide +kernel⟩, ?_, ?_, ?_, ?_⟩
  · intro w hw
    rw [z_nW] at hw
    omega
  · intro w hw
    rw [z_nP] at hw
    omega
  · intro w hw
    rw [z_nT] at hw
    omega
  · intro w hw
    rw [z_nS] at hw
    omega
theorem Rel_M0 : Rel M0 := by
  have e0 : (0 : Int32) = nI 0 := by decide +kernel
  unfold Rel RelH RelI
  rw [M0_l, M0_h]
  refine ⟨?_, ⟨0, by decide, e0, e0, fun i hi => by omega⟩, ⟨rfl, rfl⟩, ⟨z_HV, ?_, ?_, ?_⟩, ⟨?_, ?_, Or.inl rfl⟩, ⟨Or.inl ⟨rfl, rfl⟩, Or.inl ⟨rfl, rfl⟩, ?_⟩, ⟨0, by decide, e0, e0, fun i hi => by omega⟩⟩
  · intro r hr
    refine Or.inl ⟨rfl, ?_, rfl⟩
    rcases (show r = 0 ∨ r = 1 ∨ r = 2 ∨ r = 3 ∨ r = 4 ∨ r = 5 ∨ r = 6 ∨ r = 7 by omega) with rfl | rfl | rfl | rfl | rfl | rfl | rfl | rfl <;> decide +kernel
  · refine ⟨⟨rfl, fun w hw => ?_⟩, ⟨rfl, fun w hw => ?_⟩, ⟨rfl, fun w hw => ?_⟩, ⟨rfl, fun w hw => ?_⟩⟩
    · rw [z_nW] at hw; omega
    · rw [z_nP] at hw; omega
    · rw [z_nT] at hw; omega
    · rw [z_nS] at hw; omega
  · show (0 : Int32) = b2i (0 < nW (fun _ => 0))
    rw [z_nW]
    decide +kernel
  · exact ⟨z_bs z_seen, fun w _ => z_bs (z_on w), fun p _ => z_bs (z_ah p), fun p _ => z_bs (z_su p)⟩
  · exact ⟨z_bs z_seen, z_bs (fun p => z_su p p), fun w _ => z_bs (z_on w), fun p _ => z_bs (z_ah p), fun p _ => z_bs (z_su p)⟩
  · refine ⟨fun _ => ⟨⟨0, fun _ => 0, ⟨by decide, fun i hi => by omega, fun p _ => ?_⟩, e0, fun i hi => by omega⟩, fun p _ hs => ?_⟩, fun _ => rfl⟩
    · unfold fo
      rw [z_seen]
      rfl
    · rw [z_seen] at hs
      cases hs
  · rintro (h | h) <;> exact absurd (show (0 : Int32) = 1 from h) (by decide)
def am_c2 : List (Nat × Nat × Nat) := [(0, 0, 0), (1, 0, 0), (1, 0, 1), (1, 0, 2), (1, 0, 3), (1, 0, 4), (2, 0, 0), (2, 0, 1), (3, 0, 0), (4, 1, 0), (4, 1, 1), (4, 1, 2), (4, 1, 3), (4, 1, 4), (4, 1, 5), (4, 1, 6), (4, 1, 7), (4, 1, 8), (4, 1, 9), (4, 1, 10), (4, 1, 11), (4, 0, 0), (4, 0, 1), (4, 0, 2), (4, 0, 3), (4, 0, 4), (4, 0, 5), (4, 0, 6), (4, 0, 7), (4, 0, 8), (4, 0, 9), (4, 0, 10), (4, 0, 11), (5, 0, 0), (5, 0, 1), (5, 0, 2), (5, 0, 3), (6, 0, 0), (4, 2, 0), (4, 2, 1), (4, 2, 2), (4, 2, 3), (4, 2, 4), (4, 2, 5), (4, 2, 6), (4, 2, 7), (4, 2, 8), (4, 2, 9), (4, 2, 10), (4, 2, 11), (5, 1, 0), (5, 1, 1), (5, 1, 2), (5, 1, 3), (6, 1, 0), (4, 3, 0), (4, 3, 1), (4, 3, 2), (4, 3, 3), (4, 3, 4), (4, 3, 5), (4, 3, 6), (4, 3, 7), (4, 3, 8), (4, 3, 9), (4, 3, 10), (4, 3, 11), (5, 2, 0), (5, 2, 1), (5, 2, 2), (5, 2, 3), (7, 0, 0), (7, 0, 1), (7, 0, 2), (7, 0, 3), (7, 0, 4), (7, 0, 5), (7, 0, 6), (8, 0, 0), (8, 0, 1), (8, 0, 2), (8, 0, 3), (9, 0, 0), (10, 0, 0), (10, 0, 1), (11, 0, 0), (11, 0, 1), (11, 0, 2), (11, 0, 3), (11, 0, 4), (11, 0, 5), (11, 0, 6), (11, 0, 7), (11, 0, 8), (11, 0, 9), (11, 0, 10), (11, 0, 11), (11, 0, 12), (11, 0, 13), (11, 0, 14), (11, 0, 15)]
theorem c2_all : ∀ x ∈ am_all, x ∈ am_c2 := by decide +kernel
theorem all_inj : ∀ i, i < 101 → ∀ j, j < 101 → am_all[i]? = am_all[j]? → i = j := by decide +kernel
theorem wl_P {D : va_G} {H : Heap} {ad : Nat × Nat × Nat → Nat} {g : Nat × Nat × Nat → va_E} (h : va_P D am_cls (am_c2.map (fun q => (ad q, g q))) H) : va_P D am_cls (am_all.map (fun q => (ad q, g q))) H := by
  intro k q hq
  rw [List.getElem?_map] at hq
  cases hk : am_all[k]? with
  | none => rw [hk] at hq; cases hq
  | some x =>
    rw [hk] at hq
    cases hq
    obtain ⟨i, hi⟩ := List.getElem?_of_mem (c2_all x (List.mem_of_getElem? hk))
    exact h i _ (by rw [List.getElem?_map, hi]; rfl)
theorem wl_D {A : Nat → Prop} {ad : Nat × Nat × Nat → Nat} {f g : Nat × Nat × Nat → va_E} (h : va_D A (am_c2.map (fun q => (ad q, f q)))) : va_D A (am_all.map (fun q => (ad q, g q))) := by
  have key : ∀ k (q : Nat × va_E), (am_all.map (fun q => (ad q, g q)))[k]? = some q → k < 101 ∧ ∃ (x : Nat × Nat × Nat) (i : Nat), am_all[k]? = some x ∧ am_c2[i]? = some x ∧ q.1 = ad x := by
    intro k q hq
    rw [List.getElem?_map] at hq
    cases hk : am_all[k]? with
    | none => rw [hk] at hq; cases hq
    | some x =>
      rw [hk] at hq
      cases hq
      obtain ⟨i, hi⟩ := List.getElem?_of_mem (c2_all x (List.mem_of_getElem? hk))
      exact ⟨(List.getElem?_eq_some_iff.mp hk).1, x, i, rfl, hi, rfl⟩
  have to2 : ∀ (i : Nat) (x : Nat × Nat × Nat), am_c2[i]? = some x → (am_c2.map (fun q => (ad q, f q)))[i]? = some (ad x, f x) := fun i x hi => by rw [List.getElem?_map, hi]; rfl
  refine ⟨fun i j p q hp hq e => ?_, fun k q hq => ?_⟩
  · obtain ⟨hi, x, i2, h1, h2, h3⟩ := key i p hp
    obtain ⟨hj, y, j2, g1, g2, g3⟩ := key j q hq
    have h4 := h.1 i2 j2 _ _ (to2 i2 x h2) (to2 j2 y g2) (by rw [← h3, ← g3]; exact e)
    subst h4
    rw [h2] at g2
    cases g2
    exact all_inj i hi j hj (h1.trans g1.symm)
  · obtain ⟨hi, x, i2, h1, h2, h3⟩ := key k q hq
    rw [h3]
    exact h.2 i2 _ (to2 i2 x h2)
