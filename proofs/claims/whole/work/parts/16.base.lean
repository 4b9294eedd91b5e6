theorem con_of {d n : Nat} {as : List am_V} {M : am_M} {Po : Option am_V → am_M → Prop} {code : List am_E} (hok : am_mok n code) (lv0 : am_L) (ret : Option FieldType) (h : am_Sem d ret code lv0 M Po) (h0 : am_lv0 (mt n).2.2.1 as = lv0 := by rfl) (hlen : (am_args as).length ≤ (mt n).2.2.1 := by exact Nat.le_of_ble_eq_true rfl) (hret : (mt n).2.2.2 = ret := by rfl) : ConP d n as M Po := con_of0 am_clok_ok hok lv0 h0 hlen hret h
/-! booleans and small numbers -/
def b2i (p : Prop) [Decidable p] : Int32 := if p then 1 else 0
theorem b2i_0 {p : Prop} [Decidable p] : b2i p = 0 ↔ ¬ p := by
  unfold b2i
  by_cases h : p
  · rw [if_pos h]; exact ⟨fun q => absurd q (by decide), fun q => absurd h q⟩
  · rw [if_neg h]; exact ⟨fun _ => h, fun _ => rfl⟩
theorem b2i_t {p : Prop} [Decidable p] (h : p) : b2i p = 1 := if_pos h
theorem b2i_f {p : Prop} [Decidable p] (h : ¬ p) : b2i p = 0 := if_neg h
/-- a jump where a boolean is false -/
theorem brb {p A B : Prop} [Decidable p] (a : ¬ p → A) (b : p → B) : Br (b2i p = 0) A B := ⟨fun h => a (b2i_0.mp h), fun h => b (Decidable.not_not.mp (fun q => h (b2i_0.mpr q)))⟩
theorem nar_b {p : Prop} [Decidable p] : vp_nar .boolean (b2i p) = b2i p := by
  unfold b2i
  by_cases h : p
  · rw [if_pos h]; decide
  · rw [if_neg h]; decide
