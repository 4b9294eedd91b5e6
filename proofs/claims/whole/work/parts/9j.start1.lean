def am_ad (u : am_U) (v zt sk sv : Nat → Nat) (b : Nat) : Nat × Nat × Nat → Nat := fun q => match q.1 with
  | 0 => u.1
  | 1 => u.2.1 q.2.2
  | 2 => u.2.2.1 q.2.2
  | 3 => u.2.2.2.1.1
  | 4 => (match q.2.1 with | 0 => u.2.2.2.2.1 q.2.2 | 1 => u.2.2.2.1.2 q.2.2 | 2 => u.2.2.2.2.2.2.1.2.1 q.2.2 | _ => u.2.2.2.2.2.2.2.1.2.1 q.2.2)
  | 5 => (match q.2.1 with | 0 => u.2.2.2.2.2.1 q.2.2 | 1 => u.2.2.2.2.2.2.1.2.2 q.2.2 | _ => u.2.2.2.2.2.2.2.1.2.2 q.2.2)
  | 6 => (match q.2.1 with | 0 => u.2.2.2.2.2.2.1.1 | _ => u.2.2.2.2.2.2.2.1.1)
  | 7 => u.2.2.2.2.2.2.2.2.1 q.2.2
  | 8 => u.2.2.2.2.2.2.2.2.2.1 q.2.2
  | 9 => u.2.2.2.2.2.2.2.2.2.2.1 q.2.2
  | 10 => u.2.2.2.2.2.2.2.2.2.2.2 q.2.2
  | 11 => v q.2.2
  | 12 => zt q.2.2
  | 13 => sk q.2.2
  | 14 => sv q.2.2
  | _ => b
set_option maxHeartbeats 4000000 in
set_option maxRecDepth 100000 in
theorem wl_two (cI cZ : ClassId) (u : am_U) (v zt sk sv : Nat → Nat) (b : Nat) : (w_Main cI cZ u ++ w_Ref cI cZ v) = am_c2.map (fun q => (am_ad u v zt sk sv b q, am_cell (am_ad u v zt sk sv b) cI cZ M0 q)) := rfl
