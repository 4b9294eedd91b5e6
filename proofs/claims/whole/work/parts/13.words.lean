theorem gm_list {ws : List Cond} (ps : List Nat) (hp : ws = ps.filterMap (fun i => lw_tbl[i]?)) (h : ws.all goodWord = true) : ∀ w ∈ ws, w ∈ gtb := by
  intro w hw
  have h1 := List.all_eq_true.mp h w hw
  rw [hp] at hw
  obtain ⟨i, -, hi⟩ := List.mem_filterMap.mp hw
  exact gm i hi h1
theorem uw_0 : ∀ w ∈ u_ws rc_0 tc_0 13, w ∈ gtb := gm_list [378, 380, 382, 384, 386, 388, 390, 392, 394, 396, 398, 400, 402] (by decide +kernel) (by decide +kernel)
theorem uw_1 : ∀ w ∈ u_ws rc_1 tc_1 4, w ∈ gtb := gm_list [79, 81, 83, 85] (by decide +kernel) (by decide +kernel)
theorem uw_2 : ∀ w ∈ u_ws rc_2 tc_2 2, w ∈ gtb := gm_list [100, 102] (by decide +kernel) (by decide +kernel)
theorem uw_3 : ∀ w ∈ u_ws rc_3 tc_3 8, w ∈ gtb := gm_list [199, 201, 203, 205, 207, 209, 211, 213] (by decide +kernel) (by decide +kernel)
theorem uw_4 : ∀ w ∈ u_ws rc_4 tc_4 14, w ∈ gtb := gm_list [159, 161, 163, 165, 167, 169, 171, 173, 175, 177, 179, 181, 183, 185] (by decide +kernel) (by decide +kernel)
theorem uw_5 : ∀ w ∈ u_ws rc_5 tc_5 4, w ∈ gtb := gm_list [230, 232, 234, 236] (by decide +kernel) (by decide +kernel)
theorem uw_6 : ∀ w ∈ u_ws rc_6 tc_6 2, w ∈ gtb := gm_list [253, 255] (by decide +kernel) (by decide +kernel)
theorem uw_7 : ∀ w ∈ u_ws rc_7 tc_7 11, w ∈ gtb := gm_list [285, 287, 289, 291, 293, 295, 297, 299, 301, 303, 305] (by decide +kernel) (by decide +kernel)
theorem uw_8 : ∀ w ∈ u_ws rc_8 tc_8 5, w ∈ gtb := gm_list [320, 322, 324, 326, 328] (by decide +kernel) (by decide +kernel)
theorem uw_9 : ∀ w ∈ u_ws rc_9 tc_9 3, w ∈ gtb := gm_list [343, 345, 347] (by decide +kernel) (by decide +kernel)
theorem uw_10 : ∀ w ∈ u_ws rc_10 tc_10 2, w ∈ gtb := gm_list [360, 362] (by decide +kernel) (by decide +kernel)
theorem uw_11 : ∀ w ∈ u_ws rc_11 tc_11 29, w ∈ gtb := gm_list [1057, 1059, 1061, 1063, 1065, 1067, 1069, 1071, 1073, 1075, 1077, 1079, 1081, 1083, 1085, 1087, 1089, 1091, 1093, 1095, 1097, 1099, 1101, 1103, 1105, 1107, 1109, 1111, 1113] (by decide +kernel) (by decide +kernel)
theorem am_clok_ok : am_clok := by
  intro c r h
  match c, h with
  | 0, h => cases h; exact ⟨uw_0, ⟨yc_0, yo_0⟩, nc_0⟩
  | 1, h => cases h; exact ⟨uw_1, ⟨yc_1, yo_1⟩, nc_1⟩
  | 2, h => cases h; exact ⟨uw_2, ⟨yc_2, yo_2⟩, nc_2⟩
  | 3, h => cases h; exact ⟨uw_3, ⟨yc_3, yo_3⟩, nc_3⟩
  | 4, h => cases h; exact ⟨uw_4, ⟨yc_4, yo_4⟩, nc_4⟩
  | 5, h => cases h; exact ⟨uw_5, ⟨yc_5, yo_5⟩, nc_5⟩
  | 6, h => cases h; exact ⟨uw_6, ⟨yc_6, yo_6⟩, nc_6⟩
  | 7, h => cases h; exact ⟨uw_7, ⟨yc_7, yo_7⟩, nc_7⟩
  | 8, h => cases h; exact ⟨uw_8, ⟨yc_8, yo_8⟩, nc_8⟩
  | 9, h => cases h; exact ⟨uw_9, ⟨yc_9, yo_9⟩, nc_9⟩
  | 10, h => cases h; exact ⟨uw_10, ⟨yc_10, yo_10⟩, nc_10⟩
  | 11, h => cases h; exact ⟨uw_11, ⟨yc_11, yo_11⟩, nc_11⟩
  | n + 12, h => simp [am_cls] at h
