theorem am_wC_0 : ∀ k ∈ ([0, 1, 2, 3, 4, 5, 6, 7, 8, 9, 10, 11] : List Nat), Cond.code (am_y k) (am_cc k) (am_nl k) (am_rt k) ∈ lw_tbl := by decide +kernel
theorem am_wC_1 : ∀ k ∈ ([12, 13, 14, 15, 16, 17, 18, 19, 20, 21, 22, 23] : List Nat), Cond.code (am_y k) (am_cc k) (am_nl k) (am_rt k) ∈ lw_tbl := by decide +kernel
theorem am_wC_2 : ∀ k ∈ ([24, 26, 27, 28, 29, 30, 31, 32, 33, 34, 35, 36] : List Nat), Cond.code (am_y k) (am_cc k) (am_nl k) (am_rt k) ∈ lw_tbl := by decide +kernel
theorem am_wC_3 : ∀ k ∈ ([37, 38, 39, 40, 41, 42, 43, 44, 45, 46, 47, 48] : List Nat), Cond.code (am_y k) (am_cc k) (am_nl k) (am_rt k) ∈ lw_tbl := by decide +kernel
theorem am_wC_4 : ∀ k ∈ ([49, 50, 51, 52, 53, 54, 55, 56, 57, 58, 59, 60] : List Nat), Cond.code (am_y k) (am_cc k) (am_nl k) (am_rt k) ∈ lw_tbl := by decide +kernel
theorem am_wC_5 : ∀ k ∈ ([61, 62, 63, 64, 65, 66, 67, 68, 69, 70, 71, 72] : List Nat), Cond.code (am_y k) (am_cc k) (am_nl k) (am_rt k) ∈ lw_tbl := by decide +kernel
theorem am_wC_6 : ∀ k ∈ ([73, 74, 75, 76, 77, 78, 79, 80, 81, 82, 83, 84] : List Nat), Cond.code (am_y k) (am_cc k) (am_nl k) (am_rt k) ∈ lw_tbl := by decide +kernel
theorem am_wC_7 : ∀ k ∈ ([85, 86] : List Nat), Cond.code (am_y k) (am_cc k) (am_nl k) (am_rt k) ∈ lw_tbl := by decide +kernel
theorem am_wC : ∀ k ∈ am_kV, Cond.code (am_y k) (am_cc k) (am_nl k) (am_rt k) ∈ lw_tbl := by
  intro k h
  rw [show am_kV = ([0, 1, 2, 3, 4, 5, 6, 7, 8, 9, 10, 11] : List Nat) ++ ([12, 13, 14, 15, 16, 17, 18, 19, 20, 21, 22, 23] : List Nat) ++ ([24, 26, 27, 28, 29, 30, 31, 32, 33, 34, 35, 36] : List Nat) ++ ([37, 38, 39, 40, 41, 42, 43, 44, 45, 46, 47, 48] : List Nat) ++ ([49, 50, 51, 52, 53, 54, 55, 56, 57, 58, 59, 60] : List Nat) ++ ([61, 62, 63, 64, 65, 66, 67, 68, 69, 70, 71, 72] : List Nat) ++ ([73, 74, 75, 76, 77, 78, 79, 80, 81, 82, 83, 84] : List Nat) ++ ([85, 86] : List Nat) from rfl] at h
  simp only [List.mem_append] at h
  rcases h with (((((((h | h) | h) | h) | h) | h) | h) | h)
  · exact am_wC_0 k h
  · exact am_wC_1 k h
  · exact am_wC_2 k h
  · exact am_wC_3 k h
  · exact am_wC_4 k h
  · exact am_wC_5 k h
  · exact am_wC_6 k h
  · exact am_wC_7 k h
