theorem am_k48 : ∀ e ∈ am_c48, am_OK 48 e := by unfold am_OK; decide +kernel
theorem am_k49 : ∀ e ∈ am_c49, am_OK 49 e := by unfold am_OK; decide +kernel
theorem am_k50 : ∀ e ∈ am_c50, am_OK 50 e := by unfold am_OK; decide +kernel
theorem am_k51 : ∀ e ∈ am_c51, am_OK 51 e := by unfold am_OK; decide +kernel
theorem am_k52 : ∀ e ∈ am_c52, am_OK 52 e := by unfold am_OK; decide +kernel
theorem am_k53 : ∀ e ∈ am_c53, am_OK 53 e := by unfold am_OK; decide +kernel
theorem am_k54_0 : ∀ e ∈ (am_c54.drop 0).take 50, am_OK 54 e := by unfold am_OK; decide +kernel
theorem am_k54_1 : ∀ e ∈ (am_c54.drop 50).take 50, am_OK 54 e := by unfold am_OK; decide +kernel
set_option maxRecDepth 1000000 in
theorem am_k54 : ∀ e ∈ am_c54, am_OK 54 e := by
  intro e h
  rw [show am_c54 = (am_c54.drop 0).take 50 ++ (am_c54.drop 50).take 50 from rfl] at h
  simp only [List.mem_append] at h
  rcases h with (h | h)
  · exact am_k54_0 e h
  · exact am_k54_1 e h
theorem am_k55 : ∀ e ∈ am_c55, am_OK 55 e := by unfold am_OK; decide +kernel
theorem am_k56 : ∀ e ∈ am_c56, am_OK 56 e := by unfold am_OK; decide +kernel
theorem am_k57 : ∀ e ∈ am_c57, am_OK 57 e := by unfold am_OK; decide +kernel
theorem am_k58 : ∀ e ∈ am_c58, am_OK 58 e := by unfold am_OK; decide +kernel
theorem am_k59 : ∀ e ∈ am_c59, am_OK 59 e := by unfold am_OK; decide +kernel
theorem am_k60_0 : ∀ e ∈ (am_c60.drop 0).take 50, am_OK 60 e := by unfold am_OK; decide +kernel
theorem am_k60_1 : ∀ e ∈ (am_c60.drop 50).take 50, am_OK 60 e := by unfold am_OK; decide +kernel
theorem am_k60_2 : ∀ e ∈ (am_c60.drop 100).take 50, am_OK 60 e := by unfold am_OK; decide +kernel
set_option maxRecDepth 1000000 in
theorem am_k60 : ∀ e ∈ am_c60, am_OK 60 e := by
  intro e h
  rw [show am_c60 = (am_c60.drop 0).take 50 ++ (am_c60.drop 50).take 50 ++ (am_c60.drop 100).take 50 from rfl] at h
  simp only [List.mem_append] at h
  rcases h with ((h | h) | h)
  · exact am_k60_0 e h
  · exact am_k60_1 e h
  · exact am_k60_2 e h
theorem am_k61 : ∀ e ∈ am_c61, am_OK 61 e := by unfold am_OK; decide +kernel
theorem am_k62 : ∀ e ∈ am_c62, am_OK 62 e := by unfold am_OK; decide +kernel
theorem am_k63 : ∀ e ∈ am_c63, am_OK 63 e := by unfold am_OK; decide +kernel
theorem am_k64 : ∀ e ∈ am_c64, am_OK 64 e := by unfold am_OK; decide +kernel
theorem am_k65_0 : ∀ e ∈ (am_c65.drop 0).take 50, am_OK 65 e := by unfold am_OK; decide +kernel
theorem am_k65_1 : ∀ e ∈ (am_c65.drop 50).take 50, am_OK 65 e := by unfold am_OK; decide +kernel
theorem am_k65_2 : ∀ e ∈ (am_c65.drop 100).take 50, am_OK 65 e := by unfold am_OK; decide +kernel
set_option maxRecDepth 1000000 in
theorem am_k65 : ∀ e ∈ am_c65, am_OK 65 e := by
  intro e h
  rw [show am_c65 = (am_c65.drop 0).take 50 ++ (am_c65.drop 50).take 50 ++ (am_c65.drop 100).take 50 from rfl] at h
  simp only [List.mem_append] at h
  rcases h with ((h | h) | h)
  · exact am_k65_0 e h
  · exact am_k65_1 e h
  · exact am_k65_2 e h
theorem am_k66 : ∀ e ∈ am_c66, am_OK 66 e := by unfold am_OK; decide +kernel
theorem am_k67 : ∀ e ∈ am_c67, am_OK 67 e := by unfold am_OK; decide +kernel
theorem am_k68 : ∀ e ∈ am_c68, am_OK 68 e := by unfold am_OK; decide +kernel
theorem am_k69 : ∀ e ∈ am_c69, am_OK 69 e := by unfold am_OK; decide +kernel
theorem am_k70 : ∀ e ∈ am_c70, am_OK 70 e := by unfold am_OK; decide +kernel
theorem am_k71 : ∀ e ∈ am_c71, am_OK 71 e := by unfold am_OK; decide +kernel
theorem am_k72 : ∀ e ∈ am_c72, am_OK 72 e := by unfold am_OK; decide +kernel
theorem am_k73 : ∀ e ∈ am_c73, am_OK 73 e := by unfold am_OK; decide +kernel
theorem am_k74_0 : ∀ e ∈ (am_c74.drop 0).take 50, am_OK 74 e := by unfold am_OK; decide +kernel
theorem am_k74_1 : ∀ e ∈ (am_c74.drop 50).take 50, am_OK 74 e := by unfold am_OK; decide +kernel
set_option maxRecDepth 1000000 in
theorem am_k74 : ∀ e ∈ am_c74, am_OK 74 e := by
  intro e h
  rw [show am_c74 = (am_c74.drop 0).take 50 ++ (am_c74.drop 50).take 50 from rfl] at h
  simp only [List.mem_append] at h
  rcases h with (h | h)
  · exact am_k74_0 e h
  · exact am_k74_1 e h
theorem am_k75 : ∀ e ∈ am_c75, am_OK 75 e := by unfold am_OK; decide +kernel
theorem am_k76_0 : ∀ e ∈ (am_c76.drop 0).take 50, am_OK 76 e := by unfold am_OK; decide +kernel
theorem am_k76_1 : ∀ e ∈ (am_c76.drop 50).take 50, am_OK 76 e := by unfold am_OK; decide +kernel
set_option maxRecDepth 1000000 in
theorem am_k76 : ∀ e ∈ am_c76, am_OK 76 e := by
  intro e h
  rw [show am_c76 = (am_c76.drop 0).take 50 ++ (am_c76.drop 50).take 50 from rfl] at h
  simp only [List.mem_append] at h
  rcases h with (h | h)
  · exact am_k76_0 e h
  · exact am_k76_1 e h
theorem am_k77 : ∀ e ∈ am_c77, am_OK 77 e := by unfold am_OK; decide +kernel
theorem am_k78 : ∀ e ∈ am_c78, am_OK 78 e := by unfold am_OK; decide +kernel
theorem am_k79 : ∀ e ∈ am_c79, am_OK 79 e := by unfold am_OK; decide +kernel
theorem am_k80 : ∀ e ∈ am_c80, am_OK 80 e := by unfold am_OK; decide +kernel
theorem am_k81_0 : ∀ e ∈ (am_c81.drop 0).take 50, am_OK 81 e := by unfold am_OK; decide +kernel
theorem am_k81_1 : ∀ e ∈ (am_c81.drop 50).take 50, am_OK 81 e := by unfold am_OK; decide +kernel
set_option maxRecDepth 1000000 in
theorem am_k81 : ∀ e ∈ am_c81, am_OK 81 e := by
  intro e h
  rw [show am_c81 = (am_c81.drop 0).take 50 ++ (am_c81.drop 50).take 50 from rfl] at h
  simp only [List.mem_append] at h
  rcases h with (h | h)
  · exact am_k81_0 e h
  · exact am_k81_1 e h
theorem am_k82 : ∀ e ∈ am_c82, am_OK 82 e := by unfold am_OK; decide +kernel
theorem am_k83 : ∀ e ∈ am_c83, am_OK 83 e := by unfold am_OK; decide +kernel
theorem am_k84_0 : ∀ e ∈ (am_c84.drop 0).take 50, am_OK 84 e := by unfold am_OK; decide +kernel
theorem am_k84_1 : ∀ e ∈ (am_c84.drop 50).take 50, am_OK 84 e := by unfold am_OK; decide +kernel
set_option maxRecDepth 1000000 in
theorem am_k84 : ∀ e ∈ am_c84, am_OK 84 e := by
  intro e h
  rw [show am_c84 = (am_c84.drop 0).take 50 ++ (am_c84.drop 50).take 50 from rfl] at h
  simp only [List.mem_append] at h
  rcases h with (h | h)
  · exact am_k84_0 e h
  · exact am_k84_1 e h
theorem am_k85 : ∀ e ∈ am_c85, am_OK 85 e := by unfold am_OK; decide +kernel
theorem am_k86 : ∀ e ∈ am_c86, am_OK 86 e := by unfold am_OK; decide +kernel
theorem am_k87 : ∀ e ∈ am_c87, am_OK 87 e := by unfold am_OK; decide +kernel
theorem am_k88 : ∀ e ∈ am_c88, am_OK 88 e := by unfold am_OK; decide +kernel
theorem am_k89 : ∀ e ∈ am_c89, am_OK 89 e := by unfold am_OK; decide +kernel
theorem am_k90 : ∀ e ∈ am_c90, am_OK 90 e := by unfold am_OK; decide +kernel
theorem am_k91 : ∀ e ∈ am_c91, am_OK 91 e := by unfold am_OK; decide +kernel
theorem am_k92 : ∀ e ∈ am_c92, am_OK 92 e := by unfold am_OK; decide +kernel
theorem am_k93 : ∀ e ∈ am_c93, am_OK 93 e := by unfold am_OK; decide +kernel
theorem am_k94 : ∀ e ∈ am_c94, am_OK 94 e := by unfold am_OK; decide +kernel
theorem am_k95 : ∀ e ∈ am_c95, am_OK 95 e := by unfold am_OK; decide +kernel
theorem am_k96 : ∀ e ∈ am_c96, am_OK 96 e := by unfold am_OK; decide +kernel
theorem am_k97 : ∀ e ∈ am_c97, am_OK 97 e := by unfold am_OK; decide +kernel
theorem am_k98 : ∀ e ∈ am_c98, am_OK 98 e := by unfold am_OK; decide +kernel
theorem am_k99 : ∀ e ∈ am_c99, am_OK 99 e := by unfold am_OK; decide +kernel
theorem am_k100 : ∀ e ∈ am_c100, am_OK 100 e := by unfold am_OK; decide +kernel
