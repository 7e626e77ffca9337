/-! LINKS: which words each call and each field access stands on. By program (wip/whole/gen_all.py). -/
theorem p_0_1 : zLP 0 1 .int := fun C T N h => by
  have h2 : some (RX0, TX0, 4) = some (C, T, N) := h
  cases h2
  exact ⟨rfl, by decide +kernel, nmX0, tyX0, tyX0_ok⟩
theorem p_0_2 : zLP 0 2 .int := fun C T N h => by
  have h2 : some (RX0, TX0, 4) = some (C, T, N) := h
  cases h2
  exact ⟨rfl, by decide +kernel, nmX0, tyX0, tyX0_ok⟩
theorem p_0_3 : zLP 0 3 .int := fun C T N h => by
  have h2 : some (RX0, TX0, 4) = some (C, T, N) := h
  cases h2
  exact ⟨rfl, by decide +kernel, nmX0, tyX0, tyX0_ok⟩
theorem p_1_1 : zLP 1 1 .int := fun C T N h => by
  have h2 : some (RX1, TX1, 3) = some (C, T, N) := h
  cases h2
  exact ⟨rfl, by decide +kernel, nmX1, tyX1, tyX1_ok⟩
theorem p_1_2 : zLP 1 2 .int := fun C T N h => by
  have h2 : some (RX1, TX1, 3) = some (C, T, N) := h
  cases h2
  exact ⟨rfl, by decide +kernel, nmX1, tyX1, tyX1_ok⟩
theorem p_2_4 : zLP 2 4 .int := fun C T N h => by
  have h2 : some (RX2, TX2, 5) = some (C, T, N) := h
  cases h2
  exact ⟨rfl, by decide +kernel, nmX2, tyX2, tyX2_ok⟩
theorem p_3_4 : zLP 3 4 .int := fun C T N h => by
  have h2 : some (RX3, TX3, 7) = some (C, T, N) := h
  cases h2
  exact ⟨rfl, by decide +kernel, nmX3, tyX3, tyX3_ok⟩
theorem p_3_5 : zLP 3 5 .int := fun C T N h => by
  have h2 : some (RX3, TX3, 7) = some (C, T, N) := h
  cases h2
  exact ⟨rfl, by decide +kernel, nmX3, tyX3, tyX3_ok⟩
theorem p_3_6 : zLP 3 6 .int := fun C T N h => by
  have h2 : some (RX3, TX3, 7) = some (C, T, N) := h
  cases h2
  exact ⟨rfl, by decide +kernel, nmX3, tyX3, tyX3_ok⟩
theorem p_4_6 : zLP 4 6 .int := fun C T N h => by
  have h2 : some (RX4, TX4, 13) = some (C, T, N) := h
  cases h2
  exact ⟨rfl, by decide +kernel, nmX4, tyX4, tyX4_ok⟩
theorem p_4_7 : zLP 4 7 .int := fun C T N h => by
  have h2 : some (RX4, TX4, 13) = some (C, T, N) := h
  cases h2
  exact ⟨rfl, by decide +kernel, nmX4, tyX4, tyX4_ok⟩
theorem p_4_8 : zLP 4 8 .int := fun C T N h => by
  have h2 : some (RX4, TX4, 13) = some (C, T, N) := h
  cases h2
  exact ⟨rfl, by decide +kernel, nmX4, tyX4, tyX4_ok⟩
theorem p_4_9 : zLP 4 9 .int := fun C T N h => by
  have h2 : some (RX4, TX4, 13) = some (C, T, N) := h
  cases h2
  exact ⟨rfl, by decide +kernel, nmX4, tyX4, tyX4_ok⟩
theorem p_4_10 : zLP 4 10 .int := fun C T N h => by
  have h2 : some (RX4, TX4, 13) = some (C, T, N) := h
  cases h2
  exact ⟨rfl, by decide +kernel, nmX4, tyX4, tyX4_ok⟩
theorem p_4_11 : zLP 4 11 .int := fun C T N h => by
  have h2 : some (RX4, TX4, 13) = some (C, T, N) := h
  cases h2
  exact ⟨rfl, by decide +kernel, nmX4, tyX4, tyX4_ok⟩
theorem p_4_12 : zLP 4 12 .int := fun C T N h => by
  have h2 : some (RX4, TX4, 13) = some (C, T, N) := h
  cases h2
  exact ⟨rfl, by decide +kernel, nmX4, tyX4, tyX4_ok⟩
theorem p_5_9 : zLP 5 9 .boolean := fun C T N h => by
  have h2 : some (RX5, TX5, 10) = some (C, T, N) := h
  cases h2
  exact ⟨rfl, by decide +kernel, nmX5, tyX5, tyX5_ok⟩
theorem p_6_2 : zLP 6 2 .boolean := fun C T N h => by
  have h2 : some (RX6, TX6, 27) = some (C, T, N) := h
  cases h2
  exact ⟨rfl, by decide +kernel, nmX6, tyX6, tyX6_ok⟩
theorem p_6_7 : zLP 6 7 .int := fun C T N h => by
  have h2 : some (RX6, TX6, 27) = some (C, T, N) := h
  cases h2
  exact ⟨rfl, by decide +kernel, nmX6, tyX6, tyX6_ok⟩
theorem p_6_9 : zLP 6 9 .int := fun C T N h => by
  have h2 : some (RX6, TX6, 27) = some (C, T, N) := h
  cases h2
  exact ⟨rfl, by decide +kernel, nmX6, tyX6, tyX6_ok⟩
theorem p_6_10 : zLP 6 10 .int := fun C T N h => by
  have h2 : some (RX6, TX6, 27) = some (C, T, N) := h
  cases h2
  exact ⟨rfl, by decide +kernel, nmX6, tyX6, tyX6_ok⟩
theorem p_6_12 : zLP 6 12 .int := fun C T N h => by
  have h2 : some (RX6, TX6, 27) = some (C, T, N) := h
  cases h2
  exact ⟨rfl, by decide +kernel, nmX6, tyX6, tyX6_ok⟩
theorem p_6_13 : zLP 6 13 .int := fun C T N h => by
  have h2 : some (RX6, TX6, 27) = some (C, T, N) := h
  cases h2
  exact ⟨rfl, by decide +kernel, nmX6, tyX6, tyX6_ok⟩
theorem p_6_14 : zLP 6 14 .int := fun C T N h => by
  have h2 : some (RX6, TX6, 27) = some (C, T, N) := h
  cases h2
  exact ⟨rfl, by decide +kernel, nmX6, tyX6, tyX6_ok⟩
theorem p_6_15 : zLP 6 15 .int := fun C T N h => by
  have h2 : some (RX6, TX6, 27) = some (C, T, N) := h
  cases h2
  exact ⟨rfl, by decide +kernel, nmX6, tyX6, tyX6_ok⟩
theorem p_6_16 : zLP 6 16 .int := fun C T N h => by
  have h2 : some (RX6, TX6, 27) = some (C, T, N) := h
  cases h2
  exact ⟨rfl, by decide +kernel, nmX6, tyX6, tyX6_ok⟩
theorem p_6_17 : zLP 6 17 .boolean := fun C T N h => by
  have h2 : some (RX6, TX6, 27) = some (C, T, N) := h
  cases h2
  exact ⟨rfl, by decide +kernel, nmX6, tyX6, tyX6_ok⟩
theorem p_6_21 : zLP 6 21 .int := fun C T N h => by
  have h2 : some (RX6, TX6, 27) = some (C, T, N) := h
  cases h2
  exact ⟨rfl, by decide +kernel, nmX6, tyX6, tyX6_ok⟩
theorem p_6_22 : zLP 6 22 .int := fun C T N h => by
  have h2 : some (RX6, TX6, 27) = some (C, T, N) := h
  cases h2
  exact ⟨rfl, by decide +kernel, nmX6, tyX6, tyX6_ok⟩
theorem f_RX5_10 : zLF RX5 10 5 0 := ⟨RX5, TX5, 10, rfl, by decide, zcl_5, Or.inl (zT_in 282 (by decide +kernel) rfl)⟩
theorem f_RX5_16 : zLF RX5 16 5 1 := ⟨RX5, TX5, 10, rfl, by decide, zcl_5, Or.inl (zT_in 283 (by decide +kernel) rfl)⟩
theorem f_RX5_22 : zLF RX5 22 5 2 := ⟨RX5, TX5, 10, rfl, by decide, zcl_5, Or.inl (zT_in 284 (by decide +kernel) rfl)⟩
theorem f_RX5_29 : zLF RX5 29 5 3 := ⟨RX5, TX5, 10, rfl, by decide, zcl_5, Or.inl (zT_in 285 (by decide +kernel) rfl)⟩
theorem f_RX5_36 : zLF RX5 36 5 4 := ⟨RX5, TX5, 10, rfl, by decide, zcl_5, Or.inl (zT_in 286 (by decide +kernel) rfl)⟩
theorem f_RX5_42 : zLF RX5 42 5 5 := ⟨RX5, TX5, 10, rfl, by decide, zcl_5, Or.inl (zT_in 287 (by decide +kernel) rfl)⟩
theorem f_RX5_46 : zLF RX5 46 5 6 := ⟨RX5, TX5, 10, rfl, by decide, zcl_5, Or.inl (zT_in 288 (by decide +kernel) rfl)⟩
theorem f_RX5_50 : zLF RX5 50 5 7 := ⟨RX5, TX5, 10, rfl, by decide, zcl_5, Or.inl (zT_in 289 (by decide +kernel) rfl)⟩
theorem f_RX5_53 : zLF RX5 53 5 8 := ⟨RX5, TX5, 10, rfl, by decide, zcl_5, Or.inl (zT_in 290 (by decide +kernel) rfl)⟩
theorem f_RX5_56 : zLF RX5 56 5 9 := ⟨RX5, TX5, 10, rfl, by decide, zcl_5, Or.inl (zT_in 291 (by decide +kernel) rfl)⟩
theorem f_RX5_69 : zLF RX5 69 4 6 := ⟨RX4, TX4, 13, rfl, by decide, zcl_4, Or.inr ⟨"MeanCoats", List.mem_of_getElem? (i := 5) rfl⟩⟩
theorem f_RX5_96 : zLF RX5 96 4 7 := ⟨RX4, TX4, 13, rfl, by decide, zcl_4, Or.inr ⟨"MeanCoats", List.mem_of_getElem? (i := 6) rfl⟩⟩
theorem f_RX5_99 : zLF RX5 99 4 8 := ⟨RX4, TX4, 13, rfl, by decide, zcl_4, Or.inr ⟨"MeanCoats", List.mem_of_getElem? (i := 7) rfl⟩⟩
theorem f_RX5_102 : zLF RX5 102 4 9 := ⟨RX4, TX4, 13, rfl, by decide, zcl_4, Or.inr ⟨"MeanCoats", List.mem_of_getElem? (i := 9) rfl⟩⟩
theorem f_RX5_105 : zLF RX5 105 4 10 := ⟨RX4, TX4, 13, rfl, by decide, zcl_4, Or.inr ⟨"MeanCoats", List.mem_of_getElem? (i := 12) rfl⟩⟩
theorem f_RX5_129 : zLF RX5 129 2 3 := ⟨RX2, TX2, 5, rfl, by decide, zcl_2, Or.inr ⟨"MeanCoats", List.mem_of_getElem? (i := 17) rfl⟩⟩
theorem f_RX5_194 : zLF RX5 194 4 11 := ⟨RX4, TX4, 13, rfl, by decide, zcl_4, Or.inr ⟨"MeanCoats", List.mem_of_getElem? (i := 14) rfl⟩⟩
theorem f_RX5_225 : zLF RX5 225 4 12 := ⟨RX4, TX4, 13, rfl, by decide, zcl_4, Or.inr ⟨"MeanCoats", List.mem_of_getElem? (i := 15) rfl⟩⟩
theorem f_RX5_228 : zLF RX5 228 3 4 := ⟨RX3, TX3, 7, rfl, by decide, zcl_3, Or.inr ⟨"MeanCoats", List.mem_of_getElem? (i := 19) rfl⟩⟩
theorem f_RX5_241 : zLF RX5 241 4 5 := ⟨RX4, TX4, 13, rfl, by decide, zcl_4, Or.inr ⟨"MeanCoats", List.mem_of_getElem? (i := 2) rfl⟩⟩
theorem f_RX5_254 : zLF RX5 254 1 2 := ⟨RX1, TX1, 3, rfl, by decide, zcl_1, Or.inr ⟨"MeanCoats", List.mem_of_getElem? (i := 24) rfl⟩⟩
theorem f_RX5_260 : zLF RX5 260 1 1 := ⟨RX1, TX1, 3, rfl, by decide, zcl_1, Or.inr ⟨"MeanCoats", List.mem_of_getElem? (i := 23) rfl⟩⟩
theorem f_RX5_266 : zLF RX5 266 1 0 := ⟨RX1, TX1, 3, rfl, by decide, zcl_1, Or.inr ⟨"MeanCoats", List.mem_of_getElem? (i := 22) rfl⟩⟩
theorem f_RX0_9 : zLF RX0 9 0 0 := ⟨RX0, TX0, 4, rfl, by decide, zcl_0, Or.inl (zT_in 249 (by decide +kernel) rfl)⟩
theorem f_RX0_15 : zLF RX0 15 0 1 := ⟨RX0, TX0, 4, rfl, by decide, zcl_0, Or.inl (zT_in 250 (by decide +kernel) rfl)⟩
theorem f_RX0_19 : zLF RX0 19 0 2 := ⟨RX0, TX0, 4, rfl, by decide, zcl_0, Or.inl (zT_in 251 (by decide +kernel) rfl)⟩
theorem f_RX0_22 : zLF RX0 22 0 3 := ⟨RX0, TX0, 4, rfl, by decide, zcl_0, Or.inl (zT_in 252 (by decide +kernel) rfl)⟩
theorem f_RX0_25 : zLF RX0 25 4 6 := ⟨RX4, TX4, 13, rfl, by decide, zcl_4, Or.inr ⟨"MeanCoats", List.mem_of_getElem? (i := 4) rfl⟩⟩
theorem f_RX0_127 : zLF RX0 127 4 8 := ⟨RX4, TX4, 13, rfl, by decide, zcl_4, Or.inr ⟨"MeanCoats", List.mem_of_getElem? (i := 8) rfl⟩⟩
theorem f_RX0_135 : zLF RX0 135 4 9 := ⟨RX4, TX4, 13, rfl, by decide, zcl_4, Or.inr ⟨"MeanCoats", List.mem_of_getElem? (i := 10) rfl⟩⟩
theorem f_RX0_137 : zLF RX0 137 4 10 := ⟨RX4, TX4, 13, rfl, by decide, zcl_4, Or.inr ⟨"MeanCoats", List.mem_of_getElem? (i := 13) rfl⟩⟩
theorem f_RX1_9 : zLF RX1 9 1 0 := ⟨RX1, TX1, 3, rfl, by decide, zcl_1, Or.inl (zT_in 269 (by decide +kernel) rfl)⟩
theorem f_RX1_15 : zLF RX1 15 1 1 := ⟨RX1, TX1, 3, rfl, by decide, zcl_1, Or.inl (zT_in 271 (by decide +kernel) rfl)⟩
theorem f_RX1_19 : zLF RX1 19 1 2 := ⟨RX1, TX1, 3, rfl, by decide, zcl_1, Or.inl (zT_in 273 (by decide +kernel) rfl)⟩
theorem f_RX2_9 : zLF RX2 9 2 0 := ⟨RX2, TX2, 5, rfl, by decide, zcl_2, Or.inl (zT_in 197 (by decide +kernel) rfl)⟩
theorem f_RX2_15 : zLF RX2 15 2 1 := ⟨RX2, TX2, 5, rfl, by decide, zcl_2, Or.inl (zT_in 198 (by decide +kernel) rfl)⟩
theorem f_RX2_18 : zLF RX2 18 2 2 := ⟨RX2, TX2, 5, rfl, by decide, zcl_2, Or.inl (zT_in 199 (by decide +kernel) rfl)⟩
theorem f_RX2_21 : zLF RX2 21 2 3 := ⟨RX2, TX2, 5, rfl, by decide, zcl_2, Or.inl (zT_in 200 (by decide +kernel) rfl)⟩
theorem f_RX2_24 : zLF RX2 24 2 4 := ⟨RX2, TX2, 5, rfl, by decide, zcl_2, Or.inl (zT_in 202 (by decide +kernel) rfl)⟩
theorem f_RX2_28 : zLF RX2 28 4 6 := ⟨RX4, TX4, 13, rfl, by decide, zcl_4, Or.inr ⟨"MeanCoats", List.mem_of_getElem? (i := 3) rfl⟩⟩
theorem f_RX2_80 : zLF RX2 80 4 3 := ⟨RX4, TX4, 13, rfl, by decide, zcl_4, Or.inr ⟨"MeanCoats", List.mem_of_getElem? (i := 1) rfl⟩⟩
theorem f_RX2_89 : zLF RX2 89 4 9 := ⟨RX4, TX4, 13, rfl, by decide, zcl_4, Or.inr ⟨"MeanCoats", List.mem_of_getElem? (i := 11) rfl⟩⟩
theorem f_RX3_9 : zLF RX3 9 3 0 := ⟨RX3, TX3, 7, rfl, by decide, zcl_3, Or.inl (zT_in 220 (by decide +kernel) rfl)⟩
theorem f_RX3_15 : zLF RX3 15 3 1 := ⟨RX3, TX3, 7, rfl, by decide, zcl_3, Or.inl (zT_in 221 (by decide +kernel) rfl)⟩
theorem f_RX3_18 : zLF RX3 18 3 2 := ⟨RX3, TX3, 7, rfl, by decide, zcl_3, Or.inl (zT_in 222 (by decide +kernel) rfl)⟩
theorem f_RX3_21 : zLF RX3 21 3 3 := ⟨RX3, TX3, 7, rfl, by decide, zcl_3, Or.inl (zT_in 223 (by decide +kernel) rfl)⟩
theorem f_RX3_24 : zLF RX3 24 3 4 := ⟨RX3, TX3, 7, rfl, by decide, zcl_3, Or.inl (zT_in 224 (by decide +kernel) rfl)⟩
theorem f_RX3_28 : zLF RX3 28 3 5 := ⟨RX3, TX3, 7, rfl, by decide, zcl_3, Or.inl (zT_in 226 (by decide +kernel) rfl)⟩
theorem f_RX3_31 : zLF RX3 31 3 6 := ⟨RX3, TX3, 7, rfl, by decide, zcl_3, Or.inl (zT_in 227 (by decide +kernel) rfl)⟩
theorem f_RX4_9 : zLF RX4 9 4 0 := ⟨RX4, TX4, 13, rfl, by decide, zcl_4, Or.inl (zT_in 135 (by decide +kernel) rfl)⟩
theorem f_RX4_15 : zLF RX4 15 4 1 := ⟨RX4, TX4, 13, rfl, by decide, zcl_4, Or.inl (zT_in 136 (by decide +kernel) rfl)⟩
theorem f_RX4_18 : zLF RX4 18 4 2 := ⟨RX4, TX4, 13, rfl, by decide, zcl_4, Or.inl (zT_in 137 (by decide +kernel) rfl)⟩
theorem f_RX4_21 : zLF RX4 21 4 3 := ⟨RX4, TX4, 13, rfl, by decide, zcl_4, Or.inl (zT_in 138 (by decide +kernel) rfl)⟩
theorem f_RX4_24 : zLF RX4 24 4 4 := ⟨RX4, TX4, 13, rfl, by decide, zcl_4, Or.inl (zT_in 140 (by decide +kernel) rfl)⟩
theorem f_RX4_27 : zLF RX4 27 4 5 := ⟨RX4, TX4, 13, rfl, by decide, zcl_4, Or.inl (zT_in 141 (by decide +kernel) rfl)⟩
theorem f_RX4_30 : zLF RX4 30 4 6 := ⟨RX4, TX4, 13, rfl, by decide, zcl_4, Or.inl (zT_in 143 (by decide +kernel) rfl)⟩
theorem f_RX4_34 : zLF RX4 34 4 7 := ⟨RX4, TX4, 13, rfl, by decide, zcl_4, Or.inl (zT_in 147 (by decide +kernel) rfl)⟩
theorem f_RX4_37 : zLF RX4 37 4 8 := ⟨RX4, TX4, 13, rfl, by decide, zcl_4, Or.inl (zT_in 149 (by decide +kernel) rfl)⟩
theorem f_RX4_40 : zLF RX4 40 4 9 := ⟨RX4, TX4, 13, rfl, by decide, zcl_4, Or.inl (zT_in 152 (by decide +kernel) rfl)⟩
theorem f_RX4_43 : zLF RX4 43 4 10 := ⟨RX4, TX4, 13, rfl, by decide, zcl_4, Or.inl (zT_in 156 (by decide +kernel) rfl)⟩
theorem f_RX4_46 : zLF RX4 46 4 11 := ⟨RX4, TX4, 13, rfl, by decide, zcl_4, Or.inl (zT_in 159 (by decide +kernel) rfl)⟩
theorem f_RX4_49 : zLF RX4 49 4 12 := ⟨RX4, TX4, 13, rfl, by decide, zcl_4, Or.inl (zT_in 161 (by decide +kernel) rfl)⟩
theorem f_RX6_9 : zLF RX6 9 6 0 := ⟨RX6, TX6, 27, rfl, by decide, zcl_6, Or.inl (zT_in 952 (by decide +kernel) rfl)⟩
theorem f_RX6_13 : zLF RX6 13 6 1 := ⟨RX6, TX6, 27, rfl, by decide, zcl_6, Or.inl (zT_in 953 (by decide +kernel) rfl)⟩
theorem f_RX6_16 : zLF RX6 16 6 3 := ⟨RX6, TX6, 27, rfl, by decide, zcl_6, Or.inl (zT_in 955 (by decide +kernel) rfl)⟩
theorem f_RX6_19 : zLF RX6 19 6 4 := ⟨RX6, TX6, 27, rfl, by decide, zcl_6, Or.inl (zT_in 956 (by decide +kernel) rfl)⟩
theorem f_RX6_22 : zLF RX6 22 6 5 := ⟨RX6, TX6, 27, rfl, by decide, zcl_6, Or.inl (zT_in 957 (by decide +kernel) rfl)⟩
theorem f_RX6_25 : zLF RX6 25 6 6 := ⟨RX6, TX6, 27, rfl, by decide, zcl_6, Or.inl (zT_in 958 (by decide +kernel) rfl)⟩
theorem f_RX6_28 : zLF RX6 28 6 8 := ⟨RX6, TX6, 27, rfl, by decide, zcl_6, Or.inl (zT_in 960 (by decide +kernel) rfl)⟩
theorem f_RX6_31 : zLF RX6 31 6 11 := ⟨RX6, TX6, 27, rfl, by decide, zcl_6, Or.inl (zT_in 963 (by decide +kernel) rfl)⟩
theorem f_RX6_50 : zLF RX6 50 6 18 := ⟨RX6, TX6, 27, rfl, by decide, zcl_6, Or.inl (zT_in 970 (by decide +kernel) rfl)⟩
theorem f_RX6_60 : zLF RX6 60 6 19 := ⟨RX6, TX6, 27, rfl, by decide, zcl_6, Or.inl (zT_in 971 (by decide +kernel) rfl)⟩
theorem f_RX6_63 : zLF RX6 63 6 20 := ⟨RX6, TX6, 27, rfl, by decide, zcl_6, Or.inl (zT_in 972 (by decide +kernel) rfl)⟩
theorem f_RX6_66 : zLF RX6 66 6 23 := ⟨RX6, TX6, 27, rfl, by decide, zcl_6, Or.inl (zT_in 975 (by decide +kernel) rfl)⟩
theorem f_RX6_69 : zLF RX6 69 6 24 := ⟨RX6, TX6, 27, rfl, by decide, zcl_6, Or.inl (zT_in 976 (by decide +kernel) rfl)⟩
theorem f_RX6_72 : zLF RX6 72 6 25 := ⟨RX6, TX6, 27, rfl, by decide, zcl_6, Or.inl (zT_in 977 (by decide +kernel) rfl)⟩
theorem f_RX6_75 : zLF RX6 75 6 26 := ⟨RX6, TX6, 27, rfl, by decide, zcl_6, Or.inl (zT_in 978 (by decide +kernel) rfl)⟩
theorem f_RX6_118 : zLF RX6 118 6 7 := ⟨RX6, TX6, 27, rfl, by decide, zcl_6, Or.inl (zT_in 959 (by decide +kernel) rfl)⟩
theorem f_RX6_197 : zLF RX6 197 6 9 := ⟨RX6, TX6, 27, rfl, by decide, zcl_6, Or.inl (zT_in 961 (by decide +kernel) rfl)⟩
theorem f_RX6_200 : zLF RX6 200 6 10 := ⟨RX6, TX6, 27, rfl, by decide, zcl_6, Or.inl (zT_in 962 (by decide +kernel) rfl)⟩
theorem f_RX6_213 : zLF RX6 213 6 12 := ⟨RX6, TX6, 27, rfl, by decide, zcl_6, Or.inl (zT_in 964 (by decide +kernel) rfl)⟩
theorem f_RX6_216 : zLF RX6 216 6 14 := ⟨RX6, TX6, 27, rfl, by decide, zcl_6, Or.inl (zT_in 966 (by decide +kernel) rfl)⟩
theorem f_RX6_219 : zLF RX6 219 6 13 := ⟨RX6, TX6, 27, rfl, by decide, zcl_6, Or.inl (zT_in 965 (by decide +kernel) rfl)⟩
theorem f_RX6_225 : zLF RX6 225 6 16 := ⟨RX6, TX6, 27, rfl, by decide, zcl_6, Or.inl (zT_in 968 (by decide +kernel) rfl)⟩
theorem f_RX6_228 : zLF RX6 228 6 15 := ⟨RX6, TX6, 27, rfl, by decide, zcl_6, Or.inl (zT_in 967 (by decide +kernel) rfl)⟩
theorem f_RX6_238 : zLF RX6 238 6 17 := ⟨RX6, TX6, 27, rfl, by decide, zcl_6, Or.inl (zT_in 969 (by decide +kernel) rfl)⟩
theorem f_RX6_253 : zLF RX6 253 6 21 := ⟨RX6, TX6, 27, rfl, by decide, zcl_6, Or.inl (zT_in 973 (by decide +kernel) rfl)⟩
theorem f_RX6_272 : zLF RX6 272 6 22 := ⟨RX6, TX6, 27, rfl, by decide, zcl_6, Or.inl (zT_in 974 (by decide +kernel) rfl)⟩
theorem f_RX6_304 : zLF RX6 304 6 2 := ⟨RX6, TX6, 27, rfl, by decide, zcl_6, Or.inl (zT_in 954 (by decide +kernel) rfl)⟩
theorem ls_RX5_61 : zLS RX5 61 yX5_isKind cX5_isKind 1 (some .boolean) 1 := ⟨Or.inl (zT_in 317 (by decide +kernel) rfl), zT_in 319 (by decide +kernel) rfl, zT_in 107 (by decide +kernel) rfl, ⟨by decide +kernel, by decide +kernel, by decide +kernel⟩, zT_in 318 (by decide +kernel) rfl⟩
theorem lv_RX5_65 : zLV RX5 65 yX5_finding cX5_finding 2 (some .int) 1 := ⟨Or.inl (zT_in 323 (by decide +kernel) rfl), zT_in 326 (by decide +kernel) rfl, zT_in 107 (by decide +kernel) rfl, ⟨by decide +kernel, by decide +kernel, by decide +kernel⟩, zT_in 325 (by decide +kernel) rfl, zT_in 0 (by decide +kernel) rfl⟩
theorem lv_RX5_73 : zLV RX5 73 yX4_add cX4_add 6 (some .int) 4 := ⟨Or.inr ⟨"MeanCoats", List.mem_of_getElem? (i := 25) rfl⟩, zT_in 331 (by decide +kernel) rfl, zT_in 108 (by decide +kernel) rfl, ⟨by decide +kernel, by decide +kernel, by decide +kernel⟩, zT_in 330 (by decide +kernel) rfl, zT_in 1 (by decide +kernel) rfl⟩
theorem lv_RX5_77 : zLV RX5 77 yX5_isBody cX5_isBody 2 (some .boolean) 1 := ⟨Or.inl (zT_in 336 (by decide +kernel) rfl), zT_in 339 (by decide +kernel) rfl, zT_in 107 (by decide +kernel) rfl, ⟨by decide +kernel, by decide +kernel, by decide +kernel⟩, zT_in 338 (by decide +kernel) rfl, zT_in 2 (by decide +kernel) rfl⟩
theorem ls_RX5_80 : zLS RX5 80 yX5_within cX5_within 3 (some .boolean) 3 := ⟨Or.inl (zT_in 320 (by decide +kernel) rfl), zT_in 322 (by decide +kernel) rfl, zT_in 107 (by decide +kernel) rfl, ⟨by decide +kernel, by decide +kernel, by decide +kernel⟩, zT_in 321 (by decide +kernel) rfl⟩
theorem lv_RX5_84 : zLV RX5 84 yX4_tell cX4_tell 3 (some .int) 2 := ⟨Or.inr ⟨"MeanCoats", List.mem_of_getElem? (i := 26) rfl⟩, zT_in 343 (by decide +kernel) rfl, zT_in 108 (by decide +kernel) rfl, ⟨by decide +kernel, by decide +kernel, by decide +kernel⟩, zT_in 342 (by decide +kernel) rfl, zT_in 3 (by decide +kernel) rfl⟩
theorem ls_RX5_88 : zLS RX5 88 yX4_mayBecome cX4_mayBecome 2 (some .boolean) 2 := ⟨Or.inr ⟨"MeanCoats", List.mem_of_getElem? (i := 29) rfl⟩, zT_in 378 (by decide +kernel) rfl, zT_in 108 (by decide +kernel) rfl, ⟨by decide +kernel, by decide +kernel, by decide +kernel⟩, zT_in 377 (by decide +kernel) rfl⟩
theorem lv_RX5_92 : zLV RX5 92 yX4_put cX4_put 4 none 3 := ⟨Or.inr ⟨"MeanCoats", List.mem_of_getElem? (i := 32) rfl⟩, zT_in 384 (by decide +kernel) rfl, zT_in 108 (by decide +kernel) rfl, ⟨by decide +kernel, by decide +kernel, by decide +kernel⟩, zT_in 383 (by decide +kernel) rfl, zT_in 9 (by decide +kernel) rfl⟩
theorem lv_RX5_108 : zLV RX5 108 yX4_isHere cX4_isHere 2 (some .boolean) 1 := ⟨Or.inr ⟨"MeanCoats", List.mem_of_getElem? (i := 33) rfl⟩, zT_in 364 (by decide +kernel) rfl, zT_in 108 (by decide +kernel) rfl, ⟨by decide +kernel, by decide +kernel, by decide +kernel⟩, zT_in 363 (by decide +kernel) rfl, zT_in 7 (by decide +kernel) rfl⟩
theorem lv_RX5_111 : zLV RX5 111 yX4_inchesOf cX4_inchesOf 3 (some .int) 2 := ⟨Or.inr ⟨"MeanCoats", List.mem_of_getElem? (i := 34) rfl⟩, zT_in 355 (by decide +kernel) rfl, zT_in 108 (by decide +kernel) rfl, ⟨by decide +kernel, by decide +kernel, by decide +kernel⟩, zT_in 354 (by decide +kernel) rfl, zT_in 6 (by decide +kernel) rfl⟩
theorem lm_RX5_114 : zLM RX5 114 Lib.Math.max.name Lib.Math.max.code 2 := ⟨zT_in 411 (by decide +kernel) rfl, zT_in 412 (by decide +kernel) rfl, zT_in 114 (by decide +kernel) rfl, zT_in 413 (by decide +kernel) rfl⟩
theorem lv_RX5_119 : zLV RX5 119 yX4_setInches cX4_setInches 4 none 3 := ⟨Or.inr ⟨"MeanCoats", List.mem_of_getElem? (i := 35) rfl⟩, zT_in 388 (by decide +kernel) rfl, zT_in 108 (by decide +kernel) rfl, ⟨by decide +kernel, by decide +kernel, by decide +kernel⟩, zT_in 387 (by decide +kernel) rfl, zT_in 10 (by decide +kernel) rfl⟩
theorem ls_RX5_122 : zLS RX5 122 yX5_isMeasure cX5_isMeasure 1 (some .boolean) 1 := ⟨Or.inl (zT_in 419 (by decide +kernel) rfl), zT_in 421 (by decide +kernel) rfl, zT_in 107 (by decide +kernel) rfl, ⟨by decide +kernel, by decide +kernel, by decide +kernel⟩, zT_in 420 (by decide +kernel) rfl⟩
theorem lv_RX5_125 : zLV RX5 125 yX5_cutForAllHere cX5_cutForAllHere 1 (some .boolean) 0 := ⟨Or.inl (zT_in 422 (by decide +kernel) rfl), zT_in 425 (by decide +kernel) rfl, zT_in 107 (by decide +kernel) rfl, ⟨by decide +kernel, by decide +kernel, by decide +kernel⟩, zT_in 424 (by decide +kernel) rfl, zT_in 11 (by decide +kernel) rfl⟩
theorem lv_RX5_132 : zLV RX5 132 yX2_measureAll cX2_measureAll 4 none 1 := ⟨Or.inr ⟨"MeanCoats", List.mem_of_getElem? (i := 36) rfl⟩, zT_in 429 (by decide +kernel) rfl, zT_in 109 (by decide +kernel) rfl, ⟨by decide +kernel, by decide +kernel, by decide +kernel⟩, zT_in 428 (by decide +kernel) rfl, zT_in 12 (by decide +kernel) rfl⟩
theorem lv_RX5_136 : zLV RX5 136 yX2_sumOf cX2_sumOf 5 (some .int) 2 := ⟨Or.inr ⟨"MeanCoats", List.mem_of_getElem? (i := 41) rfl⟩, zT_in 464 (by decide +kernel) rfl, zT_in 109 (by decide +kernel) rfl, ⟨by decide +kernel, by decide +kernel, by decide +kernel⟩, zT_in 463 (by decide +kernel) rfl, zT_in 20 (by decide +kernel) rfl⟩
theorem lv_RX5_139 : zLV RX5 139 yX2_timesOf cX2_timesOf 4 (some .int) 1 := ⟨Or.inr ⟨"MeanCoats", List.mem_of_getElem? (i := 42) rfl⟩, zT_in 451 (by decide +kernel) rfl, zT_in 109 (by decide +kernel) rfl, ⟨by decide +kernel, by decide +kernel, by decide +kernel⟩, zT_in 450 (by decide +kernel) rfl, zT_in 17 (by decide +kernel) rfl⟩
theorem ls_RX5_142 : zLS RX5 142 yX5_greatestDivisor cX5_greatestDivisor 6 (some .int) 2 := ⟨Or.inl (zT_in 471 (by decide +kernel) rfl), zT_in 473 (by decide +kernel) rfl, zT_in 107 (by decide +kernel) rfl, ⟨by decide +kernel, by decide +kernel, by decide +kernel⟩, zT_in 472 (by decide +kernel) rfl⟩
theorem lv_RX5_145 : zLV RX5 145 yX2_costOf cX2_costOf 3 (some .int) 2 := ⟨Or.inr ⟨"MeanCoats", List.mem_of_getElem? (i := 43) rfl⟩, zT_in 481 (by decide +kernel) rfl, zT_in 109 (by decide +kernel) rfl, ⟨by decide +kernel, by decide +kernel, by decide +kernel⟩, zT_in 480 (by decide +kernel) rfl, zT_in 21 (by decide +kernel) rfl⟩
theorem lv_RX5_149 : zLV RX5 149 yX2_fitting cX2_fitting 5 (some .int) 2 := ⟨Or.inr ⟨"MeanCoats", List.mem_of_getElem? (i := 45) rfl⟩, zT_in 498 (by decide +kernel) rfl, zT_in 109 (by decide +kernel) rfl, ⟨by decide +kernel, by decide +kernel, by decide +kernel⟩, zT_in 497 (by decide +kernel) rfl, zT_in 23 (by decide +kernel) rfl⟩
theorem lv_RX5_152 : zLV RX5 152 yX2_farOf cX2_farOf 5 (some .int) 2 := ⟨Or.inr ⟨"MeanCoats", List.mem_of_getElem? (i := 46) rfl⟩, zT_in 485 (by decide +kernel) rfl, zT_in 109 (by decide +kernel) rfl, ⟨by decide +kernel, by decide +kernel, by decide +kernel⟩, zT_in 484 (by decide +kernel) rfl, zT_in 22 (by decide +kernel) rfl⟩
theorem lv_RX5_155 : zLV RX5 155 yX2_farOfPair cX2_farOfPair 7 (some .int) 3 := ⟨Or.inr ⟨"MeanCoats", List.mem_of_getElem? (i := 47) rfl⟩, zT_in 524 (by decide +kernel) rfl, zT_in 109 (by decide +kernel) rfl, ⟨by decide +kernel, by decide +kernel, by decide +kernel⟩, zT_in 523 (by decide +kernel) rfl, zT_in 24 (by decide +kernel) rfl⟩
theorem lv_RX5_160 : zLV RX5 160 yX5_fittingIfSent cX5_fittingIfSent 2 (some .int) 1 := ⟨Or.inl (zT_in 534 (by decide +kernel) rfl), zT_in 537 (by decide +kernel) rfl, zT_in 107 (by decide +kernel) rfl, ⟨by decide +kernel, by decide +kernel, by decide +kernel⟩, zT_in 536 (by decide +kernel) rfl, zT_in 25 (by decide +kernel) rfl⟩
theorem ls_RX5_163 : zLS RX5 163 yJ6_bitCount_0f7a4 cJ6_bitCount_0f7a4 1 (some .int) 1 := ⟨Or.inl (zT_in 542 (by decide +kernel) rfl), zT_in 544 (by decide +kernel) rfl, zT_in 115 (by decide +kernel) rfl, ⟨by decide +kernel, by decide +kernel, by decide +kernel⟩, zT_in 543 (by decide +kernel) rfl⟩
theorem lv_RX5_168 : zLV RX5 168 yX5_fittingBy cX5_fittingBy 3 (some .int) 2 := ⟨Or.inl (zT_in 538 (by decide +kernel) rfl), zT_in 541 (by decide +kernel) rfl, zT_in 107 (by decide +kernel) rfl, ⟨by decide +kernel, by decide +kernel, by decide +kernel⟩, zT_in 540 (by decide +kernel) rfl, zT_in 26 (by decide +kernel) rfl⟩
theorem lv_RX5_171 : zLV RX5 171 yX5_coatIfSized cX5_coatIfSized 4 (some .int) 3 := ⟨Or.inl (zT_in 560 (by decide +kernel) rfl), zT_in 563 (by decide +kernel) rfl, zT_in 107 (by decide +kernel) rfl, ⟨by decide +kernel, by decide +kernel, by decide +kernel⟩, zT_in 562 (by decide +kernel) rfl, zT_in 27 (by decide +kernel) rfl⟩
theorem lv_RX5_175 : zLV RX5 175 yX4_bribesHere cX4_bribesHere 2 (some .boolean) 1 := ⟨Or.inr ⟨"MeanCoats", List.mem_of_getElem? (i := 49) rfl⟩, zT_in 576 (by decide +kernel) rfl, zT_in 108 (by decide +kernel) rfl, ⟨by decide +kernel, by decide +kernel, by decide +kernel⟩, zT_in 575 (by decide +kernel) rfl, zT_in 28 (by decide +kernel) rfl⟩
theorem lv_RX5_178 : zLV RX5 178 yX5_bestBribe cX5_bestBribe 7 (some .int) 1 := ⟨Or.inl (zT_in 577 (by decide +kernel) rfl), zT_in 580 (by decide +kernel) rfl, zT_in 107 (by decide +kernel) rfl, ⟨by decide +kernel, by decide +kernel, by decide +kernel⟩, zT_in 579 (by decide +kernel) rfl, zT_in 29 (by decide +kernel) rfl⟩
theorem lv_RX5_181 : zLV RX5 181 yX5_isSettled cX5_isSettled 4 (some .boolean) 0 := ⟨Or.inl (zT_in 594 (by decide +kernel) rfl), zT_in 597 (by decide +kernel) rfl, zT_in 107 (by decide +kernel) rfl, ⟨by decide +kernel, by decide +kernel, by decide +kernel⟩, zT_in 596 (by decide +kernel) rfl, zT_in 32 (by decide +kernel) rfl⟩
theorem lv_RX5_184 : zLV RX5 184 yX4_readBribes cX4_readBribes 2 none 1 := ⟨Or.inr ⟨"MeanCoats", List.mem_of_getElem? (i := 52) rfl⟩, zT_in 605 (by decide +kernel) rfl, zT_in 108 (by decide +kernel) rfl, ⟨by decide +kernel, by decide +kernel, by decide +kernel⟩, zT_in 604 (by decide +kernel) rfl, zT_in 33 (by decide +kernel) rfl⟩
theorem lv_RX5_188 : zLV RX5 188 yX5_doRound cX5_doRound 3 none 0 := ⟨Or.inl (zT_in 609 (by decide +kernel) rfl), zT_in 612 (by decide +kernel) rfl, zT_in 107 (by decide +kernel) rfl, ⟨by decide +kernel, by decide +kernel, by decide +kernel⟩, zT_in 611 (by decide +kernel) rfl, zT_in 34 (by decide +kernel) rfl⟩
theorem lv_RX5_191 : zLV RX5 191 yX4_writeBribes cX4_writeBribes 2 none 1 := ⟨Or.inr ⟨"MeanCoats", List.mem_of_getElem? (i := 53) rfl⟩, zT_in 620 (by decide +kernel) rfl, zT_in 108 (by decide +kernel) rfl, ⟨by decide +kernel, by decide +kernel, by decide +kernel⟩, zT_in 619 (by decide +kernel) rfl, zT_in 35 (by decide +kernel) rfl⟩
theorem lv_RX5_197 : zLV RX5 197 yX4_addSpring cX4_addSpring 2 (some .int) 1 := ⟨Or.inr ⟨"MeanCoats", List.mem_of_getElem? (i := 54) rfl⟩, zT_in 628 (by decide +kernel) rfl, zT_in 108 (by decide +kernel) rfl, ⟨by decide +kernel, by decide +kernel, by decide +kernel⟩, zT_in 627 (by decide +kernel) rfl, zT_in 36 (by decide +kernel) rfl⟩
theorem lv_RX5_201 : zLV RX5 201 yX5_isSpring cX5_isSpring 2 (some .boolean) 1 := ⟨Or.inl (zT_in 633 (by decide +kernel) rfl), zT_in 636 (by decide +kernel) rfl, zT_in 107 (by decide +kernel) rfl, ⟨by decide +kernel, by decide +kernel, by decide +kernel⟩, zT_in 635 (by decide +kernel) rfl, zT_in 37 (by decide +kernel) rfl⟩
theorem lv_RX5_204 : zLV RX5 204 yX4_oldCoat cX4_oldCoat 3 (some .int) 2 := ⟨Or.inr ⟨"MeanCoats", List.mem_of_getElem? (i := 55) rfl⟩, zT_in 640 (by decide +kernel) rfl, zT_in 108 (by decide +kernel) rfl, ⟨by decide +kernel, by decide +kernel, by decide +kernel⟩, zT_in 639 (by decide +kernel) rfl, zT_in 38 (by decide +kernel) rfl⟩
theorem lv_RX5_207 : zLV RX5 207 yX5_cutsAsIn cX5_cutsAsIn 4 (some .boolean) 2 := ⟨Or.inl (zT_in 645 (by decide +kernel) rfl), zT_in 648 (by decide +kernel) rfl, zT_in 107 (by decide +kernel) rfl, ⟨by decide +kernel, by decide +kernel, by decide +kernel⟩, zT_in 647 (by decide +kernel) rfl, zT_in 39 (by decide +kernel) rfl⟩
theorem la_RX5_210 : zLA RX5 210 := ⟨zT_in 657 (by decide +kernel) rfl, zT_in 608 (by decide +kernel) rfl, zT_in 607 (by decide +kernel) rfl, zT_in 116 (by decide +kernel) rfl⟩
theorem lv_RX5_216 : zLV RX5 216 yX5_slipAll cX5_slipAll 3 none 0 := ⟨Or.inl (zT_in 658 (by decide +kernel) rfl), zT_in 661 (by decide +kernel) rfl, zT_in 107 (by decide +kernel) rfl, ⟨by decide +kernel, by decide +kernel, by decide +kernel⟩, zT_in 660 (by decide +kernel) rfl, zT_in 40 (by decide +kernel) rfl⟩
theorem lv_RX5_219 : zLV RX5 219 yX2_cutAll cX2_cutAll 4 (some .boolean) 2 := ⟨Or.inr ⟨"MeanCoats", List.mem_of_getElem? (i := 39) rfl⟩, zT_in 439 (by decide +kernel) rfl, zT_in 109 (by decide +kernel) rfl, ⟨by decide +kernel, by decide +kernel, by decide +kernel⟩, zT_in 438 (by decide +kernel) rfl, zT_in 14 (by decide +kernel) rfl⟩
theorem lv_RX5_222 : zLV RX5 222 yX5_isCoatAsBefore cX5_isCoatAsBefore 2 (some .boolean) 0 := ⟨Or.inl (zT_in 672 (by decide +kernel) rfl), zT_in 675 (by decide +kernel) rfl, zT_in 107 (by decide +kernel) rfl, ⟨by decide +kernel, by decide +kernel, by decide +kernel⟩, zT_in 674 (by decide +kernel) rfl, zT_in 43 (by decide +kernel) rfl⟩
theorem lv_RX5_231 : zLV RX5 231 yX3_add cX3_add 2 none 1 := ⟨Or.inr ⟨"MeanCoats", List.mem_of_getElem? (i := 58) rfl⟩, zT_in 687 (by decide +kernel) rfl, zT_in 110 (by decide +kernel) rfl, ⟨by decide +kernel, by decide +kernel, by decide +kernel⟩, zT_in 686 (by decide +kernel) rfl, zT_in 44 (by decide +kernel) rfl⟩
theorem lv_RX5_234 : zLV RX5 234 yX0_readItems cX0_readItems 5 (some .int) 3 := ⟨Or.inr ⟨"MeanCoats", List.mem_of_getElem? (i := 59) rfl⟩, zT_in 699 (by decide +kernel) rfl, zT_in 111 (by decide +kernel) rfl, ⟨by decide +kernel, by decide +kernel, by decide +kernel⟩, zT_in 698 (by decide +kernel) rfl, zT_in 45 (by decide +kernel) rfl⟩
theorem ls_RX5_238 : zLS RX5 238 yX5_isSpot cX5_isSpot 1 (some .boolean) 1 := ⟨Or.inl (zT_in 853 (by decide +kernel) rfl), zT_in 855 (by decide +kernel) rfl, zT_in 107 (by decide +kernel) rfl, ⟨by decide +kernel, by decide +kernel, by decide +kernel⟩, zT_in 854 (by decide +kernel) rfl⟩
theorem ls_RX5_244 : zLS RX5 244 yX5_isUnder cX5_isUnder 4 (some .boolean) 2 := ⟨Or.inl (zT_in 860 (by decide +kernel) rfl), zT_in 358 (by decide +kernel) rfl, zT_in 107 (by decide +kernel) rfl, ⟨by decide +kernel, by decide +kernel, by decide +kernel⟩, zT_in 357 (by decide +kernel) rfl⟩
theorem ls_RX5_247 : zLS RX5 247 yX5_isSheet cX5_isSheet 1 (some .boolean) 1 := ⟨Or.inl (zT_in 865 (by decide +kernel) rfl), zT_in 867 (by decide +kernel) rfl, zT_in 107 (by decide +kernel) rfl, ⟨by decide +kernel, by decide +kernel, by decide +kernel⟩, zT_in 866 (by decide +kernel) rfl⟩
theorem lv_RX5_250 : zLV RX5 250 yX1_lay cX1_lay 4 none 2 := ⟨Or.inr ⟨"MeanCoats", List.mem_of_getElem? (i := 70) rfl⟩, zT_in 871 (by decide +kernel) rfl, zT_in 112 (by decide +kernel) rfl, ⟨by decide +kernel, by decide +kernel, by decide +kernel⟩, zT_in 870 (by decide +kernel) rfl, zT_in 62 (by decide +kernel) rfl⟩
theorem lv_RX5_255 : zLV RX5 255 yX1_isMissing cX1_isMissing 1 (some .boolean) 0 := ⟨Or.inr ⟨"MeanCoats", List.mem_of_getElem? (i := 71) rfl⟩, zT_in 879 (by decide +kernel) rfl, zT_in 112 (by decide +kernel) rfl, ⟨by decide +kernel, by decide +kernel, by decide +kernel⟩, zT_in 878 (by decide +kernel) rfl, zT_in 63 (by decide +kernel) rfl⟩
theorem lv_RX5_258 : zLV RX5 258 yX1_put cX1_put 4 none 2 := ⟨Or.inr ⟨"MeanCoats", List.mem_of_getElem? (i := 72) rfl⟩, zT_in 883 (by decide +kernel) rfl, zT_in 112 (by decide +kernel) rfl, ⟨by decide +kernel, by decide +kernel, by decide +kernel⟩, zT_in 882 (by decide +kernel) rfl, zT_in 64 (by decide +kernel) rfl⟩
theorem lv_RX5_263 : zLV RX5 263 yX1_has cX1_has 3 (some .boolean) 2 := ⟨Or.inr ⟨"MeanCoats", List.mem_of_getElem? (i := 73) rfl⟩, zT_in 891 (by decide +kernel) rfl, zT_in 112 (by decide +kernel) rfl, ⟨by decide +kernel, by decide +kernel, by decide +kernel⟩, zT_in 890 (by decide +kernel) rfl, zT_in 65 (by decide +kernel) rfl⟩
theorem lv_RX5_269 : zLV RX5 269 yX1_hasMeasures cX1_hasMeasures 2 (some .boolean) 1 := ⟨Or.inr ⟨"MeanCoats", List.mem_of_getElem? (i := 74) rfl⟩, zT_in 899 (by decide +kernel) rfl, zT_in 112 (by decide +kernel) rfl, ⟨by decide +kernel, by decide +kernel, by decide +kernel⟩, zT_in 898 (by decide +kernel) rfl, zT_in 66 (by decide +kernel) rfl⟩
theorem lv_RX5_272 : zLV RX5 272 yX4_become cX4_become 2 none 1 := ⟨Or.inr ⟨"MeanCoats", List.mem_of_getElem? (i := 76) rfl⟩, zT_in 913 (by decide +kernel) rfl, zT_in 108 (by decide +kernel) rfl, ⟨by decide +kernel, by decide +kernel, by decide +kernel⟩, zT_in 912 (by decide +kernel) rfl, zT_in 67 (by decide +kernel) rfl⟩
theorem lv_RX5_275 : zLV RX5 275 yX4_spotsHeld cX4_spotsHeld 3 (some .int) 0 := ⟨Or.inr ⟨"MeanCoats", List.mem_of_getElem? (i := 77) rfl⟩, zT_in 929 (by decide +kernel) rfl, zT_in 108 (by decide +kernel) rfl, ⟨by decide +kernel, by decide +kernel, by decide +kernel⟩, zT_in 928 (by decide +kernel) rfl, zT_in 68 (by decide +kernel) rfl⟩
theorem lv_RX5_283 : zLV RX5 283 yX2_cutOne cX2_cutOne 4 (some .int) 3 := ⟨Or.inr ⟨"MeanCoats", List.mem_of_getElem? (i := 48) rfl⟩, zT_in 443 (by decide +kernel) rfl, zT_in 109 (by decide +kernel) rfl, ⟨by decide +kernel, by decide +kernel, by decide +kernel⟩, zT_in 442 (by decide +kernel) rfl, zT_in 15 (by decide +kernel) rfl⟩
theorem lv_RX5_286 : zLV RX5 286 yX4_draw cX4_draw 1 (some .int) 0 := ⟨Or.inr ⟨"MeanCoats", List.mem_of_getElem? (i := 56) rfl⟩, zT_in 665 (by decide +kernel) rfl, zT_in 108 (by decide +kernel) rfl, ⟨by decide +kernel, by decide +kernel, by decide +kernel⟩, zT_in 664 (by decide +kernel) rfl, zT_in 41 (by decide +kernel) rfl⟩
theorem lv_RX5_289 : zLV RX5 289 yX2_slip cX2_slip 4 none 3 := ⟨Or.inr ⟨"MeanCoats", List.mem_of_getElem? (i := 57) rfl⟩, zT_in 670 (by decide +kernel) rfl, zT_in 109 (by decide +kernel) rfl, ⟨by decide +kernel, by decide +kernel, by decide +kernel⟩, zT_in 669 (by decide +kernel) rfl, zT_in 42 (by decide +kernel) rfl⟩
theorem lv_RX5_292 : zLV RX5 292 yX4_widthAtBribe cX4_widthAtBribe 4 (some .int) 2 := ⟨Or.inr ⟨"MeanCoats", List.mem_of_getElem? (i := 50) rfl⟩, zT_in 351 (by decide +kernel) rfl, zT_in 108 (by decide +kernel) rfl, ⟨by decide +kernel, by decide +kernel, by decide +kernel⟩, zT_in 350 (by decide +kernel) rfl, zT_in 5 (by decide +kernel) rfl⟩
theorem lv_RX5_295 : zLV RX5 295 yX2_show cX2_show 4 none 3 := ⟨Or.inr ⟨"MeanCoats", List.mem_of_getElem? (i := 51) rfl⟩, zT_in 589 (by decide +kernel) rfl, zT_in 109 (by decide +kernel) rfl, ⟨by decide +kernel, by decide +kernel, by decide +kernel⟩, zT_in 588 (by decide +kernel) rfl, zT_in 31 (by decide +kernel) rfl⟩
theorem lv_RX5_298 : zLV RX5 298 yX5_costAtBribe cX5_costAtBribe 3 (some .int) 2 := ⟨Or.inl (zT_in 581 (by decide +kernel) rfl), zT_in 584 (by decide +kernel) rfl, zT_in 107 (by decide +kernel) rfl, ⟨by decide +kernel, by decide +kernel, by decide +kernel⟩, zT_in 583 (by decide +kernel) rfl, zT_in 30 (by decide +kernel) rfl⟩
theorem lv_RX0_30 : zLV RX0 30 yX3_split cX3_split 5 none 0 := ⟨Or.inr ⟨"MeanCoats", List.mem_of_getElem? (i := 60) rfl⟩, zT_in 703 (by decide +kernel) rfl, zT_in 110 (by decide +kernel) rfl, ⟨by decide +kernel, by decide +kernel, by decide +kernel⟩, zT_in 702 (by decide +kernel) rfl, zT_in 46 (by decide +kernel) rfl⟩
theorem lv_RX0_35 : zLV RX0 35 yX0_readItem cX0_readItem 5 (some .boolean) 3 := ⟨Or.inl (zT_in 712 (by decide +kernel) rfl), zT_in 715 (by decide +kernel) rfl, zT_in 111 (by decide +kernel) rfl, ⟨by decide +kernel, by decide +kernel, by decide +kernel⟩, zT_in 714 (by decide +kernel) rfl, zT_in 48 (by decide +kernel) rfl⟩
theorem lv_RX0_39 : zLV RX0 39 yX3_begin cX3_begin 1 (some .int) 0 := ⟨Or.inr ⟨"MeanCoats", List.mem_of_getElem? (i := 68) rfl⟩, zT_in 843 (by decide +kernel) rfl, zT_in 110 (by decide +kernel) rfl, ⟨by decide +kernel, by decide +kernel, by decide +kernel⟩, zT_in 842 (by decide +kernel) rfl, zT_in 60 (by decide +kernel) rfl⟩
theorem lv_RX0_43 : zLV RX0 43 yX3_isEnd cX3_isEnd 1 (some .boolean) 0 := ⟨Or.inr ⟨"MeanCoats", List.mem_of_getElem? (i := 69) rfl⟩, zT_in 847 (by decide +kernel) rfl, zT_in 110 (by decide +kernel) rfl, ⟨by decide +kernel, by decide +kernel, by decide +kernel⟩, zT_in 846 (by decide +kernel) rfl, zT_in 61 (by decide +kernel) rfl⟩
theorem lv_RX0_47 : zLV RX0 47 yX3_isSign cX3_isSign 2 (some .boolean) 1 := ⟨Or.inr ⟨"MeanCoats", List.mem_of_getElem? (i := 65) rfl⟩, zT_in 811 (by decide +kernel) rfl, zT_in 110 (by decide +kernel) rfl, ⟨by decide +kernel, by decide +kernel, by decide +kernel⟩, zT_in 810 (by decide +kernel) rfl, zT_in 55 (by decide +kernel) rfl⟩
theorem lv_RX0_51 : zLV RX0 51 yX3_moveOn cX3_moveOn 1 none 0 := ⟨Or.inr ⟨"MeanCoats", List.mem_of_getElem? (i := 63) rfl⟩, zT_in 788 (by decide +kernel) rfl, zT_in 110 (by decide +kernel) rfl, ⟨by decide +kernel, by decide +kernel, by decide +kernel⟩, zT_in 787 (by decide +kernel) rfl, zT_in 51 (by decide +kernel) rfl⟩
theorem ls_RX0_54 : zLS RX0 54 yX0_kindTold cX0_kindTold 2 (some .int) 1 := ⟨Or.inl (zT_in 716 (by decide +kernel) rfl), zT_in 718 (by decide +kernel) rfl, zT_in 111 (by decide +kernel) rfl, ⟨by decide +kernel, by decide +kernel, by decide +kernel⟩, zT_in 717 (by decide +kernel) rfl⟩
theorem lv_RX0_58 : zLV RX0 58 yX0_readBody cX0_readBody 6 (some .boolean) 4 := ⟨Or.inl (zT_in 781 (by decide +kernel) rfl), zT_in 784 (by decide +kernel) rfl, zT_in 111 (by decide +kernel) rfl, ⟨by decide +kernel, by decide +kernel, by decide +kernel⟩, zT_in 783 (by decide +kernel) rfl, zT_in 50 (by decide +kernel) rfl⟩
theorem lv_RX0_64 : zLV RX0 64 yX3_isWord cX3_isWord 3 (some .boolean) 1 := ⟨Or.inr ⟨"MeanCoats", List.mem_of_getElem? (i := 62) rfl⟩, zT_in 732 (by decide +kernel) rfl, zT_in 110 (by decide +kernel) rfl, ⟨by decide +kernel, by decide +kernel, by decide +kernel⟩, zT_in 731 (by decide +kernel) rfl, zT_in 49 (by decide +kernel) rfl⟩
theorem lv_RX0_68 : zLV RX0 68 yX0_readRule cX0_readRule 5 (some .boolean) 3 := ⟨Or.inl (zT_in 820 (by decide +kernel) rfl), zT_in 823 (by decide +kernel) rfl, zT_in 111 (by decide +kernel) rfl, ⟨by decide +kernel, by decide +kernel, by decide +kernel⟩, zT_in 822 (by decide +kernel) rfl, zT_in 57 (by decide +kernel) rfl⟩
theorem lv_RX0_73 : zLV RX0 73 yX0_readEase cX0_readEase 5 (some .boolean) 3 := ⟨Or.inl (zT_in 831 (by decide +kernel) rfl), zT_in 834 (by decide +kernel) rfl, zT_in 111 (by decide +kernel) rfl, ⟨by decide +kernel, by decide +kernel, by decide +kernel⟩, zT_in 833 (by decide +kernel) rfl, zT_in 58 (by decide +kernel) rfl⟩
theorem lv_RX0_78 : zLV RX0 78 yX0_readPrice cX0_readPrice 5 (some .boolean) 3 := ⟨Or.inl (zT_in 836 (by decide +kernel) rfl), zT_in 839 (by decide +kernel) rfl, zT_in 111 (by decide +kernel) rfl, ⟨by decide +kernel, by decide +kernel, by decide +kernel⟩, zT_in 838 (by decide +kernel) rfl, zT_in 59 (by decide +kernel) rfl⟩
theorem ls_RX0_81 : zLS RX0 81 yX0_nameOf cX0_nameOf 1 (some (.object "java/lang/String")) 1 := ⟨Or.inl (zT_in 719 (by decide +kernel) rfl), zT_in 721 (by decide +kernel) rfl, zT_in 111 (by decide +kernel) rfl, ⟨by decide +kernel, by decide +kernel, by decide +kernel⟩, zT_in 720 (by decide +kernel) rfl⟩
theorem lv_RX0_99 : zLV RX0 99 yX0_readMeasures cX0_readMeasures 3 (some .boolean) 1 := ⟨Or.inl (zT_in 789 (by decide +kernel) rfl), zT_in 792 (by decide +kernel) rfl, zT_in 111 (by decide +kernel) rfl, ⟨by decide +kernel, by decide +kernel, by decide +kernel⟩, zT_in 791 (by decide +kernel) rfl, zT_in 52 (by decide +kernel) rfl⟩
theorem lv_RX0_103 : zLV RX0 103 yX0_readBribe cX0_readBribe 4 (some .boolean) 1 := ⟨Or.inl (zT_in 803 (by decide +kernel) rfl), zT_in 806 (by decide +kernel) rfl, zT_in 111 (by decide +kernel) rfl, ⟨by decide +kernel, by decide +kernel, by decide +kernel⟩, zT_in 805 (by decide +kernel) rfl, zT_in 54 (by decide +kernel) rfl⟩
theorem lv_RX0_106 : zLV RX0 106 yX0_readPins cX0_readPins 2 (some .boolean) 1 := ⟨Or.inl (zT_in 812 (by decide +kernel) rfl), zT_in 815 (by decide +kernel) rfl, zT_in 111 (by decide +kernel) rfl, ⟨by decide +kernel, by decide +kernel, by decide +kernel⟩, zT_in 814 (by decide +kernel) rfl, zT_in 56 (by decide +kernel) rfl⟩
theorem lv_RX0_109 : zLV RX0 109 yX4_add cX4_add 6 (some .int) 4 := ⟨Or.inr ⟨"MeanCoats", List.mem_of_getElem? (i := 66) rfl⟩, zT_in 331 (by decide +kernel) rfl, zT_in 108 (by decide +kernel) rfl, ⟨by decide +kernel, by decide +kernel, by decide +kernel⟩, zT_in 330 (by decide +kernel) rfl, zT_in 1 (by decide +kernel) rfl⟩
theorem lv_RX0_113 : zLV RX0 113 yX4_put cX4_put 4 none 3 := ⟨Or.inr ⟨"MeanCoats", List.mem_of_getElem? (i := 67) rfl⟩, zT_in 384 (by decide +kernel) rfl, zT_in 108 (by decide +kernel) rfl, ⟨by decide +kernel, by decide +kernel, by decide +kernel⟩, zT_in 383 (by decide +kernel) rfl, zT_in 9 (by decide +kernel) rfl⟩
theorem ls_RX0_117 : zLS RX0 117 yX0_takeNumber cX0_takeNumber 4 (some .int) 3 := ⟨Or.inl (zT_in 793 (by decide +kernel) rfl), zT_in 795 (by decide +kernel) rfl, zT_in 111 (by decide +kernel) rfl, ⟨by decide +kernel, by decide +kernel, by decide +kernel⟩, zT_in 794 (by decide +kernel) rfl⟩
theorem ls_RX0_124 : zLS RX0 124 yX0_ruleTold cX0_ruleTold 1 (some .int) 1 := ⟨Or.inl (zT_in 824 (by decide +kernel) rfl), zT_in 826 (by decide +kernel) rfl, zT_in 111 (by decide +kernel) rfl, ⟨by decide +kernel, by decide +kernel, by decide +kernel⟩, zT_in 825 (by decide +kernel) rfl⟩
theorem lv_RX0_139 : zLV RX0 139 yX3_numberWithin cX3_numberWithin 5 (some .int) 2 := ⟨Or.inr ⟨"MeanCoats", List.mem_of_getElem? (i := 64) rfl⟩, zT_in 799 (by decide +kernel) rfl, zT_in 110 (by decide +kernel) rfl, ⟨by decide +kernel, by decide +kernel, by decide +kernel⟩, zT_in 798 (by decide +kernel) rfl, zT_in 53 (by decide +kernel) rfl⟩
theorem lv_RX1_22 : zLV RX1 22 yX1_has cX1_has 3 (some .boolean) 2 := ⟨Or.inl (zT_in 900 (by decide +kernel) rfl), zT_in 891 (by decide +kernel) rfl, zT_in 112 (by decide +kernel) rfl, ⟨by decide +kernel, by decide +kernel, by decide +kernel⟩, zT_in 890 (by decide +kernel) rfl, zT_in 65 (by decide +kernel) rfl⟩
theorem ls_RX1_26 : zLS RX1 26 yX5_within cX5_within 3 (some .boolean) 3 := ⟨Or.inr ⟨"MeanCoats", List.mem_of_getElem? (i := 75) rfl⟩, zT_in 322 (by decide +kernel) rfl, zT_in 107 (by decide +kernel) rfl, ⟨by decide +kernel, by decide +kernel, by decide +kernel⟩, zT_in 321 (by decide +kernel) rfl⟩
theorem lv_RX2_31 : zLV RX2 31 yX4_timesOf cX4_timesOf 2 (some .int) 1 := ⟨Or.inr ⟨"MeanCoats", List.mem_of_getElem? (i := 37) rfl⟩, zT_in 371 (by decide +kernel) rfl, zT_in 108 (by decide +kernel) rfl, ⟨by decide +kernel, by decide +kernel, by decide +kernel⟩, zT_in 370 (by decide +kernel) rfl, zT_in 8 (by decide +kernel) rfl⟩
theorem lv_RX2_35 : zLV RX2 35 yX4_measuredOf cX4_measuredOf 4 (some .int) 2 := ⟨Or.inr ⟨"MeanCoats", List.mem_of_getElem? (i := 38) rfl⟩, zT_in 347 (by decide +kernel) rfl, zT_in 108 (by decide +kernel) rfl, ⟨by decide +kernel, by decide +kernel, by decide +kernel⟩, zT_in 346 (by decide +kernel) rfl, zT_in 4 (by decide +kernel) rfl⟩
theorem lv_RX2_39 : zLV RX2 39 yX2_arrange cX2_arrange 6 none 1 := ⟨Or.inl (zT_in 432 (by decide +kernel) rfl), zT_in 435 (by decide +kernel) rfl, zT_in 109 (by decide +kernel) rfl, ⟨by decide +kernel, by decide +kernel, by decide +kernel⟩, zT_in 434 (by decide +kernel) rfl, zT_in 13 (by decide +kernel) rfl⟩
theorem lv_RX2_43 : zLV RX2 43 yX2_show cX2_show 4 none 3 := ⟨Or.inl (zT_in 671 (by decide +kernel) rfl), zT_in 589 (by decide +kernel) rfl, zT_in 109 (by decide +kernel) rfl, ⟨by decide +kernel, by decide +kernel, by decide +kernel⟩, zT_in 588 (by decide +kernel) rfl, zT_in 31 (by decide +kernel) rfl⟩
theorem lv_RX2_47 : zLV RX2 47 yX2_cutOne cX2_cutOne 4 (some .int) 3 := ⟨Or.inl (zT_in 440 (by decide +kernel) rfl), zT_in 443 (by decide +kernel) rfl, zT_in 109 (by decide +kernel) rfl, ⟨by decide +kernel, by decide +kernel, by decide +kernel⟩, zT_in 442 (by decide +kernel) rfl, zT_in 15 (by decide +kernel) rfl⟩
theorem lv_RX2_51 : zLV RX2 51 yX2_middleOf cX2_middleOf 7 (some .int) 2 := ⟨Or.inl (zT_in 444 (by decide +kernel) rfl), zT_in 447 (by decide +kernel) rfl, zT_in 109 (by decide +kernel) rfl, ⟨by decide +kernel, by decide +kernel, by decide +kernel⟩, zT_in 446 (by decide +kernel) rfl, zT_in 16 (by decide +kernel) rfl⟩
theorem lv_RX2_54 : zLV RX2 54 yX2_greatestOf cX2_greatestOf 6 (some .int) 2 := ⟨Or.inl (zT_in 453 (by decide +kernel) rfl), zT_in 456 (by decide +kernel) rfl, zT_in 109 (by decide +kernel) rfl, ⟨by decide +kernel, by decide +kernel, by decide +kernel⟩, zT_in 455 (by decide +kernel) rfl, zT_in 18 (by decide +kernel) rfl⟩
theorem lv_RX2_57 : zLV RX2 57 yX2_cutMeanOf cX2_cutMeanOf 4 (some .int) 2 := ⟨Or.inl (zT_in 457 (by decide +kernel) rfl), zT_in 460 (by decide +kernel) rfl, zT_in 109 (by decide +kernel) rfl, ⟨by decide +kernel, by decide +kernel, by decide +kernel⟩, zT_in 459 (by decide +kernel) rfl, zT_in 19 (by decide +kernel) rfl⟩
theorem lv_RX2_60 : zLV RX2 60 yX2_timesOf cX2_timesOf 4 (some .int) 1 := ⟨Or.inl (zT_in 448 (by decide +kernel) rfl), zT_in 451 (by decide +kernel) rfl, zT_in 109 (by decide +kernel) rfl, ⟨by decide +kernel, by decide +kernel, by decide +kernel⟩, zT_in 450 (by decide +kernel) rfl, zT_in 17 (by decide +kernel) rfl⟩
theorem lv_RX2_61 : zLV RX2 61 yX2_sumOf cX2_sumOf 5 (some .int) 2 := ⟨Or.inl (zT_in 461 (by decide +kernel) rfl), zT_in 464 (by decide +kernel) rfl, zT_in 109 (by decide +kernel) rfl, ⟨by decide +kernel, by decide +kernel, by decide +kernel⟩, zT_in 463 (by decide +kernel) rfl, zT_in 20 (by decide +kernel) rfl⟩
theorem ls_RX2_64 : zLS RX2 64 yX5_holds cX5_holds 2 (some .boolean) 2 := ⟨Or.inr ⟨"MeanCoats", List.mem_of_getElem? (i := 40) rfl⟩, zT_in 367 (by decide +kernel) rfl, zT_in 107 (by decide +kernel) rfl, ⟨by decide +kernel, by decide +kernel, by decide +kernel⟩, zT_in 366 (by decide +kernel) rfl⟩
theorem lv_RX2_68 : zLV RX2 68 yX4_inchesOf cX4_inchesOf 3 (some .int) 2 := ⟨Or.inr ⟨"MeanCoats", List.mem_of_getElem? (i := 44) rfl⟩, zT_in 355 (by decide +kernel) rfl, zT_in 108 (by decide +kernel) rfl, ⟨by decide +kernel, by decide +kernel, by decide +kernel⟩, zT_in 354 (by decide +kernel) rfl, zT_in 6 (by decide +kernel) rfl⟩
theorem lm_RX2_71 : zLM RX2 71 Lib.Math.abs.name Lib.Math.abs.code 1 := ⟨zT_in 487 (by decide +kernel) rfl, zT_in 488 (by decide +kernel) rfl, zT_in 114 (by decide +kernel) rfl, zT_in 489 (by decide +kernel) rfl⟩
theorem lv_RX2_76 : zLV RX2 76 yX2_farOf cX2_farOf 5 (some .int) 2 := ⟨Or.inl (zT_in 482 (by decide +kernel) rfl), zT_in 485 (by decide +kernel) rfl, zT_in 109 (by decide +kernel) rfl, ⟨by decide +kernel, by decide +kernel, by decide +kernel⟩, zT_in 484 (by decide +kernel) rfl, zT_in 22 (by decide +kernel) rfl⟩
theorem lm_RX2_83 : zLM RX2 83 Lib.Math.max.name Lib.Math.max.code 2 := ⟨zT_in 490 (by decide +kernel) rfl, zT_in 412 (by decide +kernel) rfl, zT_in 114 (by decide +kernel) rfl, zT_in 413 (by decide +kernel) rfl⟩
theorem lv_RX2_86 : zLV RX2 86 yX2_costOf cX2_costOf 3 (some .int) 2 := ⟨Or.inl (zT_in 499 (by decide +kernel) rfl), zT_in 481 (by decide +kernel) rfl, zT_in 109 (by decide +kernel) rfl, ⟨by decide +kernel, by decide +kernel, by decide +kernel⟩, zT_in 480 (by decide +kernel) rfl, zT_in 21 (by decide +kernel) rfl⟩
theorem ls_RX3_34 : zLS RX3 34 yX3_sortOf cX3_sortOf 1 (some .int) 1 := ⟨Or.inl (zT_in 704 (by decide +kernel) rfl), zT_in 706 (by decide +kernel) rfl, zT_in 110 (by decide +kernel) rfl, ⟨by decide +kernel, by decide +kernel, by decide +kernel⟩, zT_in 705 (by decide +kernel) rfl⟩
theorem lv_RX3_38 : zLV RX3 38 yX3_lay cX3_lay 5 none 4 := ⟨Or.inl (zT_in 708 (by decide +kernel) rfl), zT_in 711 (by decide +kernel) rfl, zT_in 110 (by decide +kernel) rfl, ⟨by decide +kernel, by decide +kernel, by decide +kernel⟩, zT_in 710 (by decide +kernel) rfl, zT_in 47 (by decide +kernel) rfl⟩
theorem ls_RX3_42 : zLS RX3 42 yX5_within cX5_within 3 (some .boolean) 3 := ⟨Or.inr ⟨"MeanCoats", List.mem_of_getElem? (i := 61) rfl⟩, zT_in 322 (by decide +kernel) rfl, zT_in 107 (by decide +kernel) rfl, ⟨by decide +kernel, by decide +kernel, by decide +kernel⟩, zT_in 321 (by decide +kernel) rfl⟩
theorem lv_RX3_46 : zLV RX3 46 yJ0_length_8abf5 cJ0_length_8abf5 1 (some .int) 0 := ⟨Or.inl (zT_in 733 (by decide +kernel) rfl), zT_in 736 (by decide +kernel) rfl, zT_in 117 (by decide +kernel) rfl, ⟨by decide +kernel, by decide +kernel, by decide +kernel⟩, zT_in 734 (by decide +kernel) rfl, zT_in 735 (by decide +kernel) rfl⟩
theorem lv_RX3_51 : zLV RX3 51 yJ0_charAt_5068e cJ0_charAt_5068e 2 (some .char) 1 := ⟨Or.inl (zT_in 743 (by decide +kernel) rfl), zT_in 746 (by decide +kernel) rfl, zT_in 117 (by decide +kernel) rfl, ⟨by decide +kernel, by decide +kernel, by decide +kernel⟩, zT_in 744 (by decide +kernel) rfl, zT_in 745 (by decide +kernel) rfl⟩
theorem lm_RX3_55 : zLM RX3 55 Lib.Math.min.name Lib.Math.min.code 2 := ⟨zT_in 800 (by decide +kernel) rfl, zT_in 801 (by decide +kernel) rfl, zT_in 114 (by decide +kernel) rfl, zT_in 802 (by decide +kernel) rfl⟩
theorem la_RX4_52 : zLA RX4 52 := ⟨zT_in 606 (by decide +kernel) rfl, zT_in 608 (by decide +kernel) rfl, zT_in 607 (by decide +kernel) rfl, zT_in 116 (by decide +kernel) rfl⟩
theorem lv_RX4_58 : zLV RX4 58 yX4_measuredOf cX4_measuredOf 4 (some .int) 2 := ⟨Or.inl (zT_in 344 (by decide +kernel) rfl), zT_in 347 (by decide +kernel) rfl, zT_in 108 (by decide +kernel) rfl, ⟨by decide +kernel, by decide +kernel, by decide +kernel⟩, zT_in 346 (by decide +kernel) rfl, zT_in 4 (by decide +kernel) rfl⟩
theorem lv_RX4_62 : zLV RX4 62 yX4_isHere cX4_isHere 2 (some .boolean) 1 := ⟨Or.inl (zT_in 361 (by decide +kernel) rfl), zT_in 364 (by decide +kernel) rfl, zT_in 108 (by decide +kernel) rfl, ⟨by decide +kernel, by decide +kernel, by decide +kernel⟩, zT_in 363 (by decide +kernel) rfl, zT_in 7 (by decide +kernel) rfl⟩
theorem lv_RX4_66 : zLV RX4 66 yX4_timesOf cX4_timesOf 2 (some .int) 1 := ⟨Or.inl (zT_in 368 (by decide +kernel) rfl), zT_in 371 (by decide +kernel) rfl, zT_in 108 (by decide +kernel) rfl, ⟨by decide +kernel, by decide +kernel, by decide +kernel⟩, zT_in 370 (by decide +kernel) rfl, zT_in 8 (by decide +kernel) rfl⟩
theorem lv_RX4_70 : zLV RX4 70 yX4_inchesOf cX4_inchesOf 3 (some .int) 2 := ⟨Or.inl (zT_in 352 (by decide +kernel) rfl), zT_in 355 (by decide +kernel) rfl, zT_in 108 (by decide +kernel) rfl, ⟨by decide +kernel, by decide +kernel, by decide +kernel⟩, zT_in 354 (by decide +kernel) rfl, zT_in 6 (by decide +kernel) rfl⟩
theorem ls_RX4_73 : zLS RX4 73 yX5_isKind cX5_isKind 1 (some .boolean) 1 := ⟨Or.inr ⟨"MeanCoats", List.mem_of_getElem? (i := 30) rfl⟩, zT_in 319 (by decide +kernel) rfl, zT_in 107 (by decide +kernel) rfl, ⟨by decide +kernel, by decide +kernel, by decide +kernel⟩, zT_in 318 (by decide +kernel) rfl⟩
theorem ls_RX4_76 : zLS RX4 76 yX5_within cX5_within 3 (some .boolean) 3 := ⟨Or.inr ⟨"MeanCoats", List.mem_of_getElem? (i := 31) rfl⟩, zT_in 322 (by decide +kernel) rfl, zT_in 107 (by decide +kernel) rfl, ⟨by decide +kernel, by decide +kernel, by decide +kernel⟩, zT_in 321 (by decide +kernel) rfl⟩
theorem lv_RX4_80 : zLV RX4 80 yX4_setInches cX4_setInches 4 none 3 := ⟨Or.inl (zT_in 385 (by decide +kernel) rfl), zT_in 388 (by decide +kernel) rfl, zT_in 108 (by decide +kernel) rfl, ⟨by decide +kernel, by decide +kernel, by decide +kernel⟩, zT_in 387 (by decide +kernel) rfl, zT_in 10 (by decide +kernel) rfl⟩
theorem ls_RX4_84 : zLS RX4 84 yX5_holds cX5_holds 2 (some .boolean) 2 := ⟨Or.inr ⟨"MeanCoats", List.mem_of_getElem? (i := 28) rfl⟩, zT_in 367 (by decide +kernel) rfl, zT_in 107 (by decide +kernel) rfl, ⟨by decide +kernel, by decide +kernel, by decide +kernel⟩, zT_in 366 (by decide +kernel) rfl⟩
theorem ls_RX4_88 : zLS RX4 88 yX5_isUnder cX5_isUnder 4 (some .boolean) 2 := ⟨Or.inr ⟨"MeanCoats", List.mem_of_getElem? (i := 27) rfl⟩, zT_in 358 (by decide +kernel) rfl, zT_in 107 (by decide +kernel) rfl, ⟨by decide +kernel, by decide +kernel, by decide +kernel⟩, zT_in 357 (by decide +kernel) rfl⟩
theorem lv_RX4_91 : zLV RX4 91 yX4_widthAtBribe cX4_widthAtBribe 4 (some .int) 2 := ⟨Or.inl (zT_in 348 (by decide +kernel) rfl), zT_in 351 (by decide +kernel) rfl, zT_in 108 (by decide +kernel) rfl, ⟨by decide +kernel, by decide +kernel, by decide +kernel⟩, zT_in 350 (by decide +kernel) rfl, zT_in 5 (by decide +kernel) rfl⟩
theorem ls_RX6_79 : zLS RX6 79 yX6_within cX6_within 3 (some .boolean) 3 := ⟨Or.inl (zT_in 1038 (by decide +kernel) rfl), zT_in 1040 (by decide +kernel) rfl, zT_in 113 (by decide +kernel) rfl, ⟨by decide +kernel, by decide +kernel, by decide +kernel⟩, zT_in 1039 (by decide +kernel) rfl⟩
theorem lv_RX6_83 : zLV RX6 83 yX6_finding cX6_finding 2 (some .int) 1 := ⟨Or.inl (zT_in 1042 (by decide +kernel) rfl), zT_in 1045 (by decide +kernel) rfl, zT_in 113 (by decide +kernel) rfl, ⟨by decide +kernel, by decide +kernel, by decide +kernel⟩, zT_in 1044 (by decide +kernel) rfl, zT_in 69 (by decide +kernel) rfl⟩
theorem lv_RX6_88 : zLV RX6 88 yX6_comes cX6_comes 7 (some .int) 4 := ⟨Or.inl (zT_in 1047 (by decide +kernel) rfl), zT_in 1050 (by decide +kernel) rfl, zT_in 113 (by decide +kernel) rfl, ⟨by decide +kernel, by decide +kernel, by decide +kernel⟩, zT_in 1049 (by decide +kernel) rfl, zT_in 70 (by decide +kernel) rfl⟩
theorem lv_RX6_92 : zLV RX6 92 yX6_bodyIs cX6_bodyIs 3 (some .int) 2 := ⟨Or.inl (zT_in 1059 (by decide +kernel) rfl), zT_in 1062 (by decide +kernel) rfl, zT_in 113 (by decide +kernel) rfl, ⟨by decide +kernel, by decide +kernel, by decide +kernel⟩, zT_in 1061 (by decide +kernel) rfl, zT_in 72 (by decide +kernel) rfl⟩
theorem lv_RX6_96 : zLV RX6 96 yX6_isBody cX6_isBody 2 (some .boolean) 1 := ⟨Or.inl (zT_in 1055 (by decide +kernel) rfl), zT_in 1058 (by decide +kernel) rfl, zT_in 113 (by decide +kernel) rfl, ⟨by decide +kernel, by decide +kernel, by decide +kernel⟩, zT_in 1057 (by decide +kernel) rfl, zT_in 71 (by decide +kernel) rfl⟩
theorem lv_RX6_100 : zLV RX6 100 yX6_countsOf cX6_countsOf 3 (some .int) 1 := ⟨Or.inl (zT_in 1063 (by decide +kernel) rfl), zT_in 1066 (by decide +kernel) rfl, zT_in 113 (by decide +kernel) rfl, ⟨by decide +kernel, by decide +kernel, by decide +kernel⟩, zT_in 1065 (by decide +kernel) rfl, zT_in 73 (by decide +kernel) rfl⟩
theorem lv_RX6_103 : zLV RX6 103 yX6_measured cX6_measured 5 (some .int) 2 := ⟨Or.inl (zT_in 1067 (by decide +kernel) rfl), zT_in 1070 (by decide +kernel) rfl, zT_in 113 (by decide +kernel) rfl, ⟨by decide +kernel, by decide +kernel, by decide +kernel⟩, zT_in 1069 (by decide +kernel) rfl, zT_in 74 (by decide +kernel) rfl⟩
theorem ls_RX6_106 : zLS RX6 106 yX6_mayBe cX6_mayBe 2 (some .boolean) 2 := ⟨Or.inl (zT_in 1075 (by decide +kernel) rfl), zT_in 1077 (by decide +kernel) rfl, zT_in 113 (by decide +kernel) rfl, ⟨by decide +kernel, by decide +kernel, by decide +kernel⟩, zT_in 1076 (by decide +kernel) rfl⟩
theorem lv_RX6_110 : zLV RX6 110 yX6_become cX6_become 4 (some .int) 2 := ⟨Or.inl (zT_in 1078 (by decide +kernel) rfl), zT_in 1081 (by decide +kernel) rfl, zT_in 113 (by decide +kernel) rfl, ⟨by decide +kernel, by decide +kernel, by decide +kernel⟩, zT_in 1080 (by decide +kernel) rfl, zT_in 75 (by decide +kernel) rfl⟩
theorem lm_RX6_113 : zLM RX6 113 Lib.Math.max.name Lib.Math.max.code 2 := ⟨zT_in 1102 (by decide +kernel) rfl, zT_in 412 (by decide +kernel) rfl, zT_in 114 (by decide +kernel) rfl, zT_in 413 (by decide +kernel) rfl⟩
theorem ls_RX6_122 : zLS RX6 122 yX6_has cX6_has 2 (some .boolean) 2 := ⟨Or.inl (zT_in 1123 (by decide +kernel) rfl), zT_in 1125 (by decide +kernel) rfl, zT_in 113 (by decide +kernel) rfl, ⟨by decide +kernel, by decide +kernel, by decide +kernel⟩, zT_in 1124 (by decide +kernel) rfl⟩
theorem lv_RX6_125 : zLV RX6 125 yX6_findRow cX6_findRow 7 none 2 := ⟨Or.inl (zT_in 1119 (by decide +kernel) rfl), zT_in 1122 (by decide +kernel) rfl, zT_in 113 (by decide +kernel) rfl, ⟨by decide +kernel, by decide +kernel, by decide +kernel⟩, zT_in 1121 (by decide +kernel) rfl, zT_in 78 (by decide +kernel) rfl⟩
theorem lv_RX6_129 : zLV RX6 129 yX6_rowSum cX6_rowSum 3 (some .int) 0 := ⟨Or.inl (zT_in 1126 (by decide +kernel) rfl), zT_in 1129 (by decide +kernel) rfl, zT_in 113 (by decide +kernel) rfl, ⟨by decide +kernel, by decide +kernel, by decide +kernel⟩, zT_in 1128 (by decide +kernel) rfl, zT_in 79 (by decide +kernel) rfl⟩
theorem lv_RX6_133 : zLV RX6 133 yX6_cutFor cX6_cutFor 3 (some .int) 2 := ⟨Or.inl (zT_in 1115 (by decide +kernel) rfl), zT_in 1118 (by decide +kernel) rfl, zT_in 113 (by decide +kernel) rfl, ⟨by decide +kernel, by decide +kernel, by decide +kernel⟩, zT_in 1117 (by decide +kernel) rfl, zT_in 77 (by decide +kernel) rfl⟩
theorem ls_RX6_136 : zLS RX6 136 yX6_isMeasure cX6_isMeasure 1 (some .boolean) 1 := ⟨Or.inl (zT_in 1107 (by decide +kernel) rfl), zT_in 1109 (by decide +kernel) rfl, zT_in 113 (by decide +kernel) rfl, ⟨by decide +kernel, by decide +kernel, by decide +kernel⟩, zT_in 1108 (by decide +kernel) rfl⟩
theorem lv_RX6_139 : zLV RX6 139 yX6_hereSet cX6_hereSet 3 (some .int) 0 := ⟨Or.inl (zT_in 1110 (by decide +kernel) rfl), zT_in 1113 (by decide +kernel) rfl, zT_in 113 (by decide +kernel) rfl, ⟨by decide +kernel, by decide +kernel, by decide +kernel⟩, zT_in 1112 (by decide +kernel) rfl, zT_in 76 (by decide +kernel) rfl⟩
theorem ls_RX6_143 : zLS RX6 143 yX6_divisor cX6_divisor 2 (some .int) 2 := ⟨Or.inl (zT_in 1134 (by decide +kernel) rfl), zT_in 1136 (by decide +kernel) rfl, zT_in 113 (by decide +kernel) rfl, ⟨by decide +kernel, by decide +kernel, by decide +kernel⟩, zT_in 1135 (by decide +kernel) rfl⟩
theorem lm_RX6_146 : zLM RX6 146 Lib.Math.abs.name Lib.Math.abs.code 1 := ⟨zT_in 1153 (by decide +kernel) rfl, zT_in 488 (by decide +kernel) rfl, zT_in 114 (by decide +kernel) rfl, zT_in 489 (by decide +kernel) rfl⟩
theorem lv_RX6_149 : zLV RX6 149 yX6_distance cX6_distance 4 (some .int) 1 := ⟨Or.inl (zT_in 1149 (by decide +kernel) rfl), zT_in 1152 (by decide +kernel) rfl, zT_in 113 (by decide +kernel) rfl, ⟨by decide +kernel, by decide +kernel, by decide +kernel⟩, zT_in 1151 (by decide +kernel) rfl, zT_in 82 (by decide +kernel) rfl⟩
theorem lv_RX6_152 : zLV RX6 152 yX6_cut cX6_cut 3 none 1 := ⟨Or.inl (zT_in 1141 (by decide +kernel) rfl), zT_in 1144 (by decide +kernel) rfl, zT_in 113 (by decide +kernel) rfl, ⟨by decide +kernel, by decide +kernel, by decide +kernel⟩, zT_in 1143 (by decide +kernel) rfl, zT_in 80 (by decide +kernel) rfl⟩
theorem lv_RX6_156 : zLV RX6 156 yX6_costOf cX6_costOf 2 (some .int) 1 := ⟨Or.inl (zT_in 1145 (by decide +kernel) rfl), zT_in 1148 (by decide +kernel) rfl, zT_in 113 (by decide +kernel) rfl, ⟨by decide +kernel, by decide +kernel, by decide +kernel⟩, zT_in 1147 (by decide +kernel) rfl, zT_in 81 (by decide +kernel) rfl⟩
theorem lv_RX6_159 : zLV RX6 159 yX6_fitOf cX6_fitOf 4 (some .int) 1 := ⟨Or.inl (zT_in 1158 (by decide +kernel) rfl), zT_in 1161 (by decide +kernel) rfl, zT_in 113 (by decide +kernel) rfl, ⟨by decide +kernel, by decide +kernel, by decide +kernel⟩, zT_in 1160 (by decide +kernel) rfl, zT_in 83 (by decide +kernel) rfl⟩
theorem lv_RX6_162 : zLV RX6 162 yX6_together cX6_together 5 (some .int) 2 := ⟨Or.inl (zT_in 1182 (by decide +kernel) rfl), zT_in 1185 (by decide +kernel) rfl, zT_in 113 (by decide +kernel) rfl, ⟨by decide +kernel, by decide +kernel, by decide +kernel⟩, zT_in 1184 (by decide +kernel) rfl, zT_in 84 (by decide +kernel) rfl⟩
theorem ls_RX6_165 : zLS RX6 165 yX6_bits cX6_bits 3 (some .int) 1 := ⟨Or.inl (zT_in 1194 (by decide +kernel) rfl), zT_in 1196 (by decide +kernel) rfl, zT_in 113 (by decide +kernel) rfl, ⟨by decide +kernel, by decide +kernel, by decide +kernel⟩, zT_in 1195 (by decide +kernel) rfl⟩
theorem lv_RX6_168 : zLV RX6 168 yX6_isAway cX6_isAway 2 (some .boolean) 1 := ⟨Or.inl (zT_in 1209 (by decide +kernel) rfl), zT_in 1212 (by decide +kernel) rfl, zT_in 113 (by decide +kernel) rfl, ⟨by decide +kernel, by decide +kernel, by decide +kernel⟩, zT_in 1211 (by decide +kernel) rfl, zT_in 85 (by decide +kernel) rfl⟩
theorem lm_RX6_172 : zLM RX6 172 Lib.Math.min.name Lib.Math.min.code 2 := ⟨zT_in 1214 (by decide +kernel) rfl, zT_in 801 (by decide +kernel) rfl, zT_in 114 (by decide +kernel) rfl, zT_in 802 (by decide +kernel) rfl⟩
theorem lv_RX6_175 : zLV RX6 175 yX6_costBy cX6_costBy 5 (some .int) 2 := ⟨Or.inl (zT_in 1231 (by decide +kernel) rfl), zT_in 1234 (by decide +kernel) rfl, zT_in 113 (by decide +kernel) rfl, ⟨by decide +kernel, by decide +kernel, by decide +kernel⟩, zT_in 1233 (by decide +kernel) rfl, zT_in 88 (by decide +kernel) rfl⟩
theorem lv_RX6_178 : zLV RX6 178 yX6_doesBribe cX6_doesBribe 2 (some .boolean) 1 := ⟨Or.inl (zT_in 1223 (by decide +kernel) rfl), zT_in 1226 (by decide +kernel) rfl, zT_in 113 (by decide +kernel) rfl, ⟨by decide +kernel, by decide +kernel, by decide +kernel⟩, zT_in 1225 (by decide +kernel) rfl, zT_in 86 (by decide +kernel) rfl⟩
theorem lv_RX6_181 : zLV RX6 181 yX6_bribeOf cX6_bribeOf 7 (some .int) 1 := ⟨Or.inl (zT_in 1227 (by decide +kernel) rfl), zT_in 1230 (by decide +kernel) rfl, zT_in 113 (by decide +kernel) rfl, ⟨by decide +kernel, by decide +kernel, by decide +kernel⟩, zT_in 1229 (by decide +kernel) rfl, zT_in 87 (by decide +kernel) rfl⟩
theorem lv_RX6_184 : zLV RX6 184 yX6_isSettled cX6_isSettled 3 (some .boolean) 0 := ⟨Or.inl (zT_in 1239 (by decide +kernel) rfl), zT_in 1242 (by decide +kernel) rfl, zT_in 113 (by decide +kernel) rfl, ⟨by decide +kernel, by decide +kernel, by decide +kernel⟩, zT_in 1241 (by decide +kernel) rfl, zT_in 89 (by decide +kernel) rfl⟩
theorem lv_RX6_188 : zLV RX6 188 yX6_keepBribes cX6_keepBribes 2 none 0 := ⟨Or.inl (zT_in 1247 (by decide +kernel) rfl), zT_in 1250 (by decide +kernel) rfl, zT_in 113 (by decide +kernel) rfl, ⟨by decide +kernel, by decide +kernel, by decide +kernel⟩, zT_in 1249 (by decide +kernel) rfl, zT_in 90 (by decide +kernel) rfl⟩
theorem lv_RX6_191 : zLV RX6 191 yX6_round cX6_round 2 none 0 := ⟨Or.inl (zT_in 1251 (by decide +kernel) rfl), zT_in 1254 (by decide +kernel) rfl, zT_in 113 (by decide +kernel) rfl, ⟨by decide +kernel, by decide +kernel, by decide +kernel⟩, zT_in 1253 (by decide +kernel) rfl, zT_in 91 (by decide +kernel) rfl⟩
theorem lv_RX6_194 : zLV RX6 194 yX6_isSpring cX6_isSpring 2 (some .boolean) 1 := ⟨Or.inl (zT_in 1267 (by decide +kernel) rfl), zT_in 1270 (by decide +kernel) rfl, zT_in 113 (by decide +kernel) rfl, ⟨by decide +kernel, by decide +kernel, by decide +kernel⟩, zT_in 1269 (by decide +kernel) rfl, zT_in 92 (by decide +kernel) rfl⟩
theorem lv_RX6_203 : zLV RX6 203 yX6_findLived cX6_findLived 6 (some .int) 1 := ⟨Or.inl (zT_in 1275 (by decide +kernel) rfl), zT_in 1278 (by decide +kernel) rfl, zT_in 113 (by decide +kernel) rfl, ⟨by decide +kernel, by decide +kernel, by decide +kernel⟩, zT_in 1277 (by decide +kernel) rfl, zT_in 93 (by decide +kernel) rfl⟩
theorem lv_RX6_207 : zLV RX6 207 yX6_drawn cX6_drawn 2 (some .int) 1 := ⟨Or.inl (zT_in 1291 (by decide +kernel) rfl), zT_in 1294 (by decide +kernel) rfl, zT_in 113 (by decide +kernel) rfl, ⟨by decide +kernel, by decide +kernel, by decide +kernel⟩, zT_in 1293 (by decide +kernel) rfl, zT_in 95 (by decide +kernel) rfl⟩
theorem lv_RX6_210 : zLV RX6 210 yX6_slip cX6_slip 3 none 0 := ⟨Or.inl (zT_in 1287 (by decide +kernel) rfl), zT_in 1290 (by decide +kernel) rfl, zT_in 113 (by decide +kernel) rfl, ⟨by decide +kernel, by decide +kernel, by decide +kernel⟩, zT_in 1289 (by decide +kernel) rfl, zT_in 94 (by decide +kernel) rfl⟩
theorem lv_RX6_222 : zLV RX6 222 yX6_byteAt cX6_byteAt 2 (some .int) 1 := ⟨Or.inl (zT_in 1316 (by decide +kernel) rfl), zT_in 1319 (by decide +kernel) rfl, zT_in 113 (by decide +kernel) rfl, ⟨by decide +kernel, by decide +kernel, by decide +kernel⟩, zT_in 1318 (by decide +kernel) rfl, zT_in 97 (by decide +kernel) rfl⟩
theorem lv_RX6_231 : zLV RX6 231 yJ0_length_8abf5 cJ0_length_8abf5 1 (some .int) 0 := ⟨Or.inl (zT_in 1332 (by decide +kernel) rfl), zT_in 736 (by decide +kernel) rfl, zT_in 117 (by decide +kernel) rfl, ⟨by decide +kernel, by decide +kernel, by decide +kernel⟩, zT_in 734 (by decide +kernel) rfl, zT_in 735 (by decide +kernel) rfl⟩
theorem lv_RX6_234 : zLV RX6 234 yJ0_charAt_5068e cJ0_charAt_5068e 2 (some .char) 1 := ⟨Or.inl (zT_in 1333 (by decide +kernel) rfl), zT_in 746 (by decide +kernel) rfl, zT_in 117 (by decide +kernel) rfl, ⟨by decide +kernel, by decide +kernel, by decide +kernel⟩, zT_in 744 (by decide +kernel) rfl, zT_in 745 (by decide +kernel) rfl⟩
theorem lv_RX6_242 : zLV RX6 242 yX6_next cX6_next 2 none 0 := ⟨Or.inl (zT_in 1312 (by decide +kernel) rfl), zT_in 1315 (by decide +kernel) rfl, zT_in 113 (by decide +kernel) rfl, ⟨by decide +kernel, by decide +kernel, by decide +kernel⟩, zT_in 1314 (by decide +kernel) rfl, zT_in 96 (by decide +kernel) rfl⟩
theorem lv_RX6_245 : zLV RX6 245 yX6_must cX6_must 2 none 1 := ⟨Or.inl (zT_in 1338 (by decide +kernel) rfl), zT_in 1341 (by decide +kernel) rfl, zT_in 113 (by decide +kernel) rfl, ⟨by decide +kernel, by decide +kernel, by decide +kernel⟩, zT_in 1340 (by decide +kernel) rfl, zT_in 102 (by decide +kernel) rfl⟩
theorem lv_RX6_249 : zLV RX6 249 yX6_isWord cX6_isWord 4 (some .boolean) 1 := ⟨Or.inl (zT_in 1328 (by decide +kernel) rfl), zT_in 1331 (by decide +kernel) rfl, zT_in 113 (by decide +kernel) rfl, ⟨by decide +kernel, by decide +kernel, by decide +kernel⟩, zT_in 1330 (by decide +kernel) rfl, zT_in 100 (by decide +kernel) rfl⟩
theorem lv_RX6_256 : zLV RX6 256 yX6_which cX6_which 4 (some .int) 1 := ⟨Or.inl (zT_in 1324 (by decide +kernel) rfl), zT_in 1327 (by decide +kernel) rfl, zT_in 113 (by decide +kernel) rfl, ⟨by decide +kernel, by decide +kernel, by decide +kernel⟩, zT_in 1326 (by decide +kernel) rfl, zT_in 99 (by decide +kernel) rfl⟩
theorem lv_RX6_260 : zLV RX6 260 yX6_readBody cX6_readBody 4 none 1 := ⟨Or.inl (zT_in 1334 (by decide +kernel) rfl), zT_in 1337 (by decide +kernel) rfl, zT_in 113 (by decide +kernel) rfl, ⟨by decide +kernel, by decide +kernel, by decide +kernel⟩, zT_in 1336 (by decide +kernel) rfl, zT_in 101 (by decide +kernel) rfl⟩
theorem lv_RX6_267 : zLV RX6 267 yX6_number cX6_number 4 (some .int) 2 := ⟨Or.inl (zT_in 1342 (by decide +kernel) rfl), zT_in 1345 (by decide +kernel) rfl, zT_in 113 (by decide +kernel) rfl, ⟨by decide +kernel, by decide +kernel, by decide +kernel⟩, zT_in 1344 (by decide +kernel) rfl, zT_in 103 (by decide +kernel) rfl⟩
theorem lv_RX6_277 : zLV RX6 277 yX6_isSign cX6_isSign 2 (some .boolean) 1 := ⟨Or.inl (zT_in 1347 (by decide +kernel) rfl), zT_in 1350 (by decide +kernel) rfl, zT_in 113 (by decide +kernel) rfl, ⟨by decide +kernel, by decide +kernel, by decide +kernel⟩, zT_in 1349 (by decide +kernel) rfl, zT_in 104 (by decide +kernel) rfl⟩
theorem lv_RX6_282 : zLV RX6 282 yX6_readItem cX6_readItem 4 none 0 := ⟨Or.inl (zT_in 1320 (by decide +kernel) rfl), zT_in 1323 (by decide +kernel) rfl, zT_in 113 (by decide +kernel) rfl, ⟨by decide +kernel, by decide +kernel, by decide +kernel⟩, zT_in 1322 (by decide +kernel) rfl, zT_in 98 (by decide +kernel) rfl⟩
theorem lv_RX6_285 : zLV RX6 285 yX6_isSo cX6_isSo 4 none 1 := ⟨Or.inl (zT_in 1355 (by decide +kernel) rfl), zT_in 1358 (by decide +kernel) rfl, zT_in 113 (by decide +kernel) rfl, ⟨by decide +kernel, by decide +kernel, by decide +kernel⟩, zT_in 1357 (by decide +kernel) rfl, zT_in 105 (by decide +kernel) rfl⟩
theorem ls_RX6_289 : zLS RX6 289 yX6_above cX6_above 1 (some .int) 1 := ⟨Or.inl (zT_in 1368 (by decide +kernel) rfl), zT_in 1370 (by decide +kernel) rfl, zT_in 113 (by decide +kernel) rfl, ⟨by decide +kernel, by decide +kernel, by decide +kernel⟩, zT_in 1369 (by decide +kernel) rfl⟩
theorem ls_RX6_293 : zLS RX6 293 yX6_isSheet cX6_isSheet 1 (some .boolean) 1 := ⟨Or.inl (zT_in 1376 (by decide +kernel) rfl), zT_in 1378 (by decide +kernel) rfl, zT_in 113 (by decide +kernel) rfl, ⟨by decide +kernel, by decide +kernel, by decide +kernel⟩, zT_in 1377 (by decide +kernel) rfl⟩
theorem ls_RX6_297 : zLS RX6 297 yX6_cutTo cX6_cutTo 2 (some .int) 2 := ⟨Or.inl (zT_in 1384 (by decide +kernel) rfl), zT_in 1386 (by decide +kernel) rfl, zT_in 113 (by decide +kernel) rfl, ⟨by decide +kernel, by decide +kernel, by decide +kernel⟩, zT_in 1385 (by decide +kernel) rfl⟩
theorem ls_RX6_300 : zLS RX6 300 yX6_copyRow cX6_copyRow 3 none 2 := ⟨Or.inl (zT_in 1403 (by decide +kernel) rfl), zT_in 1405 (by decide +kernel) rfl, zT_in 113 (by decide +kernel) rfl, ⟨by decide +kernel, by decide +kernel, by decide +kernel⟩, zT_in 1404 (by decide +kernel) rfl⟩
theorem lv_RJ0_335 : zLV RJ0 335 yJ0_coder_7d493 cJ0_coder_7d493 1 (some .byte) 0 := ⟨Or.inl (zT_in 737 (by decide +kernel) rfl), zT_in 740 (by decide +kernel) rfl, zT_in 117 (by decide +kernel) rfl, ⟨by decide +kernel, by decide +kernel, by decide +kernel⟩, zT_in 738 (by decide +kernel) rfl, zT_in 739 (by decide +kernel) rfl⟩
theorem lv_RJ0_492 : zLV RJ0 492 yJ0_isLatin1_aae02 cJ0_isLatin1_aae02 1 (some .boolean) 0 := ⟨Or.inl (zT_in 747 (by decide +kernel) rfl), zT_in 750 (by decide +kernel) rfl, zT_in 117 (by decide +kernel) rfl, ⟨by decide +kernel, by decide +kernel, by decide +kernel⟩, zT_in 748 (by decide +kernel) rfl, zT_in 749 (by decide +kernel) rfl⟩
theorem ls_RJ0_495 : zLS RJ0 495 yJ1_charAt_3b067 cJ1_charAt_3b067 2 (some .char) 2 := ⟨Or.inl (zT_in 751 (by decide +kernel) rfl), zT_in 753 (by decide +kernel) rfl, zT_in 118 (by decide +kernel) rfl, ⟨by decide +kernel, by decide +kernel, by decide +kernel⟩, zT_in 752 (by decide +kernel) rfl⟩
theorem ls_RJ0_1059 : zLS RJ0 1059 yJ3_checkIndex_8e157 cJ3_checkIndex_8e157 3 (some .int) 3 := ⟨Or.inl (zT_in 759 (by decide +kernel) rfl), zT_in 761 (by decide +kernel) rfl, zT_in 119 (by decide +kernel) rfl, ⟨by decide +kernel, by decide +kernel, by decide +kernel⟩, zT_in 760 (by decide +kernel) rfl⟩
theorem ls_RJ1_9 : zLS RJ1 9 yJ0_checkIndex_df160 cJ0_checkIndex_df160 2 none 2 := ⟨Or.inl (zT_in 754 (by decide +kernel) rfl), zT_in 756 (by decide +kernel) rfl, zT_in 117 (by decide +kernel) rfl, ⟨by decide +kernel, by decide +kernel, by decide +kernel⟩, zT_in 755 (by decide +kernel) rfl⟩
