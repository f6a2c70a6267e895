theorem in_X0 : ∀ w ∈ u_ws RX0 TX0 5, w ∈ wd_G := by
  intro w hw
  obtain ⟨k, hk, rfl⟩ := List.mem_map.mp hw
  rw [List.mem_range] at hk
  rcases (show k = 0 ∨ k = 1 ∨ k = 2 ∨ k = 3 ∨ k = 4 by omega) with rfl | rfl | rfl | rfl | rfl
  · exact k_276
  · exact k_278
  · exact k_280
  · exact k_282
  · exact k_284
theorem in_X1 : ∀ w ∈ u_ws RX1 TX1 8, w ∈ wd_G := by
  intro w hw
  obtain ⟨k, hk, rfl⟩ := List.mem_map.mp hw
  rw [List.mem_range] at hk
  rcases (show k = 0 ∨ k = 1 ∨ k = 2 ∨ k = 3 ∨ k = 4 ∨ k = 5 ∨ k = 6 ∨ k = 7 by omega) with rfl | rfl | rfl | rfl | rfl | rfl | rfl | rfl
  · exact k_202
  · exact k_204
  · exact k_206
  · exact k_208
  · exact k_210
  · exact k_212
  · exact k_214
  · exact k_216
theorem in_X2 : ∀ w ∈ u_ws RX2 TX2 3, w ∈ wd_G := by
  intro w hw
  obtain ⟨k, hk, rfl⟩ := List.mem_map.mp hw
  rw [List.mem_range] at hk
  rcases (show k = 0 ∨ k = 1 ∨ k = 2 by omega) with rfl | rfl | rfl
  · exact k_256
  · exact k_258
  · exact k_260
theorem in_X3 : ∀ w ∈ u_ws RX3 TX3 6, w ∈ wd_G := by
  intro w hw
  obtain ⟨k, hk, rfl⟩ := List.mem_map.mp hw
  rw [List.mem_range] at hk
  rcases (show k = 0 ∨ k = 1 ∨ k = 2 ∨ k = 3 ∨ k = 4 ∨ k = 5 by omega) with rfl | rfl | rfl | rfl | rfl | rfl
  · exact k_100
  · exact k_102
  · exact k_104
  · exact k_106
  · exact k_108
  · exact k_110
theorem in_X4 : ∀ w ∈ u_ws RX4 TX4 3, w ∈ wd_G := by
  intro w hw
  obtain ⟨k, hk, rfl⟩ := List.mem_map.mp hw
  rw [List.mem_range] at hk
  rcases (show k = 0 ∨ k = 1 ∨ k = 2 by omega) with rfl | rfl | rfl
  · exact k_225
  · exact k_227
  · exact k_229
theorem in_X5 : ∀ w ∈ u_ws RX5 TX5 3, w ∈ wd_G := by
  intro w hw
  obtain ⟨k, hk, rfl⟩ := List.mem_map.mp hw
  rw [List.mem_range] at hk
  rcases (show k = 0 ∨ k = 1 ∨ k = 2 by omega) with rfl | rfl | rfl
  · exact k_68
  · exact k_70
  · exact k_72
theorem in_X6 : ∀ w ∈ u_ws RX6 TX6 12, w ∈ wd_G := by
  intro w hw
  obtain ⟨k, hk, rfl⟩ := List.mem_map.mp hw
  rw [List.mem_range] at hk
  rcases (show k = 0 ∨ k = 1 ∨ k = 2 ∨ k = 3 ∨ k = 4 ∨ k = 5 ∨ k = 6 ∨ k = 7 ∨ k = 8 ∨ k = 9 ∨ k = 10 ∨ k = 11 by omega) with rfl | rfl | rfl | rfl | rfl | rfl | rfl | rfl | rfl | rfl | rfl | rfl
  · exact k_158
  · exact k_160
  · exact k_162
  · exact k_164
  · exact k_166
  · exact k_168
  · exact k_170
  · exact k_172
  · exact k_174
  · exact k_176
  · exact k_178
  · exact k_180
theorem in_X7 : ∀ w ∈ u_ws RX7 TX7 6, w ∈ wd_G := by
  intro w hw
  obtain ⟨k, hk, rfl⟩ := List.mem_map.mp hw
  rw [List.mem_range] at hk
  rcases (show k = 0 ∨ k = 1 ∨ k = 2 ∨ k = 3 ∨ k = 4 ∨ k = 5 by omega) with rfl | rfl | rfl | rfl | rfl | rfl
  · exact k_293
  · exact k_295
  · exact k_297
  · exact k_299
  · exact k_301
  · exact k_303
theorem in_X8 : ∀ w ∈ u_ws RX8 TX8 9, w ∈ wd_G := by
  intro w hw
  obtain ⟨k, hk, rfl⟩ := List.mem_map.mp hw
  rw [List.mem_range] at hk
  rcases (show k = 0 ∨ k = 1 ∨ k = 2 ∨ k = 3 ∨ k = 4 ∨ k = 5 ∨ k = 6 ∨ k = 7 ∨ k = 8 by omega) with rfl | rfl | rfl | rfl | rfl | rfl | rfl | rfl | rfl
  · exact k_623
  · exact k_625
  · exact k_627
  · exact k_629
  · exact k_631
  · exact k_633
  · exact k_635
  · exact k_637
  · exact k_639
theorem fl_X7_12 : FL RX7 12 7 0 := ⟨RX7, TX7, 6, rfl, by decide, rfl, in_X7, Or.inl k_287⟩
theorem fl_X7_19 : FL RX7 19 7 1 := ⟨RX7, TX7, 6, rfl, by decide, rfl, in_X7, Or.inl k_288⟩
theorem fl_X7_23 : FL RX7 23 7 2 := ⟨RX7, TX7, 6, rfl, by decide, rfl, in_X7, Or.inl k_289⟩
theorem fl_X7_39 : FL RX7 39 7 3 := ⟨RX7, TX7, 6, rfl, by decide, rfl, in_X7, Or.inl k_290⟩
theorem fl_X7_49 : FL RX7 49 7 4 := ⟨RX7, TX7, 6, rfl, by decide, rfl, in_X7, Or.inl k_291⟩
theorem fl_X7_56 : FL RX7 56 7 5 := ⟨RX7, TX7, 6, rfl, by decide, rfl, in_X7, Or.inl k_292⟩
theorem fl_X7_64 : FL RX7 64 5 1 := ⟨RX5, TX5, 3, rfl, by decide, rfl, in_X5, Or.inr ⟨"FileRounds", List.mem_of_getElem? (i := 1) rfl⟩⟩
theorem fl_X7_72 : FL RX7 72 3 3 := ⟨RX3, TX3, 6, rfl, by decide, rfl, in_X3, Or.inr ⟨"FileRounds", List.mem_of_getElem? (i := 9) rfl⟩⟩
theorem fl_X7_81 : FL RX7 81 4 0 := ⟨RX4, TX4, 3, rfl, by decide, rfl, in_X4, Or.inr ⟨"FileRounds", List.mem_of_getElem? (i := 32) rfl⟩⟩
theorem fl_X7_85 : FL RX7 85 6 9 := ⟨RX6, TX6, 12, rfl, by decide, rfl, in_X6, Or.inr ⟨"FileRounds", List.mem_of_getElem? (i := 23) rfl⟩⟩
theorem fl_X7_94 : FL RX7 94 6 11 := ⟨RX6, TX6, 12, rfl, by decide, rfl, in_X6, Or.inr ⟨"FileRounds", List.mem_of_getElem? (i := 25) rfl⟩⟩
theorem fl_X7_107 : FL RX7 107 6 1 := ⟨RX6, TX6, 12, rfl, by decide, rfl, in_X6, Or.inr ⟨"FileRounds", List.mem_of_getElem? (i := 15) rfl⟩⟩
theorem fl_X7_121 : FL RX7 121 4 1 := ⟨RX4, TX4, 3, rfl, by decide, rfl, in_X4, Or.inr ⟨"FileRounds", List.mem_of_getElem? (i := 33) rfl⟩⟩
theorem fl_X7_140 : FL RX7 140 2 2 := ⟨RX2, TX2, 3, rfl, by decide, rfl, in_X2, Or.inr ⟨"FileRounds", List.mem_of_getElem? (i := 35) rfl⟩⟩
theorem fl_X7_143 : FL RX7 143 3 0 := ⟨RX3, TX3, 6, rfl, by decide, rfl, in_X3, Or.inr ⟨"FileRounds", List.mem_of_getElem? (i := 5) rfl⟩⟩
theorem fl_X7_146 : FL RX7 146 3 1 := ⟨RX3, TX3, 6, rfl, by decide, rfl, in_X3, Or.inr ⟨"FileRounds", List.mem_of_getElem? (i := 6) rfl⟩⟩
theorem fl_X7_149 : FL RX7 149 6 2 := ⟨RX6, TX6, 12, rfl, by decide, rfl, in_X6, Or.inr ⟨"FileRounds", List.mem_of_getElem? (i := 17) rfl⟩⟩
theorem fl_X7_152 : FL RX7 152 6 3 := ⟨RX6, TX6, 12, rfl, by decide, rfl, in_X6, Or.inr ⟨"FileRounds", List.mem_of_getElem? (i := 18) rfl⟩⟩
theorem fl_X7_155 : FL RX7 155 6 4 := ⟨RX6, TX6, 12, rfl, by decide, rfl, in_X6, Or.inr ⟨"FileRounds", List.mem_of_getElem? (i := 19) rfl⟩⟩
theorem fl_X7_158 : FL RX7 158 6 5 := ⟨RX6, TX6, 12, rfl, by decide, rfl, in_X6, Or.inr ⟨"FileRounds", List.mem_of_getElem? (i := 20) rfl⟩⟩
theorem fl_X7_174 : FL RX7 174 1 4 := ⟨RX1, TX1, 8, rfl, by decide, rfl, in_X1, Or.inr ⟨"FileRounds", List.mem_of_getElem? (i := 28) rfl⟩⟩
theorem fl_X7_177 : FL RX7 177 1 5 := ⟨RX1, TX1, 8, rfl, by decide, rfl, in_X1, Or.inr ⟨"FileRounds", List.mem_of_getElem? (i := 29) rfl⟩⟩
theorem fl_X7_180 : FL RX7 180 1 6 := ⟨RX1, TX1, 8, rfl, by decide, rfl, in_X1, Or.inr ⟨"FileRounds", List.mem_of_getElem? (i := 30) rfl⟩⟩
theorem fl_X7_187 : FL RX7 187 1 7 := ⟨RX1, TX1, 8, rfl, by decide, rfl, in_X1, Or.inr ⟨"FileRounds", List.mem_of_getElem? (i := 31) rfl⟩⟩
theorem fl_X7_190 : FL RX7 190 1 2 := ⟨RX1, TX1, 8, rfl, by decide, rfl, in_X1, Or.inr ⟨"FileRounds", List.mem_of_getElem? (i := 26) rfl⟩⟩
theorem fl_X7_193 : FL RX7 193 1 3 := ⟨RX1, TX1, 8, rfl, by decide, rfl, in_X1, Or.inr ⟨"FileRounds", List.mem_of_getElem? (i := 27) rfl⟩⟩
theorem fl_X7_212 : FL RX7 212 3 4 := ⟨RX3, TX3, 6, rfl, by decide, rfl, in_X3, Or.inr ⟨"FileRounds", List.mem_of_getElem? (i := 11) rfl⟩⟩
theorem fl_X7_215 : FL RX7 215 3 5 := ⟨RX3, TX3, 6, rfl, by decide, rfl, in_X3, Or.inr ⟨"FileRounds", List.mem_of_getElem? (i := 14) rfl⟩⟩
theorem fl_X7_218 : FL RX7 218 4 2 := ⟨RX4, TX4, 3, rfl, by decide, rfl, in_X4, Or.inr ⟨"FileRounds", List.mem_of_getElem? (i := 34) rfl⟩⟩
theorem fl_X7_221 : FL RX7 221 6 10 := ⟨RX6, TX6, 12, rfl, by decide, rfl, in_X6, Or.inr ⟨"FileRounds", List.mem_of_getElem? (i := 24) rfl⟩⟩
theorem fl_X0_9 : FL RX0 9 0 2 := ⟨RX0, TX0, 5, rfl, by decide, rfl, in_X0, Or.inl k_273⟩
theorem fl_X0_15 : FL RX0 15 0 0 := ⟨RX0, TX0, 5, rfl, by decide, rfl, in_X0, Or.inl k_271⟩
theorem fl_X0_24 : FL RX0 24 0 1 := ⟨RX0, TX0, 5, rfl, by decide, rfl, in_X0, Or.inl k_272⟩
theorem fl_X0_32 : FL RX0 32 3 0 := ⟨RX3, TX3, 6, rfl, by decide, rfl, in_X3, Or.inr ⟨"FileRounds", List.mem_of_getElem? (i := 3) rfl⟩⟩
theorem fl_X0_37 : FL RX0 37 0 4 := ⟨RX0, TX0, 5, rfl, by decide, rfl, in_X0, Or.inl k_275⟩
theorem fl_X0_49 : FL RX0 49 0 3 := ⟨RX0, TX0, 5, rfl, by decide, rfl, in_X0, Or.inl k_274⟩
theorem fl_X0_52 : FL RX0 52 6 9 := ⟨RX6, TX6, 12, rfl, by decide, rfl, in_X6, Or.inr ⟨"FileRounds", List.mem_of_getElem? (i := 21) rfl⟩⟩
theorem fl_X0_68 : FL RX0 68 3 5 := ⟨RX3, TX3, 6, rfl, by decide, rfl, in_X3, Or.inr ⟨"FileRounds", List.mem_of_getElem? (i := 12) rfl⟩⟩
theorem fl_X1_9 : FL RX1 9 1 2 := ⟨RX1, TX1, 8, rfl, by decide, rfl, in_X1, Or.inl k_190⟩
theorem fl_X1_15 : FL RX1 15 1 3 := ⟨RX1, TX1, 8, rfl, by decide, rfl, in_X1, Or.inl k_192⟩
theorem fl_X1_18 : FL RX1 18 1 0 := ⟨RX1, TX1, 8, rfl, by decide, rfl, in_X1, Or.inl k_188⟩
theorem fl_X1_22 : FL RX1 22 1 1 := ⟨RX1, TX1, 8, rfl, by decide, rfl, in_X1, Or.inl k_189⟩
theorem fl_X1_26 : FL RX1 26 1 4 := ⟨RX1, TX1, 8, rfl, by decide, rfl, in_X1, Or.inl k_194⟩
theorem fl_X1_29 : FL RX1 29 1 5 := ⟨RX1, TX1, 8, rfl, by decide, rfl, in_X1, Or.inl k_196⟩
theorem fl_X1_32 : FL RX1 32 1 6 := ⟨RX1, TX1, 8, rfl, by decide, rfl, in_X1, Or.inl k_198⟩
theorem fl_X1_35 : FL RX1 35 1 7 := ⟨RX1, TX1, 8, rfl, by decide, rfl, in_X1, Or.inl k_200⟩
theorem fl_X1_54 : FL RX1 54 6 2 := ⟨RX6, TX6, 12, rfl, by decide, rfl, in_X6, Or.inr ⟨"FileRounds", List.mem_of_getElem? (i := 16) rfl⟩⟩
theorem fl_X1_84 : FL RX1 84 3 3 := ⟨RX3, TX3, 6, rfl, by decide, rfl, in_X3, Or.inr ⟨"FileRounds", List.mem_of_getElem? (i := 10) rfl⟩⟩
theorem fl_X1_87 : FL RX1 87 3 5 := ⟨RX3, TX3, 6, rfl, by decide, rfl, in_X3, Or.inr ⟨"FileRounds", List.mem_of_getElem? (i := 13) rfl⟩⟩
theorem fl_X1_93 : FL RX1 93 3 0 := ⟨RX3, TX3, 6, rfl, by decide, rfl, in_X3, Or.inr ⟨"FileRounds", List.mem_of_getElem? (i := 4) rfl⟩⟩
theorem fl_X2_11 : FL RX2 11 2 0 := ⟨RX2, TX2, 3, rfl, by decide, rfl, in_X2, Or.inl k_252⟩
theorem fl_X2_20 : FL RX2 20 2 1 := ⟨RX2, TX2, 3, rfl, by decide, rfl, in_X2, Or.inl k_253⟩
theorem fl_X2_28 : FL RX2 28 2 2 := ⟨RX2, TX2, 3, rfl, by decide, rfl, in_X2, Or.inl k_254⟩
theorem fl_X3_9 : FL RX3 9 3 0 := ⟨RX3, TX3, 6, rfl, by decide, rfl, in_X3, Or.inl k_82⟩
theorem fl_X3_15 : FL RX3 15 3 1 := ⟨RX3, TX3, 6, rfl, by decide, rfl, in_X3, Or.inl k_86⟩
theorem fl_X3_18 : FL RX3 18 3 2 := ⟨RX3, TX3, 6, rfl, by decide, rfl, in_X3, Or.inl k_88⟩
theorem fl_X3_21 : FL RX3 21 3 3 := ⟨RX3, TX3, 6, rfl, by decide, rfl, in_X3, Or.inl k_90⟩
theorem fl_X3_29 : FL RX3 29 3 4 := ⟨RX3, TX3, 6, rfl, by decide, rfl, in_X3, Or.inl k_94⟩
theorem fl_X3_32 : FL RX3 32 3 5 := ⟨RX3, TX3, 6, rfl, by decide, rfl, in_X3, Or.inl k_96⟩
theorem fl_X4_11 : FL RX4 11 4 1 := ⟨RX4, TX4, 3, rfl, by decide, rfl, in_X4, Or.inl k_221⟩
theorem fl_X4_22 : FL RX4 22 4 0 := ⟨RX4, TX4, 3, rfl, by decide, rfl, in_X4, Or.inl k_219⟩
theorem fl_X4_32 : FL RX4 32 4 2 := ⟨RX4, TX4, 3, rfl, by decide, rfl, in_X4, Or.inl k_223⟩
theorem fl_X4_43 : FL RX4 43 6 9 := ⟨RX6, TX6, 12, rfl, by decide, rfl, in_X6, Or.inr ⟨"FileRounds", List.mem_of_getElem? (i := 22) rfl⟩⟩
theorem fl_X5_9 : FL RX5 9 5 0 := ⟨RX5, TX5, 3, rfl, by decide, rfl, in_X5, Or.inl k_64⟩
theorem fl_X5_15 : FL RX5 15 5 1 := ⟨RX5, TX5, 3, rfl, by decide, rfl, in_X5, Or.inl k_65⟩
theorem fl_X5_24 : FL RX5 24 5 2 := ⟨RX5, TX5, 3, rfl, by decide, rfl, in_X5, Or.inl k_67⟩
theorem fl_X6_9 : FL RX6 9 6 1 := ⟨RX6, TX6, 12, rfl, by decide, rfl, in_X6, Or.inl k_136⟩
theorem fl_X6_15 : FL RX6 15 6 2 := ⟨RX6, TX6, 12, rfl, by decide, rfl, in_X6, Or.inl k_138⟩
theorem fl_X6_18 : FL RX6 18 6 3 := ⟨RX6, TX6, 12, rfl, by decide, rfl, in_X6, Or.inl k_141⟩
theorem fl_X6_21 : FL RX6 21 6 4 := ⟨RX6, TX6, 12, rfl, by decide, rfl, in_X6, Or.inl k_143⟩
theorem fl_X6_24 : FL RX6 24 6 5 := ⟨RX6, TX6, 12, rfl, by decide, rfl, in_X6, Or.inl k_145⟩
theorem fl_X6_27 : FL RX6 27 6 6 := ⟨RX6, TX6, 12, rfl, by decide, rfl, in_X6, Or.inl k_147⟩
theorem fl_X6_30 : FL RX6 30 6 7 := ⟨RX6, TX6, 12, rfl, by decide, rfl, in_X6, Or.inl k_148⟩
theorem fl_X6_33 : FL RX6 33 6 8 := ⟨RX6, TX6, 12, rfl, by decide, rfl, in_X6, Or.inl k_149⟩
theorem fl_X6_36 : FL RX6 36 6 0 := ⟨RX6, TX6, 12, rfl, by decide, rfl, in_X6, Or.inl k_135⟩
theorem fl_X6_40 : FL RX6 40 3 2 := ⟨RX3, TX3, 6, rfl, by decide, rfl, in_X3, Or.inr ⟨"FileRounds", List.mem_of_getElem? (i := 7) rfl⟩⟩
theorem fl_X6_51 : FL RX6 51 6 9 := ⟨RX6, TX6, 12, rfl, by decide, rfl, in_X6, Or.inl k_151⟩
theorem fl_X6_55 : FL RX6 55 6 10 := ⟨RX6, TX6, 12, rfl, by decide, rfl, in_X6, Or.inl k_154⟩
theorem fl_X6_58 : FL RX6 58 6 11 := ⟨RX6, TX6, 12, rfl, by decide, rfl, in_X6, Or.inl k_156⟩
theorem fl_X6_80 : FL RX6 80 3 3 := ⟨RX3, TX3, 6, rfl, by decide, rfl, in_X3, Or.inr ⟨"FileRounds", List.mem_of_getElem? (i := 8) rfl⟩⟩
theorem fl_X8_7 : FL RX8 7 8 0 := ⟨RX8, TX8, 9, rfl, by decide, rfl, in_X8, Or.inl k_614⟩
theorem fl_X8_13 : FL RX8 13 8 2 := ⟨RX8, TX8, 9, rfl, by decide, rfl, in_X8, Or.inl k_616⟩
theorem fl_X8_16 : FL RX8 16 8 4 := ⟨RX8, TX8, 9, rfl, by decide, rfl, in_X8, Or.inl k_618⟩
theorem fl_X8_27 : FL RX8 27 8 1 := ⟨RX8, TX8, 9, rfl, by decide, rfl, in_X8, Or.inl k_615⟩
theorem fl_X8_35 : FL RX8 35 8 3 := ⟨RX8, TX8, 9, rfl, by decide, rfl, in_X8, Or.inl k_617⟩
theorem fl_X8_38 : FL RX8 38 8 5 := ⟨RX8, TX8, 9, rfl, by decide, rfl, in_X8, Or.inl k_619⟩
theorem fl_X8_41 : FL RX8 41 8 6 := ⟨RX8, TX8, 9, rfl, by decide, rfl, in_X8, Or.inl k_620⟩
theorem fl_X8_51 : FL RX8 51 8 7 := ⟨RX8, TX8, 9, rfl, by decide, rfl, in_X8, Or.inl k_621⟩
theorem fl_X8_54 : FL RX8 54 8 8 := ⟨RX8, TX8, 9, rfl, by decide, rfl, in_X8, Or.inl k_622⟩
theorem fp_0_3 : FP' 0 3 := ⟨RX0, TX0, 5, tyX0, rfl, rfl, by decide +kernel, tyX0_ok, nmX0⟩
theorem fp_0_4 : FP' 0 4 := ⟨RX0, TX0, 5, tyX0, rfl, rfl, by decide +kernel, tyX0_ok, nmX0⟩
theorem fp_1_4 : FP' 1 4 := ⟨RX1, TX1, 8, tyX1, rfl, rfl, by decide +kernel, tyX1_ok, nmX1⟩
theorem fp_1_5 : FP' 1 5 := ⟨RX1, TX1, 8, tyX1, rfl, rfl, by decide +kernel, tyX1_ok, nmX1⟩
theorem fp_1_6 : FP' 1 6 := ⟨RX1, TX1, 8, tyX1, rfl, rfl, by decide +kernel, tyX1_ok, nmX1⟩
theorem fp_1_7 : FP' 1 7 := ⟨RX1, TX1, 8, tyX1, rfl, rfl, by decide +kernel, tyX1_ok, nmX1⟩
theorem fp_2_1 : FP' 2 1 := ⟨RX2, TX2, 3, tyX2, rfl, rfl, by decide +kernel, tyX2_ok, nmX2⟩
theorem fp_2_2 : FP' 2 2 := ⟨RX2, TX2, 3, tyX2, rfl, rfl, by decide +kernel, tyX2_ok, nmX2⟩
theorem fp_3_3 : FP' 3 3 := ⟨RX3, TX3, 6, tyX3, rfl, rfl, by decide +kernel, tyX3_ok, nmX3⟩
theorem fp_3_4 : FP' 3 4 := ⟨RX3, TX3, 6, tyX3, rfl, rfl, by decide +kernel, tyX3_ok, nmX3⟩
theorem fp_3_5 : FP' 3 5 := ⟨RX3, TX3, 6, tyX3, rfl, rfl, by decide +kernel, tyX3_ok, nmX3⟩
theorem fp_4_2 : FP' 4 2 := ⟨RX4, TX4, 3, tyX4, rfl, rfl, by decide +kernel, tyX4_ok, nmX4⟩
theorem fp_5_1 : FP' 5 1 := ⟨RX5, TX5, 3, tyX5, rfl, rfl, by decide +kernel, tyX5_ok, nmX5⟩
theorem fp_5_2 : FP' 5 2 := ⟨RX5, TX5, 3, tyX5, rfl, rfl, by decide +kernel, tyX5_ok, nmX5⟩
theorem fp_6_9 : FP' 6 9 := ⟨RX6, TX6, 12, tyX6, rfl, rfl, by decide +kernel, tyX6_ok, nmX6⟩
theorem fp_6_10 : FP' 6 10 := ⟨RX6, TX6, 12, tyX6, rfl, rfl, by decide +kernel, tyX6_ok, nmX6⟩
theorem fp_6_11 : FP' 6 11 := ⟨RX6, TX6, 12, tyX6, rfl, rfl, by decide +kernel, tyX6_ok, nmX6⟩
theorem fp_8_1 : FP' 8 1 := ⟨RX8, TX8, 9, tyX8, rfl, rfl, by decide +kernel, tyX8_ok, nmX8⟩
theorem fp_8_3 : FP' 8 3 := ⟨RX8, TX8, 9, tyX8, rfl, rfl, by decide +kernel, tyX8_ok, nmX8⟩
theorem fp_8_5 : FP' 8 5 := ⟨RX8, TX8, 9, tyX8, rfl, rfl, by decide +kernel, tyX8_ok, nmX8⟩
theorem fp_8_6 : FP' 8 6 := ⟨RX8, TX8, 9, tyX8, rfl, rfl, by decide +kernel, tyX8_ok, nmX8⟩
theorem fp_8_7 : FP' 8 7 := ⟨RX8, TX8, 9, tyX8, rfl, rfl, by decide +kernel, tyX8_ok, nmX8⟩
theorem fp_8_8 : FP' 8 8 := ⟨RX8, TX8, 9, tyX8, rfl, rfl, by decide +kernel, tyX8_ok, nmX8⟩
theorem FA_0 {i : Nat} {r : Nat → Int32} (h : KD i = 0) : FA i r = [.ref 7, .ref (i + 2), .ref (i + 1), .int (r 3), .int (r 4)] := by simp [FA, h]
theorem fg_0_0 {L : List Nat} {i n : Nat} {r : Nat → Int32} (h : AC L i 0 n) : (FA i r)[0]? = some (.ref 7) := by rw [FA_0 h.2.1]; rfl
theorem fg_0_1 {L : List Nat} {i n : Nat} {r : Nat → Int32} (h : AC L i 0 n) : (FA i r)[1]? = some (.ref (i + 2)) := by rw [FA_0 h.2.1]; rfl
theorem fg_0_2 {L : List Nat} {i n : Nat} {r : Nat → Int32} (h : AC L i 0 n) : (FA i r)[2]? = some (.ref (i + 1)) := by rw [FA_0 h.2.1]; rfl
theorem fg_0_3 {L : List Nat} {i n : Nat} {r : Nat → Int32} (h : AC L i 0 n) : (FA i r)[3]? = some (.int (r 3)) := by rw [FA_0 h.2.1]; rfl
theorem fs_0_3 {L : List Nat} {i n : Nat} {r : Nat → Int32} (h : AC L i 0 n) (v : Int32) : (FA i r).set 3 (.int v) = FA i (upd r 3 v) := by rw [FA_0 h.2.1, FA_0 h.2.1]; rfl
theorem fk_0_3 {L : List Nat} {i n : Nat} {r : Nat → Int32} (h : AC L i 0 n) : 3 < (FA i r).length := by rw [FA_0 h.2.1]; exact Nat.le_of_ble_eq_true rfl
theorem fg_0_4 {L : List Nat} {i n : Nat} {r : Nat → Int32} (h : AC L i 0 n) : (FA i r)[4]? = some (.int (r 4)) := by rw [FA_0 h.2.1]; rfl
theorem fs_0_4 {L : List Nat} {i n : Nat} {r : Nat → Int32} (h : AC L i 0 n) (v : Int32) : (FA i r).set 4 (.int v) = FA i (upd r 4 v) := by rw [FA_0 h.2.1, FA_0 h.2.1]; rfl
theorem fk_0_4 {L : List Nat} {i n : Nat} {r : Nat → Int32} (h : AC L i 0 n) : 4 < (FA i r).length := by rw [FA_0 h.2.1]; exact Nat.le_of_ble_eq_true rfl
theorem FA_1 {i : Nat} {r : Nat → Int32} (h : KD i = 1) : FA i r = [.ref 7, .int (r 1), .ref (i + 1), .ref (i + 2), .int (r 4), .int (r 5), .int (r 6), .int (r 7)] := by simp [FA, h]
theorem fg_1_0 {L : List Nat} {i n : Nat} {r : Nat → Int32} (h : AC L i 1 n) : (FA i r)[0]? = some (.ref 7) := by rw [FA_1 h.2.1]; rfl
theorem fg_1_1 {L : List Nat} {i n : Nat} {r : Nat → Int32} (h : AC L i 1 n) : (FA i r)[1]? = some (.int (r 1)) := by rw [FA_1 h.2.1]; rfl
theorem fg_1_2 {L : List Nat} {i n : Nat} {r : Nat → Int32} (h : AC L i 1 n) : (FA i r)[2]? = some (.ref (i + 1)) := by rw [FA_1 h.2.1]; rfl
theorem fg_1_3 {L : List Nat} {i n : Nat} {r : Nat → Int32} (h : AC L i 1 n) : (FA i r)[3]? = some (.ref (i + 2)) := by rw [FA_1 h.2.1]; rfl
theorem fg_1_4 {L : List Nat} {i n : Nat} {r : Nat → Int32} (h : AC L i 1 n) : (FA i r)[4]? = some (.int (r 4)) := by rw [FA_1 h.2.1]; rfl
theorem fs_1_4 {L : List Nat} {i n : Nat} {r : Nat → Int32} (h : AC L i 1 n) (v : Int32) : (FA i r).set 4 (.int v) = FA i (upd r 4 v) := by rw [FA_1 h.2.1, FA_1 h.2.1]; rfl
theorem fk_1_4 {L : List Nat} {i n : Nat} {r : Nat → Int32} (h : AC L i 1 n) : 4 < (FA i r).length := by rw [FA_1 h.2.1]; exact Nat.le_of_ble_eq_true rfl
theorem fg_1_5 {L : List Nat} {i n : Nat} {r : Nat → Int32} (h : AC L i 1 n) : (FA i r)[5]? = some (.int (r 5)) := by rw [FA_1 h.2.1]; rfl
theorem fs_1_5 {L : List Nat} {i n : Nat} {r : Nat → Int32} (h : AC L i 1 n) (v : Int32) : (FA i r).set 5 (.int v) = FA i (upd r 5 v) := by rw [FA_1 h.2.1, FA_1 h.2.1]; rfl
theorem fk_1_5 {L : List Nat} {i n : Nat} {r : Nat → Int32} (h : AC L i 1 n) : 5 < (FA i r).length := by rw [FA_1 h.2.1]; exact Nat.le_of_ble_eq_true rfl
theorem fg_1_6 {L : List Nat} {i n : Nat} {r : Nat → Int32} (h : AC L i 1 n) : (FA i r)[6]? = some (.int (r 6)) := by rw [FA_1 h.2.1]; rfl
theorem fs_1_6 {L : List Nat} {i n : Nat} {r : Nat → Int32} (h : AC L i 1 n) (v : Int32) : (FA i r).set 6 (.int v) = FA i (upd r 6 v) := by rw [FA_1 h.2.1, FA_1 h.2.1]; rfl
theorem fk_1_6 {L : List Nat} {i n : Nat} {r : Nat → Int32} (h : AC L i 1 n) : 6 < (FA i r).length := by rw [FA_1 h.2.1]; exact Nat.le_of_ble_eq_true rfl
theorem fg_1_7 {L : List Nat} {i n : Nat} {r : Nat → Int32} (h : AC L i 1 n) : (FA i r)[7]? = some (.int (r 7)) := by rw [FA_1 h.2.1]; rfl
theorem fs_1_7 {L : List Nat} {i n : Nat} {r : Nat → Int32} (h : AC L i 1 n) (v : Int32) : (FA i r).set 7 (.int v) = FA i (upd r 7 v) := by rw [FA_1 h.2.1, FA_1 h.2.1]; rfl
theorem fk_1_7 {L : List Nat} {i n : Nat} {r : Nat → Int32} (h : AC L i 1 n) : 7 < (FA i r).length := by rw [FA_1 h.2.1]; exact Nat.le_of_ble_eq_true rfl
theorem FA_2 {i : Nat} {r : Nat → Int32} (h : KD i = 2) : FA i r = [.ref (i + 1), .int (r 1), .int (r 2)] := by simp [FA, h]
theorem fg_2_0 {L : List Nat} {i n : Nat} {r : Nat → Int32} (h : AC L i 2 n) : (FA i r)[0]? = some (.ref (i + 1)) := by rw [FA_2 h.2.1]; rfl
theorem fg_2_1 {L : List Nat} {i n : Nat} {r : Nat → Int32} (h : AC L i 2 n) : (FA i r)[1]? = some (.int (r 1)) := by rw [FA_2 h.2.1]; rfl
theorem fs_2_1 {L : List Nat} {i n : Nat} {r : Nat → Int32} (h : AC L i 2 n) (v : Int32) : (FA i r).set 1 (.int v) = FA i (upd r 1 v) := by rw [FA_2 h.2.1, FA_2 h.2.1]; rfl
theorem fk_2_1 {L : List Nat} {i n : Nat} {r : Nat → Int32} (h : AC L i 2 n) : 1 < (FA i r).length := by rw [FA_2 h.2.1]; exact Nat.le_of_ble_eq_true rfl
theorem fg_2_2 {L : List Nat} {i n : Nat} {r : Nat → Int32} (h : AC L i 2 n) : (FA i r)[2]? = some (.int (r 2)) := by rw [FA_2 h.2.1]; rfl
theorem fs_2_2 {L : List Nat} {i n : Nat} {r : Nat → Int32} (h : AC L i 2 n) (v : Int32) : (FA i r).set 2 (.int v) = FA i (upd r 2 v) := by rw [FA_2 h.2.1, FA_2 h.2.1]; rfl
theorem fk_2_2 {L : List Nat} {i n : Nat} {r : Nat → Int32} (h : AC L i 2 n) : 2 < (FA i r).length := by rw [FA_2 h.2.1]; exact Nat.le_of_ble_eq_true rfl
theorem FA_3 {i : Nat} {r : Nat → Int32} (h : KD i = 3) : FA i r = [.ref (i + 1), .ref (i + 2), .ref (i + 3), .int (r 3), .int (r 4), .int (r 5)] := by simp [FA, h]
theorem fg_3_0 {L : List Nat} {i n : Nat} {r : Nat → Int32} (h : AC L i 3 n) : (FA i r)[0]? = some (.ref (i + 1)) := by rw [FA_3 h.2.1]; rfl
theorem fg_3_1 {L : List Nat} {i n : Nat} {r : Nat → Int32} (h : AC L i 3 n) : (FA i r)[1]? = some (.ref (i + 2)) := by rw [FA_3 h.2.1]; rfl
theorem fg_3_2 {L : List Nat} {i n : Nat} {r : Nat → Int32} (h : AC L i 3 n) : (FA i r)[2]? = some (.ref (i + 3)) := by rw [FA_3 h.2.1]; rfl
theorem fg_3_3 {L : List Nat} {i n : Nat} {r : Nat → Int32} (h : AC L i 3 n) : (FA i r)[3]? = some (.int (r 3)) := by rw [FA_3 h.2.1]; rfl
theorem fs_3_3 {L : List Nat} {i n : Nat} {r : Nat → Int32} (h : AC L i 3 n) (v : Int32) : (FA i r).set 3 (.int v) = FA i (upd r 3 v) := by rw [FA_3 h.2.1, FA_3 h.2.1]; rfl
theorem fk_3_3 {L : List Nat} {i n : Nat} {r : Nat → Int32} (h : AC L i 3 n) : 3 < (FA i r).length := by rw [FA_3 h.2.1]; exact Nat.le_of_ble_eq_true rfl
theorem fg_3_4 {L : List Nat} {i n : Nat} {r : Nat → Int32} (h : AC L i 3 n) : (FA i r)[4]? = some (.int (r 4)) := by rw [FA_3 h.2.1]; rfl
theorem fs_3_4 {L : List Nat} {i n : Nat} {r : Nat → Int32} (h : AC L i 3 n) (v : Int32) : (FA i r).set 4 (.int v) = FA i (upd r 4 v) := by rw [FA_3 h.2.1, FA_3 h.2.1]; rfl
theorem fk_3_4 {L : List Nat} {i n : Nat} {r : Nat → Int32} (h : AC L i 3 n) : 4 < (FA i r).length := by rw [FA_3 h.2.1]; exact Nat.le_of_ble_eq_true rfl
theorem fg_3_5 {L : List Nat} {i n : Nat} {r : Nat → Int32} (h : AC L i 3 n) : (FA i r)[5]? = some (.int (r 5)) := by rw [FA_3 h.2.1]; rfl
theorem fs_3_5 {L : List Nat} {i n : Nat} {r : Nat → Int32} (h : AC L i 3 n) (v : Int32) : (FA i r).set 5 (.int v) = FA i (upd r 5 v) := by rw [FA_3 h.2.1, FA_3 h.2.1]; rfl
theorem fk_3_5 {L : List Nat} {i n : Nat} {r : Nat → Int32} (h : AC L i 3 n) : 5 < (FA i r).length := by rw [FA_3 h.2.1]; exact Nat.le_of_ble_eq_true rfl
theorem FA_4 {i : Nat} {r : Nat → Int32} (h : KD i = 4) : FA i r = [.ref (i + 2), .ref (i + 1), .int (r 2)] := by simp [FA, h]
theorem fg_4_0 {L : List Nat} {i n : Nat} {r : Nat → Int32} (h : AC L i 4 n) : (FA i r)[0]? = some (.ref (i + 2)) := by rw [FA_4 h.2.1]; rfl
theorem fg_4_1 {L : List Nat} {i n : Nat} {r : Nat → Int32} (h : AC L i 4 n) : (FA i r)[1]? = some (.ref (i + 1)) := by rw [FA_4 h.2.1]; rfl
theorem fg_4_2 {L : List Nat} {i n : Nat} {r : Nat → Int32} (h : AC L i 4 n) : (FA i r)[2]? = some (.int (r 2)) := by rw [FA_4 h.2.1]; rfl
theorem fs_4_2 {L : List Nat} {i n : Nat} {r : Nat → Int32} (h : AC L i 4 n) (v : Int32) : (FA i r).set 2 (.int v) = FA i (upd r 2 v) := by rw [FA_4 h.2.1, FA_4 h.2.1]; rfl
theorem fk_4_2 {L : List Nat} {i n : Nat} {r : Nat → Int32} (h : AC L i 4 n) : 2 < (FA i r).length := by rw [FA_4 h.2.1]; exact Nat.le_of_ble_eq_true rfl
theorem FA_5 {i : Nat} {r : Nat → Int32} (h : KD i = 5) : FA i r = [.ref (i + 1), .int (r 1), .int (r 2)] := by simp [FA, h]
theorem fg_5_0 {L : List Nat} {i n : Nat} {r : Nat → Int32} (h : AC L i 5 n) : (FA i r)[0]? = some (.ref (i + 1)) := by rw [FA_5 h.2.1]; rfl
theorem fg_5_1 {L : List Nat} {i n : Nat} {r : Nat → Int32} (h : AC L i 5 n) : (FA i r)[1]? = some (.int (r 1)) := by rw [FA_5 h.2.1]; rfl
theorem fs_5_1 {L : List Nat} {i n : Nat} {r : Nat → Int32} (h : AC L i 5 n) (v : Int32) : (FA i r).set 1 (.int v) = FA i (upd r 1 v) := by rw [FA_5 h.2.1, FA_5 h.2.1]; rfl
theorem fk_5_1 {L : List Nat} {i n : Nat} {r : Nat → Int32} (h : AC L i 5 n) : 1 < (FA i r).length := by rw [FA_5 h.2.1]; exact Nat.le_of_ble_eq_true rfl
theorem fg_5_2 {L : List Nat} {i n : Nat} {r : Nat → Int32} (h : AC L i 5 n) : (FA i r)[2]? = some (.int (r 2)) := by rw [FA_5 h.2.1]; rfl
theorem fs_5_2 {L : List Nat} {i n : Nat} {r : Nat → Int32} (h : AC L i 5 n) (v : Int32) : (FA i r).set 2 (.int v) = FA i (upd r 2 v) := by rw [FA_5 h.2.1, FA_5 h.2.1]; rfl
theorem fk_5_2 {L : List Nat} {i n : Nat} {r : Nat → Int32} (h : AC L i 5 n) : 2 < (FA i r).length := by rw [FA_5 h.2.1]; exact Nat.le_of_ble_eq_true rfl
theorem FA_6 {i : Nat} {r : Nat → Int32} (h : KD i = 6) : FA i r = [.ref 7, .ref (i + 1), .ref (i + 2), .ref (i + 3), .ref (i + 4), .ref (i + 5), .ref (i + 6), .ref (i + 7), .ref (i + 8), .int (r 9), .int (r 10), .int (r 11)] := by simp [FA, h]
theorem fg_6_0 {L : List Nat} {i n : Nat} {r : Nat → Int32} (h : AC L i 6 n) : (FA i r)[0]? = some (.ref 7) := by rw [FA_6 h.2.1]; rfl
theorem fg_6_1 {L : List Nat} {i n : Nat} {r : Nat → Int32} (h : AC L i 6 n) : (FA i r)[1]? = some (.ref (i + 1)) := by rw [FA_6 h.2.1]; rfl
theorem fg_6_2 {L : List Nat} {i n : Nat} {r : Nat → Int32} (h : AC L i 6 n) : (FA i r)[2]? = some (.ref (i + 2)) := by rw [FA_6 h.2.1]; rfl
theorem fg_6_3 {L : List Nat} {i n : Nat} {r : Nat → Int32} (h : AC L i 6 n) : (FA i r)[3]? = some (.ref (i + 3)) := by rw [FA_6 h.2.1]; rfl
theorem fg_6_4 {L : List Nat} {i n : Nat} {r : Nat → Int32} (h : AC L i 6 n) : (FA i r)[4]? = some (.ref (i + 4)) := by rw [FA_6 h.2.1]; rfl
theorem fg_6_5 {L : List Nat} {i n : Nat} {r : Nat → Int32} (h : AC L i 6 n) : (FA i r)[5]? = some (.ref (i + 5)) := by rw [FA_6 h.2.1]; rfl
theorem fg_6_6 {L : List Nat} {i n : Nat} {r : Nat → Int32} (h : AC L i 6 n) : (FA i r)[6]? = some (.ref (i + 6)) := by rw [FA_6 h.2.1]; rfl
theorem fg_6_7 {L : List Nat} {i n : Nat} {r : Nat → Int32} (h : AC L i 6 n) : (FA i r)[7]? = some (.ref (i + 7)) := by rw [FA_6 h.2.1]; rfl
theorem fg_6_8 {L : List Nat} {i n : Nat} {r : Nat → Int32} (h : AC L i 6 n) : (FA i r)[8]? = some (.ref (i + 8)) := by rw [FA_6 h.2.1]; rfl
theorem fg_6_9 {L : List Nat} {i n : Nat} {r : Nat → Int32} (h : AC L i 6 n) : (FA i r)[9]? = some (.int (r 9)) := by rw [FA_6 h.2.1]; rfl
theorem fs_6_9 {L : List Nat} {i n : Nat} {r : Nat → Int32} (h : AC L i 6 n) (v : Int32) : (FA i r).set 9 (.int v) = FA i (upd r 9 v) := by rw [FA_6 h.2.1, FA_6 h.2.1]; rfl
theorem fk_6_9 {L : List Nat} {i n : Nat} {r : Nat → Int32} (h : AC L i 6 n) : 9 < (FA i r).length := by rw [FA_6 h.2.1]; exact Nat.le_of_ble_eq_true rfl
theorem fg_6_10 {L : List Nat} {i n : Nat} {r : Nat → Int32} (h : AC L i 6 n) : (FA i r)[10]? = some (.int (r 10)) := by rw [FA_6 h.2.1]; rfl
theorem fs_6_10 {L : List Nat} {i n : Nat} {r : Nat → Int32} (h : AC L i 6 n) (v : Int32) : (FA i r).set 10 (.int v) = FA i (upd r 10 v) := by rw [FA_6 h.2.1, FA_6 h.2.1]; rfl
theorem fk_6_10 {L : List Nat} {i n : Nat} {r : Nat → Int32} (h : AC L i 6 n) : 10 < (FA i r).length := by rw [FA_6 h.2.1]; exact Nat.le_of_ble_eq_true rfl
theorem fg_6_11 {L : List Nat} {i n : Nat} {r : Nat → Int32} (h : AC L i 6 n) : (FA i r)[11]? = some (.int (r 11)) := by rw [FA_6 h.2.1]; rfl
theorem fs_6_11 {L : List Nat} {i n : Nat} {r : Nat → Int32} (h : AC L i 6 n) (v : Int32) : (FA i r).set 11 (.int v) = FA i (upd r 11 v) := by rw [FA_6 h.2.1, FA_6 h.2.1]; rfl
theorem fk_6_11 {L : List Nat} {i n : Nat} {r : Nat → Int32} (h : AC L i 6 n) : 11 < (FA i r).length := by rw [FA_6 h.2.1]; exact Nat.le_of_ble_eq_true rfl
theorem FA_7 {i : Nat} {r : Nat → Int32} (h : KD i = 7) : FA i r = [.ref 1, .ref 3, .ref 7, .ref 11, .ref 34, .ref 128] := by simp [FA, h]
theorem fg_7_0 {L : List Nat} {i n : Nat} {r : Nat → Int32} (h : AC L i 7 n) : (FA i r)[0]? = some (.ref 1) := by rw [FA_7 h.2.1]; rfl
theorem fg_7_1 {L : List Nat} {i n : Nat} {r : Nat → Int32} (h : AC L i 7 n) : (FA i r)[1]? = some (.ref 3) := by rw [FA_7 h.2.1]; rfl
theorem fg_7_2 {L : List Nat} {i n : Nat} {r : Nat → Int32} (h : AC L i 7 n) : (FA i r)[2]? = some (.ref 7) := by rw [FA_7 h.2.1]; rfl
theorem fg_7_3 {L : List Nat} {i n : Nat} {r : Nat → Int32} (h : AC L i 7 n) : (FA i r)[3]? = some (.ref 11) := by rw [FA_7 h.2.1]; rfl
theorem fg_7_4 {L : List Nat} {i n : Nat} {r : Nat → Int32} (h : AC L i 7 n) : (FA i r)[4]? = some (.ref 34) := by rw [FA_7 h.2.1]; rfl
theorem fg_7_5 {L : List Nat} {i n : Nat} {r : Nat → Int32} (h : AC L i 7 n) : (FA i r)[5]? = some (.ref 128) := by rw [FA_7 h.2.1]; rfl
theorem FA_8 {i : Nat} {r : Nat → Int32} (h : KD i = 8) : FA i r = [.ref (i + 1), .int (r 1), .ref (i + 2), .int (r 3), .ref (i + 3), .int (r 5), .int (r 6), .int (r 7), .int (r 8)] := by simp [FA, h]
theorem fg_8_0 {L : List Nat} {i n : Nat} {r : Nat → Int32} (h : AC L i 8 n) : (FA i r)[0]? = some (.ref (i + 1)) := by rw [FA_8 h.2.1]; rfl
theorem fg_8_1 {L : List Nat} {i n : Nat} {r : Nat → Int32} (h : AC L i 8 n) : (FA i r)[1]? = some (.int (r 1)) := by rw [FA_8 h.2.1]; rfl
theorem fs_8_1 {L : List Nat} {i n : Nat} {r : Nat → Int32} (h : AC L i 8 n) (v : Int32) : (FA i r).set 1 (.int v) = FA i (upd r 1 v) := by rw [FA_8 h.2.1, FA_8 h.2.1]; rfl
theorem fk_8_1 {L : List Nat} {i n : Nat} {r : Nat → Int32} (h : AC L i 8 n) : 1 < (FA i r).length := by rw [FA_8 h.2.1]; exact Nat.le_of_ble_eq_true rfl
theorem fg_8_2 {L : List Nat} {i n : Nat} {r : Nat → Int32} (h : AC L i 8 n) : (FA i r)[2]? = some (.ref (i + 2)) := by rw [FA_8 h.2.1]; rfl
theorem fg_8_3 {L : List Nat} {i n : Nat} {r : Nat → Int32} (h : AC L i 8 n) : (FA i r)[3]? = some (.int (r 3)) := by rw [FA_8 h.2.1]; rfl
theorem fs_8_3 {L : List Nat} {i n : Nat} {r : Nat → Int32} (h : AC L i 8 n) (v : Int32) : (FA i r).set 3 (.int v) = FA i (upd r 3 v) := by rw [FA_8 h.2.1, FA_8 h.2.1]; rfl
theorem fk_8_3 {L : List Nat} {i n : Nat} {r : Nat → Int32} (h : AC L i 8 n) : 3 < (FA i r).length := by rw [FA_8 h.2.1]; exact Nat.le_of_ble_eq_true rfl
theorem fg_8_4 {L : List Nat} {i n : Nat} {r : Nat → Int32} (h : AC L i 8 n) : (FA i r)[4]? = some (.ref (i + 3)) := by rw [FA_8 h.2.1]; rfl
theorem fg_8_5 {L : List Nat} {i n : Nat} {r : Nat → Int32} (h : AC L i 8 n) : (FA i r)[5]? = some (.int (r 5)) := by rw [FA_8 h.2.1]; rfl
theorem fs_8_5 {L : List Nat} {i n : Nat} {r : Nat → Int32} (h : AC L i 8 n) (v : Int32) : (FA i r).set 5 (.int v) = FA i (upd r 5 v) := by rw [FA_8 h.2.1, FA_8 h.2.1]; rfl
theorem fk_8_5 {L : List Nat} {i n : Nat} {r : Nat → Int32} (h : AC L i 8 n) : 5 < (FA i r).length := by rw [FA_8 h.2.1]; exact Nat.le_of_ble_eq_true rfl
theorem fg_8_6 {L : List Nat} {i n : Nat} {r : Nat → Int32} (h : AC L i 8 n) : (FA i r)[6]? = some (.int (r 6)) := by rw [FA_8 h.2.1]; rfl
theorem fs_8_6 {L : List Nat} {i n : Nat} {r : Nat → Int32} (h : AC L i 8 n) (v : Int32) : (FA i r).set 6 (.int v) = FA i (upd r 6 v) := by rw [FA_8 h.2.1, FA_8 h.2.1]; rfl
theorem fk_8_6 {L : List Nat} {i n : Nat} {r : Nat → Int32} (h : AC L i 8 n) : 6 < (FA i r).length := by rw [FA_8 h.2.1]; exact Nat.le_of_ble_eq_true rfl
theorem fg_8_7 {L : List Nat} {i n : Nat} {r : Nat → Int32} (h : AC L i 8 n) : (FA i r)[7]? = some (.int (r 7)) := by rw [FA_8 h.2.1]; rfl
theorem fs_8_7 {L : List Nat} {i n : Nat} {r : Nat → Int32} (h : AC L i 8 n) (v : Int32) : (FA i r).set 7 (.int v) = FA i (upd r 7 v) := by rw [FA_8 h.2.1, FA_8 h.2.1]; rfl
theorem fk_8_7 {L : List Nat} {i n : Nat} {r : Nat → Int32} (h : AC L i 8 n) : 7 < (FA i r).length := by rw [FA_8 h.2.1]; exact Nat.le_of_ble_eq_true rfl
theorem fg_8_8 {L : List Nat} {i n : Nat} {r : Nat → Int32} (h : AC L i 8 n) : (FA i r)[8]? = some (.int (r 8)) := by rw [FA_8 h.2.1]; rfl
theorem fs_8_8 {L : List Nat} {i n : Nat} {r : Nat → Int32} (h : AC L i 8 n) (v : Int32) : (FA i r).set 8 (.int v) = FA i (upd r 8 v) := by rw [FA_8 h.2.1, FA_8 h.2.1]; rfl
theorem fk_8_8 {L : List Nat} {i n : Nat} {r : Nat → Int32} (h : AC L i 8 n) : 8 < (FA i r).length := by rw [FA_8 h.2.1]; exact Nat.le_of_ble_eq_true rfl
abbrev m_X0_look : MI := (yX0_look, cX0_look, 6, none, { frames := 5, cells := 0, slots := 0, locals := 108 })
abbrev m_X0_seenAs : MI := (yX0_seenAs, cX0_seenAs, 4, (some .int), { frames := 3, cells := 0, slots := 0, locals := 63 })
abbrev m_X0_waitBehind : MI := (yX0_waitBehind, cX0_waitBehind, 6, (some .int), { frames := 1, cells := 0, slots := 0, locals := 21 })
abbrev m_X1_enter : MI := (yX1_enter, cX1_enter, 4, none, { frames := 0, cells := 0, slots := 0, locals := 0 })
abbrev m_X1_become : MI := (yX1_become, cX1_become, 2, none, { frames := 1, cells := 0, slots := 0, locals := 40 })
abbrev m_X1_hear : MI := (yX1_hear, cX1_hear, 4, none, { frames := 3, cells := 0, slots := 0, locals := 63 })
abbrev m_X1_loses : MI := (yX1_loses, cX1_loses, 4, (some .boolean), { frames := 0, cells := 0, slots := 0, locals := 0 })
abbrev m_X1_takeTable : MI := (yX1_takeTable, cX1_takeTable, 4, none, { frames := 0, cells := 0, slots := 0, locals := 0 })
abbrev m_X1_takeSymbol : MI := (yX1_takeSymbol, cX1_takeSymbol, 5, none, { frames := 1, cells := 0, slots := 0, locals := 21 })
abbrev m_X1_knowsIn : MI := (yX1_knowsIn, cX1_knowsIn, 2, (some .boolean), { frames := 0, cells := 0, slots := 0, locals := 0 })
abbrev m_X1_lacks : MI := (yX1_lacks, cX1_lacks, 2, (some .int), { frames := 1, cells := 0, slots := 0, locals := 21 })
abbrev m_X1_wholeBits : MI := (yX1_wholeBits, cX1_wholeBits, 3, (some .int), { frames := 2, cells := 0, slots := 0, locals := 42 })
abbrev m_X1_fillUp : MI := (yX1_fillUp, cX1_fillUp, 6, (some .int), { frames := 2, cells := 0, slots := 0, locals := 42 })
abbrev m_X2_keep : MI := (yX2_keep, cX2_keep, 2, none, { frames := 3, cells := 0, slots := 0, locals := 83 })
abbrev m_X2_giveBack : MI := (yX2_giveBack, cX2_giveBack, 2, (some .boolean), { frames := 3, cells := 0, slots := 0, locals := 83 })
abbrev m_X2_forget : MI := (yX2_forget, cX2_forget, 1, none, { frames := 0, cells := 0, slots := 0, locals := 0 })
abbrev m_X3_clear : MI := (yX3_clear, cX3_clear, 1, none, { frames := 1, cells := 0, slots := 0, locals := 22 })
abbrev m_X3_addFile : MI := (yX3_addFile, cX3_addFile, 4, (some .boolean), { frames := 0, cells := 0, slots := 0, locals := 0 })
abbrev m_X3_setTable : MI := (yX3_setTable, cX3_setTable, 3, none, { frames := 0, cells := 0, slots := 0, locals := 0 })
abbrev m_X3_hasFile : MI := (yX3_hasFile, cX3_hasFile, 2, (some .boolean), { frames := 0, cells := 0, slots := 0, locals := 0 })
abbrev m_X3_symbolsOf : MI := (yX3_symbolsOf, cX3_symbolsOf, 2, (some .int), { frames := 0, cells := 0, slots := 0, locals := 0 })
abbrev m_X3_isTableTurn : MI := (yX3_isTableTurn, cX3_isTableTurn, 2, (some .boolean), { frames := 0, cells := 0, slots := 0, locals := 0 })
abbrev m_X3_become : MI := (yX3_become, cX3_become, 2, none, { frames := 1, cells := 0, slots := 0, locals := 40 })
abbrev m_X4_begin : MI := (yX4_begin, cX4_begin, 1, none, { frames := 2, cells := 0, slots := 0, locals := 61 })
abbrev m_X4_become : MI := (yX4_become, cX4_become, 3, none, { frames := 2, cells := 0, slots := 0, locals := 61 })
abbrev m_X4_hasListener : MI := (yX4_hasListener, cX4_hasListener, 2, (some .boolean), { frames := 0, cells := 0, slots := 0, locals := 0 })
abbrev m_X4_hasRoom : MI := (yX4_hasRoom, cX4_hasRoom, 1, (some .boolean), { frames := 0, cells := 0, slots := 0, locals := 0 })
abbrev m_X4_addListener : MI := (yX4_addListener, cX4_addListener, 3, (some .int), { frames := 1, cells := 0, slots := 0, locals := 23 })
abbrev m_X4_advance : MI := (yX4_advance, cX4_advance, 3, none, { frames := 5, cells := 0, slots := 0, locals := 108 })
abbrev m_X5_append : MI := (yX5_append, cX5_append, 2, (some .boolean), { frames := 0, cells := 0, slots := 0, locals := 0 })
abbrev m_X5_firstFault : MI := (yX5_firstFault, cX5_firstFault, 4, (some .int), { frames := 4, cells := 0, slots := 0, locals := 89 })
abbrev m_X5_readItem : MI := (yX5_readItem, cX5_readItem, 2, (some .boolean), { frames := 3, cells := 0, slots := 0, locals := 68 })
abbrev m_X5_readFile : MI := (yX5_readFile, cX5_readFile, 5, (some .boolean), { frames := 2, cells := 0, slots := 0, locals := 44 })
abbrev m_X5_readTable : MI := (yX5_readTable, cX5_readTable, 4, (some .boolean), { frames := 2, cells := 0, slots := 0, locals := 44 })
abbrev m_X5_readNumber : MI := (yX5_readNumber, cX5_readNumber, 4, (some .int), { frames := 1, cells := 0, slots := 0, locals := 21 })
abbrev m_X5_readFigure : MI := (yX5_readFigure, cX5_readFigure, 2, (some .int), { frames := 0, cells := 0, slots := 0, locals := 0 })
abbrev m_X5_takes : MI := (yX5_takes, cX5_takes, 2, (some .boolean), { frames := 0, cells := 0, slots := 0, locals := 0 })
abbrev m_X6_begin : MI := (yX6_begin, cX6_begin, 2, none, { frames := 1, cells := 0, slots := 0, locals := 40 })
abbrev m_X6_become : MI := (yX6_become, cX6_become, 2, none, { frames := 1, cells := 0, slots := 0, locals := 40 })
abbrev m_X6_step : MI := (yX6_step, cX6_step, 1, none, { frames := 4, cells := 0, slots := 0, locals := 88 })
abbrev m_X6_chooseFile : MI := (yX6_chooseFile, cX6_chooseFile, 4, (some .int), { frames := 1, cells := 0, slots := 0, locals := 22 })
abbrev m_X6_sendSymbol : MI := (yX6_sendSymbol, cX6_sendSymbol, 3, none, { frames := 3, cells := 0, slots := 0, locals := 66 })
abbrev m_X6_note : MI := (yX6_note, cX6_note, 5, none, { frames := 2, cells := 0, slots := 0, locals := 42 })
abbrev m_X6_placeOf : MI := (yX6_placeOf, cX6_placeOf, 1, (some .int), { frames := 1, cells := 0, slots := 0, locals := 22 })
abbrev m_X6_fileIn : MI := (yX6_fileIn, cX6_fileIn, 2, (some .int), { frames := 2, cells := 0, slots := 0, locals := 42 })
abbrev m_X6_symbolIn : MI := (yX6_symbolIn, cX6_symbolIn, 2, (some .int), { frames := 2, cells := 0, slots := 0, locals := 42 })
abbrev m_X6_versionIn : MI := (yX6_versionIn, cX6_versionIn, 2, (some .int), { frames := 2, cells := 0, slots := 0, locals := 42 })
abbrev m_X6_startNewVersion : MI := (yX6_startNewVersion, cX6_startNewVersion, 2, (some .int), { frames := 0, cells := 0, slots := 0, locals := 0 })
abbrev m_X6_allWeights : MI := (yX6_allWeights, cX6_allWeights, 3, (some .int), { frames := 0, cells := 0, slots := 0, locals := 0 })
abbrev m_X7_write : MI := (yX7_write, cX7_write, 2, (some .int), { frames := 1, cells := 0, slots := 0, locals := 21 })
abbrev m_X7_wipe : MI := (yX7_wipe, cX7_wipe, 2, (some .int), { frames := 0, cells := 0, slots := 0, locals := 0 })
abbrev m_X7_fault : MI := (yX7_fault, cX7_fault, 1, (some .int), { frames := 5, cells := 0, slots := 0, locals := 112 })
abbrev m_X7_lay : MI := (yX7_lay, cX7_lay, 1, (some .int), { frames := 5, cells := 0, slots := 0, locals := 112 })
abbrev m_X7_tick : MI := (yX7_tick, cX7_tick, 4, (some .int), { frames := 6, cells := 0, slots := 0, locals := 130 })
abbrev m_X7_renew : MI := (yX7_renew, cX7_renew, 2, (some .int), { frames := 4, cells := 0, slots := 0, locals := 104 })
abbrev m_X7_weigh : MI := (yX7_weigh, cX7_weigh, 4, (some .int), { frames := 4, cells := 0, slots := 0, locals := 104 })
abbrev m_X7_join : MI := (yX7_join, cX7_join, 2, (some .int), { frames := 4, cells := 0, slots := 0, locals := 104 })
abbrev m_X7_repair : MI := (yX7_repair, cX7_repair, 4, (some .int), { frames := 4, cells := 0, slots := 0, locals := 104 })
abbrev m_X7_undo : MI := (yX7_undo, cX7_undo, 1, (some .int), { frames := 4, cells := 0, slots := 0, locals := 104 })
abbrev m_X7_file : MI := (yX7_file, cX7_file, 4, (some .int), { frames := 2, cells := 0, slots := 0, locals := 44 })
abbrev m_X7_sent : MI := (yX7_sent, cX7_sent, 4, (some .int), { frames := 3, cells := 0, slots := 0, locals := 63 })
abbrev m_X7_listener : MI := (yX7_listener, cX7_listener, 4, (some .int), { frames := 3, cells := 0, slots := 0, locals := 64 })
abbrev m_X7_holds : MI := (yX7_holds, cX7_holds, 5, (some .int), { frames := 2, cells := 0, slots := 0, locals := 42 })
abbrev m_X7_waits : MI := (yX7_waits, cX7_waits, 3, (some .int), { frames := 6, cells := 0, slots := 0, locals := 133 })
abbrev m_X7_mean : MI := (yX7_mean, cX7_mean, 8, (some .int), { frames := 6, cells := 0, slots := 0, locals := 133 })
abbrev m_X7_count : MI := (yX7_count, cX7_count, 2, (some .int), { frames := 1, cells := 0, slots := 0, locals := 22 })
abbrev m_X7_partBits : MI := (yX7_partBits, cX7_partBits, 2, (some .int), { frames := 1, cells := 0, slots := 0, locals := 23 })
abbrev m_X7_bitsOf : MI := (yX7_bitsOf, cX7_bitsOf, 4, (some .int), { frames := 0, cells := 0, slots := 0, locals := 0 })
abbrev m_X8_within : MI := (yX8_within, cX8_within, 3, (some .boolean), { frames := 0, cells := 0, slots := 0, locals := 0 })
abbrev m_X8_ones : MI := (yX8_ones, cX8_ones, 3, (some .int), { frames := 0, cells := 0, slots := 0, locals := 0 })
abbrev m_X8_laysFile : MI := (yX8_laysFile, cX8_laysFile, 5, none, { frames := 0, cells := 0, slots := 0, locals := 0 })
abbrev m_X8_begins : MI := (yX8_begins, cX8_begins, 4, none, { frames := 0, cells := 0, slots := 0, locals := 0 })
abbrev m_X8_write : MI := (yX8_write, cX8_write, 2, (some .int), { frames := 1, cells := 0, slots := 0, locals := 22 })
abbrev m_X8_wipe : MI := (yX8_wipe, cX8_wipe, 2, (some .int), { frames := 0, cells := 0, slots := 0, locals := 0 })
abbrev m_X8_here : MI := (yX8_here, cX8_here, 1, (some .int), { frames := 0, cells := 0, slots := 0, locals := 0 })
abbrev m_X8_passes : MI := (yX8_passes, cX8_passes, 6, (some .boolean), { frames := 1, cells := 0, slots := 0, locals := 22 })
abbrev m_X8_passesFile : MI := (yX8_passesFile, cX8_passesFile, 4, (some .boolean), { frames := 2, cells := 0, slots := 0, locals := 47 })
abbrev m_X8_passesTable : MI := (yX8_passesTable, cX8_passesTable, 2, (some .boolean), { frames := 2, cells := 0, slots := 0, locals := 47 })
abbrev m_X8_faultIs : MI := (yX8_faultIs, cX8_faultIs, 3, (some .int), { frames := 3, cells := 0, slots := 0, locals := 70 })
abbrev m_X8_fault : MI := (yX8_fault, cX8_fault, 1, (some .int), { frames := 4, cells := 0, slots := 0, locals := 92 })
abbrev m_X8_lay : MI := (yX8_lay, cX8_lay, 1, (some .int), { frames := 4, cells := 0, slots := 0, locals := 92 })
abbrev m_X8_sendsNext : MI := (yX8_sendsNext, cX8_sendsNext, 5, (some .int), { frames := 0, cells := 0, slots := 0, locals := 0 })
abbrev m_X8_logs : MI := (yX8_logs, cX8_logs, 6, none, { frames := 0, cells := 0, slots := 0, locals := 0 })
abbrev m_X8_isLost : MI := (yX8_isLost, cX8_isLost, 5, (some .boolean), { frames := 0, cells := 0, slots := 0, locals := 0 })
abbrev m_X8_hearsTable : MI := (yX8_hearsTable, cX8_hearsTable, 5, none, { frames := 0, cells := 0, slots := 0, locals := 0 })
abbrev m_X8_hearsSymbol : MI := (yX8_hearsSymbol, cX8_hearsSymbol, 5, none, { frames := 0, cells := 0, slots := 0, locals := 0 })
abbrev m_X8_ticks : MI := (yX8_ticks, cX8_ticks, 7, (some .int), { frames := 1, cells := 0, slots := 0, locals := 25 })
abbrev m_X8_copies : MI := (yX8_copies, cX8_copies, 4, none, { frames := 0, cells := 0, slots := 0, locals := 0 })
abbrev m_X8_minds : MI := (yX8_minds, cX8_minds, 2, none, { frames := 1, cells := 0, slots := 0, locals := 23 })
abbrev m_X8_undo : MI := (yX8_undo, cX8_undo, 1, (some .int), { frames := 1, cells := 0, slots := 0, locals := 23 })
abbrev m_X8_tick : MI := (yX8_tick, cX8_tick, 4, (some .int), { frames := 2, cells := 0, slots := 0, locals := 51 })
abbrev m_X8_isFile : MI := (yX8_isFile, cX8_isFile, 2, (some .boolean), { frames := 1, cells := 0, slots := 0, locals := 22 })
abbrev m_X8_isListener : MI := (yX8_isListener, cX8_isListener, 2, (some .boolean), { frames := 1, cells := 0, slots := 0, locals := 22 })
abbrev m_X8_renew : MI := (yX8_renew, cX8_renew, 2, (some .int), { frames := 2, cells := 0, slots := 0, locals := 44 })
abbrev m_X8_weigh : MI := (yX8_weigh, cX8_weigh, 4, (some .int), { frames := 2, cells := 0, slots := 0, locals := 44 })
abbrev m_X8_join : MI := (yX8_join, cX8_join, 4, (some .int), { frames := 2, cells := 0, slots := 0, locals := 44 })
abbrev m_X8_knows : MI := (yX8_knows, cX8_knows, 2, (some .boolean), { frames := 0, cells := 0, slots := 0, locals := 0 })
abbrev m_X8_lacks : MI := (yX8_lacks, cX8_lacks, 4, (some .int), { frames := 1, cells := 0, slots := 0, locals := 22 })
abbrev m_X8_repair : MI := (yX8_repair, cX8_repair, 7, (some .int), { frames := 2, cells := 0, slots := 0, locals := 45 })
abbrev m_X8_partBits : MI := (yX8_partBits, cX8_partBits, 2, (some .int), { frames := 2, cells := 0, slots := 0, locals := 43 })
abbrev m_X8_file : MI := (yX8_file, cX8_file, 3, (some .int), { frames := 3, cells := 0, slots := 0, locals := 64 })
abbrev m_X8_sent : MI := (yX8_sent, cX8_sent, 3, (some .int), { frames := 1, cells := 0, slots := 0, locals := 22 })
abbrev m_X8_wholes : MI := (yX8_wholes, cX8_wholes, 4, (some .int), { frames := 2, cells := 0, slots := 0, locals := 45 })
abbrev m_X8_listener : MI := (yX8_listener, cX8_listener, 4, (some .int), { frames := 3, cells := 0, slots := 0, locals := 68 })
abbrev m_X8_holds : MI := (yX8_holds, cX8_holds, 5, (some .int), { frames := 2, cells := 0, slots := 0, locals := 45 })
abbrev m_X8_waitsFrom : MI := (yX8_waitsFrom, cX8_waitsFrom, 8, (some .int), { frames := 2, cells := 0, slots := 0, locals := 51 })
abbrev m_X8_waitIs : MI := (yX8_waitIs, cX8_waitIs, 4, (some .int), { frames := 3, cells := 0, slots := 0, locals := 78 })
abbrev m_X8_waits : MI := (yX8_waits, cX8_waits, 3, (some .int), { frames := 4, cells := 0, slots := 0, locals := 101 })
abbrev m_X8_mean : MI := (yX8_mean, cX8_mean, 8, (some .int), { frames := 4, cells := 0, slots := 0, locals := 101 })
abbrev m_X8_count : MI := (yX8_count, cX8_count, 2, (some .int), { frames := 0, cells := 0, slots := 0, locals := 0 })
abbrev m_Jxf58ca_isNaN_12338 : MI := (yJxf58ca_isNaN_12338, cJxf58ca_isNaN_12338, 1, (some .boolean), { frames := 0, cells := 0, slots := 0, locals := 0 })
abbrev m_Jxf58ca_floatToIntBits_5c35a : MI := (yJxf58ca_floatToIntBits_5c35a, cJxf58ca_floatToIntBits_5c35a, 1, (some .int), { frames := 1, cells := 0, slots := 0, locals := 23 })
abbrev m_J6_bitCount_0f7a4 : MI := (yJ6_bitCount_0f7a4, cJ6_bitCount_0f7a4, 1, (some .int), { frames := 0, cells := 0, slots := 0, locals := 0 })
abbrev m_J9_floorMod_7cf53 : MI := (yJ9_floorMod_7cf53, cJ9_floorMod_7cf53, 3, (some .int), { frames := 0, cells := 0, slots := 0, locals := 0 })
theorem sv_X0_28 : SV RX0 28 m_X6_become 1 6 := ⟨k_575, k_383, k_384, k_41, k_385, ⟨by decide +kernel, by decide +kernel, by decide +kernel⟩, ⟨_, _, rfl⟩, rfl, rfl⟩
theorem sv_X0_55 : SV RX0 55 m_X6_step 0 6 := ⟨k_578, k_399, k_400, k_41, k_401, ⟨by decide +kernel, by decide +kernel, by decide +kernel⟩, ⟨_, _, rfl⟩, rfl, rfl⟩
theorem sv_X0_58 : SV RX0 58 m_X0_seenAs 2 0 := ⟨k_579, k_581, k_12, k_45, k_582, ⟨by decide +kernel, by decide +kernel, by decide +kernel⟩, ⟨_, _, rfl⟩, rfl, rfl⟩
theorem sv_X0_61 : SV RX0 61 m_X6_fileIn 1 6 := ⟨k_583, k_445, k_446, k_41, k_447, ⟨by decide +kernel, by decide +kernel, by decide +kernel⟩, ⟨_, _, rfl⟩, rfl, rfl⟩
theorem sv_X0_65 : SV RX0 65 m_X6_symbolIn 1 6 := ⟨k_584, k_457, k_458, k_41, k_459, ⟨by decide +kernel, by decide +kernel, by decide +kernel⟩, ⟨_, _, rfl⟩, rfl, rfl⟩
theorem sv_X0_71 : SS RX0 71 m_J6_bitCount_0f7a4 1 := ⟨k_589, k_515, k_48, k_516, ⟨by decide +kernel, by decide +kernel, by decide +kernel⟩, rfl, rfl⟩
theorem sv_X1_44 : SV RX1 44 m_X1_loses 1 1 := ⟨k_436, k_438, k_9, k_42, k_439, ⟨by decide +kernel, by decide +kernel, by decide +kernel⟩, ⟨_, _, rfl⟩, rfl, rfl⟩
theorem sv_X1_48 : SV RX1 48 m_X6_fileIn 1 6 := ⟨k_444, k_445, k_446, k_41, k_447, ⟨by decide +kernel, by decide +kernel, by decide +kernel⟩, ⟨_, _, rfl⟩, rfl, rfl⟩
theorem sv_X1_57 : SV RX1 57 m_X1_takeTable 2 1 := ⟨k_448, k_450, k_10, k_42, k_451, ⟨by decide +kernel, by decide +kernel, by decide +kernel⟩, ⟨_, _, rfl⟩, rfl, rfl⟩
theorem sv_X1_61 : SV RX1 61 m_X3_hasFile 1 3 := ⟨k_452, k_453, k_454, k_39, k_455, ⟨by decide +kernel, by decide +kernel, by decide +kernel⟩, ⟨_, _, rfl⟩, rfl, rfl⟩
theorem sv_X1_66 : SV RX1 66 m_X6_symbolIn 1 6 := ⟨k_456, k_457, k_458, k_41, k_459, ⟨by decide +kernel, by decide +kernel, by decide +kernel⟩, ⟨_, _, rfl⟩, rfl, rfl⟩
theorem sv_X1_69 : SV RX1 69 m_X6_versionIn 1 6 := ⟨k_460, k_461, k_462, k_41, k_463, ⟨by decide +kernel, by decide +kernel, by decide +kernel⟩, ⟨_, _, rfl⟩, rfl, rfl⟩
theorem sv_X1_72 : SV RX1 72 m_X1_takeSymbol 4 1 := ⟨k_464, k_466, k_11, k_42, k_467, ⟨by decide +kernel, by decide +kernel, by decide +kernel⟩, ⟨_, _, rfl⟩, rfl, rfl⟩
theorem sv_X1_90 : SV RX1 90 m_X1_knowsIn 1 1 := ⟨k_468, k_469, k_470, k_42, k_471, ⟨by decide +kernel, by decide +kernel, by decide +kernel⟩, ⟨_, _, rfl⟩, rfl, rfl⟩
theorem sv_X1_96 : SS RX1 96 m_J6_bitCount_0f7a4 1 := ⟨k_514, k_515, k_48, k_516, ⟨by decide +kernel, by decide +kernel, by decide +kernel⟩, rfl, rfl⟩
theorem sv_X1_107 : SV RX1 107 m_X1_lacks 1 1 := ⟨k_527, k_511, k_512, k_42, k_513, ⟨by decide +kernel, by decide +kernel, by decide +kernel⟩, ⟨_, _, rfl⟩, rfl, rfl⟩
theorem sv_X1_110 : SV RX1 110 m_X3_symbolsOf 1 3 := ⟨k_528, k_429, k_430, k_39, k_431, ⟨by decide +kernel, by decide +kernel, by decide +kernel⟩, ⟨_, _, rfl⟩, rfl, rfl⟩
theorem sv_X2_24 : SV RX2 24 m_X4_become 1 4 := ⟨k_378, k_379, k_380, k_40, k_381, ⟨by decide +kernel, by decide +kernel, by decide +kernel⟩, ⟨_, _, rfl⟩, rfl, rfl⟩
theorem sv_X3_25 : SV RX3 25 m_X3_setTable 2 3 := ⟨k_330, k_118, k_119, k_39, k_120, ⟨by decide +kernel, by decide +kernel, by decide +kernel⟩, ⟨_, _, rfl⟩, rfl, rfl⟩
theorem sv_X4_29 : SV RX4 29 m_X6_begin 0 6 := ⟨k_236, k_237, k_238, k_41, k_239, ⟨by decide +kernel, by decide +kernel, by decide +kernel⟩, ⟨_, _, rfl⟩, rfl, rfl⟩
theorem sv_X4_36 : SV RX4 36 m_X6_become 1 6 := ⟨k_382, k_383, k_384, k_41, k_385, ⟨by decide +kernel, by decide +kernel, by decide +kernel⟩, ⟨_, _, rfl⟩, rfl, rfl⟩
theorem sv_X4_40 : SV RX4 40 m_X1_become 1 1 := ⟨k_386, k_387, k_388, k_42, k_389, ⟨by decide +kernel, by decide +kernel, by decide +kernel⟩, ⟨_, _, rfl⟩, rfl, rfl⟩
theorem sv_X4_46 : SV RX4 46 m_X1_enter 2 1 := ⟨k_497, k_498, k_499, k_42, k_500, ⟨by decide +kernel, by decide +kernel, by decide +kernel⟩, ⟨_, _, rfl⟩, rfl, rfl⟩
theorem sv_X4_50 : SV RX4 50 m_X6_step 0 6 := ⟨k_398, k_399, k_400, k_41, k_401, ⟨by decide +kernel, by decide +kernel, by decide +kernel⟩, ⟨_, _, rfl⟩, rfl, rfl⟩
theorem sv_X4_53 : SV RX4 53 m_X1_hear 2 1 := ⟨k_432, k_433, k_434, k_42, k_435, ⟨by decide +kernel, by decide +kernel, by decide +kernel⟩, ⟨_, _, rfl⟩, rfl, rfl⟩
theorem sv_X5_19 : SV RX5 19 m_X3_clear 0 3 := ⟨k_326, k_327, k_328, k_39, k_329, ⟨by decide +kernel, by decide +kernel, by decide +kernel⟩, ⟨_, _, rfl⟩, rfl, rfl⟩
theorem sv_X5_27 : SV RX5 27 m_X5_readItem 1 5 := ⟨k_331, k_333, k_0, k_38, k_334, ⟨by decide +kernel, by decide +kernel, by decide +kernel⟩, ⟨_, _, rfl⟩, rfl, rfl⟩
theorem sv_X5_31 : SV RX5 31 m_X5_takes 1 5 := ⟨k_335, k_337, k_1, k_38, k_338, ⟨by decide +kernel, by decide +kernel, by decide +kernel⟩, ⟨_, _, rfl⟩, rfl, rfl⟩
theorem sv_X5_35 : SV RX5 35 m_X5_readFile 1 5 := ⟨k_339, k_341, k_2, k_38, k_342, ⟨by decide +kernel, by decide +kernel, by decide +kernel⟩, ⟨_, _, rfl⟩, rfl, rfl⟩
theorem sv_X5_38 : SV RX5 38 m_X5_readTable 1 5 := ⟨k_352, k_354, k_5, k_38, k_355, ⟨by decide +kernel, by decide +kernel, by decide +kernel⟩, ⟨_, _, rfl⟩, rfl, rfl⟩
theorem sv_X5_41 : SV RX5 41 m_X5_readNumber 1 5 := ⟨k_343, k_345, k_3, k_38, k_346, ⟨by decide +kernel, by decide +kernel, by decide +kernel⟩, ⟨_, _, rfl⟩, rfl, rfl⟩
theorem sv_X5_45 : SV RX5 45 m_X3_addFile 3 3 := ⟨k_351, k_114, k_115, k_39, k_116, ⟨by decide +kernel, by decide +kernel, by decide +kernel⟩, ⟨_, _, rfl⟩, rfl, rfl⟩
theorem sv_X5_49 : SV RX5 49 m_X3_setTable 2 3 := ⟨k_356, k_118, k_119, k_39, k_120, ⟨by decide +kernel, by decide +kernel, by decide +kernel⟩, ⟨_, _, rfl⟩, rfl, rfl⟩
theorem sv_X5_53 : SV RX5 53 m_X5_readFigure 0 5 := ⟨k_347, k_349, k_4, k_38, k_350, ⟨by decide +kernel, by decide +kernel, by decide +kernel⟩, ⟨_, _, rfl⟩, rfl, rfl⟩
theorem sv_X6_61 : SV RX6 61 m_X3_isTableTurn 1 3 := ⟨k_402, k_403, k_404, k_39, k_405, ⟨by decide +kernel, by decide +kernel, by decide +kernel⟩, ⟨_, _, rfl⟩, rfl, rfl⟩
theorem sv_X6_65 : SV RX6 65 m_X6_note 3 6 := ⟨k_406, k_408, k_6, k_41, k_409, ⟨by decide +kernel, by decide +kernel, by decide +kernel⟩, ⟨_, _, rfl⟩, rfl, rfl⟩
theorem sv_X6_69 : SV RX6 69 m_X6_chooseFile 0 6 := ⟨k_416, k_418, k_7, k_41, k_419, ⟨by decide +kernel, by decide +kernel, by decide +kernel⟩, ⟨_, _, rfl⟩, rfl, rfl⟩
theorem sv_X6_73 : SV RX6 73 m_X6_sendSymbol 1 6 := ⟨k_424, k_426, k_8, k_41, k_427, ⟨by decide +kernel, by decide +kernel, by decide +kernel⟩, ⟨_, _, rfl⟩, rfl, rfl⟩
theorem sv_X6_77 : SV RX6 77 m_X6_allWeights 0 6 := ⟨k_420, k_421, k_422, k_41, k_423, ⟨by decide +kernel, by decide +kernel, by decide +kernel⟩, ⟨_, _, rfl⟩, rfl, rfl⟩
theorem sv_X6_83 : SV RX6 83 m_X3_symbolsOf 1 3 := ⟨k_428, k_429, k_430, k_39, k_431, ⟨by decide +kernel, by decide +kernel, by decide +kernel⟩, ⟨_, _, rfl⟩, rfl, rfl⟩
theorem sv_X6_87 : SS RX6 87 m_X6_placeOf 1 := ⟨k_410, k_411, k_41, k_412, ⟨by decide +kernel, by decide +kernel, by decide +kernel⟩, rfl, rfl⟩
theorem sv_X6_90 : SS RX6 90 m_J9_floorMod_7cf53 2 := ⟨k_413, k_414, k_47, k_415, ⟨by decide +kernel, by decide +kernel, by decide +kernel⟩, rfl, rfl⟩
theorem sv_X7_60 : SV RX7 60 m_X5_append 1 5 := ⟨k_310, k_311, k_312, k_38, k_313, ⟨by decide +kernel, by decide +kernel, by decide +kernel⟩, ⟨_, _, rfl⟩, rfl, rfl⟩
theorem sv_X7_68 : SV RX7 68 m_X5_firstFault 1 5 := ⟨k_322, k_323, k_324, k_38, k_325, ⟨by decide +kernel, by decide +kernel, by decide +kernel⟩, ⟨_, _, rfl⟩, rfl, rfl⟩
theorem sv_X7_75 : SV RX7 75 m_X3_become 1 3 := ⟨k_361, k_362, k_363, k_39, k_364, ⟨by decide +kernel, by decide +kernel, by decide +kernel⟩, ⟨_, _, rfl⟩, rfl, rfl⟩
theorem sv_X7_43 : SV RX7 43 m_X4_begin 0 4 := ⟨k_232, k_233, k_234, k_40, k_235, ⟨by decide +kernel, by decide +kernel, by decide +kernel⟩, ⟨_, _, rfl⟩, rfl, rfl⟩
theorem sv_X7_78 : SV RX7 78 m_X2_forget 0 2 := ⟨k_366, k_367, k_368, k_44, k_369, ⟨by decide +kernel, by decide +kernel, by decide +kernel⟩, ⟨_, _, rfl⟩, rfl, rfl⟩
theorem sv_X7_90 : SV RX7 90 m_X2_keep 1 2 := ⟨k_374, k_375, k_376, k_44, k_377, ⟨by decide +kernel, by decide +kernel, by decide +kernel⟩, ⟨_, _, rfl⟩, rfl, rfl⟩
theorem sv_X7_97 : SV RX7 97 m_X4_advance 0 4 := ⟨k_394, k_395, k_396, k_40, k_397, ⟨by decide +kernel, by decide +kernel, by decide +kernel⟩, ⟨_, _, rfl⟩, rfl, rfl⟩
theorem sv_X7_100 : SV RX7 100 m_X3_hasFile 1 3 := ⟨k_476, k_453, k_454, k_39, k_455, ⟨by decide +kernel, by decide +kernel, by decide +kernel⟩, ⟨_, _, rfl⟩, rfl, rfl⟩
theorem sv_X7_103 : SV RX7 103 m_X6_startNewVersion 1 6 := ⟨k_477, k_478, k_479, k_41, k_480, ⟨by decide +kernel, by decide +kernel, by decide +kernel⟩, ⟨_, _, rfl⟩, rfl, rfl⟩
theorem sv_X7_111 : SV RX7 111 m_X4_hasRoom 0 4 := ⟨k_489, k_490, k_491, k_40, k_492, ⟨by decide +kernel, by decide +kernel, by decide +kernel⟩, ⟨_, _, rfl⟩, rfl, rfl⟩
theorem sv_X7_115 : SV RX7 115 m_X4_addListener 1 4 := ⟨k_493, k_494, k_495, k_40, k_496, ⟨by decide +kernel, by decide +kernel, by decide +kernel⟩, ⟨_, _, rfl⟩, rfl, rfl⟩
theorem sv_X7_118 : SV RX7 118 m_X4_hasListener 1 4 := ⟨k_505, k_506, k_507, k_40, k_508, ⟨by decide +kernel, by decide +kernel, by decide +kernel⟩, ⟨_, _, rfl⟩, rfl, rfl⟩
theorem sv_X7_125 : SV RX7 125 m_X1_knowsIn 1 1 := ⟨k_509, k_469, k_470, k_42, k_471, ⟨by decide +kernel, by decide +kernel, by decide +kernel⟩, ⟨_, _, rfl⟩, rfl, rfl⟩
theorem sv_X7_130 : SV RX7 130 m_X1_lacks 1 1 := ⟨k_510, k_511, k_512, k_42, k_513, ⟨by decide +kernel, by decide +kernel, by decide +kernel⟩, ⟨_, _, rfl⟩, rfl, rfl⟩
theorem sv_X7_133 : SV RX7 133 m_X1_fillUp 1 1 := ⟨k_523, k_524, k_525, k_42, k_526, ⟨by decide +kernel, by decide +kernel, by decide +kernel⟩, ⟨_, _, rfl⟩, rfl, rfl⟩
theorem sv_X7_136 : SV RX7 136 m_X2_giveBack 1 2 := ⟨k_533, k_534, k_535, k_44, k_536, ⟨by decide +kernel, by decide +kernel, by decide +kernel⟩, ⟨_, _, rfl⟩, rfl, rfl⟩
theorem sv_X7_161 : SS RX7 161 m_X7_partBits 2 := ⟨k_541, k_542, k_37, k_543, ⟨by decide +kernel, by decide +kernel, by decide +kernel⟩, rfl, rfl⟩
theorem sv_X7_165 : SV RX7 165 m_X6_fileIn 1 6 := ⟨k_552, k_445, k_446, k_41, k_447, ⟨by decide +kernel, by decide +kernel, by decide +kernel⟩, ⟨_, _, rfl⟩, rfl, rfl⟩
theorem sv_X7_168 : SV RX7 168 m_X6_symbolIn 1 6 := ⟨k_553, k_457, k_458, k_41, k_459, ⟨by decide +kernel, by decide +kernel, by decide +kernel⟩, ⟨_, _, rfl⟩, rfl, rfl⟩
theorem sv_X7_171 : SV RX7 171 m_X6_versionIn 1 6 := ⟨k_554, k_461, k_462, k_41, k_463, ⟨by decide +kernel, by decide +kernel, by decide +kernel⟩, ⟨_, _, rfl⟩, rfl, rfl⟩
theorem sv_X7_183 : SV RX7 183 m_X1_wholeBits 0 1 := ⟨k_559, k_560, k_561, k_42, k_562, ⟨by decide +kernel, by decide +kernel, by decide +kernel⟩, ⟨_, _, rfl⟩, rfl, rfl⟩
theorem sv_X7_196 : SV RX7 196 m_X0_look 3 0 := ⟨k_571, k_572, k_573, k_45, k_574, ⟨by decide +kernel, by decide +kernel, by decide +kernel⟩, ⟨_, _, rfl⟩, rfl, rfl⟩
theorem sv_X7_200 : SV RX7 200 m_X0_waitBehind 1 0 := ⟨k_585, k_586, k_587, k_45, k_588, ⟨by decide +kernel, by decide +kernel, by decide +kernel⟩, ⟨_, _, rfl⟩, rfl, rfl⟩
theorem sv_X7_208 : SS RX7 208 m_X7_bitsOf 1 := ⟨k_544, k_545, k_37, k_546, ⟨by decide +kernel, by decide +kernel, by decide +kernel⟩, rfl, rfl⟩
theorem sv_X7_224 : SV RX7 224 m_X6_allWeights 0 6 := ⟨k_599, k_421, k_422, k_41, k_423, ⟨by decide +kernel, by decide +kernel, by decide +kernel⟩, ⟨_, _, rfl⟩, rfl, rfl⟩
theorem sv_X8_31 : SS RX8 31 m_X8_within 3 := ⟨k_646, k_647, k_46, k_648, ⟨by decide +kernel, by decide +kernel, by decide +kernel⟩, rfl, rfl⟩
theorem sv_X8_44 : SV RX8 44 m_X8_here 0 8 := ⟨k_661, k_663, k_16, k_46, k_664, ⟨by decide +kernel, by decide +kernel, by decide +kernel⟩, ⟨_, _, rfl⟩, rfl, rfl⟩
theorem sv_X8_48 : SV RX8 48 m_X8_passes 3 8 := ⟨k_669, k_671, k_18, k_46, k_672, ⟨by decide +kernel, by decide +kernel, by decide +kernel⟩, ⟨_, _, rfl⟩, rfl, rfl⟩
theorem sv_X8_19 : SV RX8 19 m_X8_laysFile 4 8 := ⟨k_606, k_608, k_13, k_46, k_609, ⟨by decide +kernel, by decide +kernel, by decide +kernel⟩, ⟨_, _, rfl⟩, rfl, rfl⟩
theorem sv_X8_57 : SV RX8 57 m_X8_passesFile 0 8 := ⟨k_665, k_667, k_17, k_46, k_668, ⟨by decide +kernel, by decide +kernel, by decide +kernel⟩, ⟨_, _, rfl⟩, rfl, rfl⟩
theorem sv_X8_61 : SV RX8 61 m_X8_passesTable 0 8 := ⟨k_673, k_675, k_19, k_46, k_676, ⟨by decide +kernel, by decide +kernel, by decide +kernel⟩, ⟨_, _, rfl⟩, rfl, rfl⟩
theorem sv_X8_64 : SV RX8 64 m_X8_faultIs 0 8 := ⟨k_657, k_659, k_15, k_46, k_660, ⟨by decide +kernel, by decide +kernel, by decide +kernel⟩, ⟨_, _, rfl⟩, rfl, rfl⟩
theorem sv_X8_23 : SV RX8 23 m_X8_begins 2 8 := ⟨k_610, k_612, k_14, k_46, k_613, ⟨by decide +kernel, by decide +kernel, by decide +kernel⟩, ⟨_, _, rfl⟩, rfl, rfl⟩
theorem sv_X8_75 : SV RX8 75 m_X8_sendsNext 1 8 := ⟨k_701, k_703, k_23, k_46, k_704, ⟨by decide +kernel, by decide +kernel, by decide +kernel⟩, ⟨_, _, rfl⟩, rfl, rfl⟩
theorem sv_X8_79 : SV RX8 79 m_X8_logs 4 8 := ⟨k_705, k_707, k_24, k_46, k_708, ⟨by decide +kernel, by decide +kernel, by decide +kernel⟩, ⟨_, _, rfl⟩, rfl, rfl⟩
theorem sv_X8_82 : SV RX8 82 m_X8_isLost 2 8 := ⟨k_709, k_711, k_25, k_46, k_712, ⟨by decide +kernel, by decide +kernel, by decide +kernel⟩, ⟨_, _, rfl⟩, rfl, rfl⟩
theorem sv_X8_86 : SV RX8 86 m_X8_hearsTable 2 8 := ⟨k_717, k_719, k_26, k_46, k_720, ⟨by decide +kernel, by decide +kernel, by decide +kernel⟩, ⟨_, _, rfl⟩, rfl, rfl⟩
theorem sv_X8_89 : SV RX8 89 m_X8_hearsSymbol 4 8 := ⟨k_721, k_723, k_27, k_46, k_724, ⟨by decide +kernel, by decide +kernel, by decide +kernel⟩, ⟨_, _, rfl⟩, rfl, rfl⟩
theorem sv_X8_92 : SV RX8 92 m_X8_copies 2 8 := ⟨k_685, k_687, k_20, k_46, k_688, ⟨by decide +kernel, by decide +kernel, by decide +kernel⟩, ⟨_, _, rfl⟩, rfl, rfl⟩
theorem sv_X8_95 : SV RX8 95 m_X8_minds 0 8 := ⟨k_693, k_695, k_21, k_46, k_696, ⟨by decide +kernel, by decide +kernel, by decide +kernel⟩, ⟨_, _, rfl⟩, rfl, rfl⟩
theorem sv_X8_98 : SV RX8 98 m_X8_ticks 1 8 := ⟨k_697, k_699, k_22, k_46, k_700, ⟨by decide +kernel, by decide +kernel, by decide +kernel⟩, ⟨_, _, rfl⟩, rfl, rfl⟩
theorem sv_X8_101 : SV RX8 101 m_X8_isFile 1 8 := ⟨k_729, k_731, k_28, k_46, k_732, ⟨by decide +kernel, by decide +kernel, by decide +kernel⟩, ⟨_, _, rfl⟩, rfl, rfl⟩
theorem sv_X8_105 : SS RX8 105 m_X8_ones 1 := ⟨k_753, k_754, k_46, k_755, ⟨by decide +kernel, by decide +kernel, by decide +kernel⟩, rfl, rfl⟩
theorem sv_X8_108 : SV RX8 108 m_X8_isListener 1 8 := ⟨k_745, k_747, k_29, k_46, k_748, ⟨by decide +kernel, by decide +kernel, by decide +kernel⟩, ⟨_, _, rfl⟩, rfl, rfl⟩
theorem sv_X8_111 : SV RX8 111 m_X8_lacks 2 8 := ⟨k_749, k_751, k_30, k_46, k_752, ⟨by decide +kernel, by decide +kernel, by decide +kernel⟩, ⟨_, _, rfl⟩, rfl, rfl⟩
theorem sv_X8_115 : SV RX8 115 m_X8_knows 1 8 := ⟨k_756, k_758, k_31, k_46, k_759, ⟨by decide +kernel, by decide +kernel, by decide +kernel⟩, ⟨_, _, rfl⟩, rfl, rfl⟩
theorem sv_X8_118 : SS RX8 118 m_Jxf58ca_floatToIntBits_5c35a 1 := ⟨k_768, k_769, k_49, k_770, ⟨by decide +kernel, by decide +kernel, by decide +kernel⟩, rfl, rfl⟩
theorem sv_X8_124 : SV RX8 124 m_X8_partBits 1 8 := ⟨k_764, k_766, k_32, k_46, k_767, ⟨by decide +kernel, by decide +kernel, by decide +kernel⟩, ⟨_, _, rfl⟩, rfl, rfl⟩
theorem sv_X8_127 : SV RX8 127 m_X8_wholes 1 8 := ⟨k_786, k_788, k_33, k_46, k_789, ⟨by decide +kernel, by decide +kernel, by decide +kernel⟩, ⟨_, _, rfl⟩, rfl, rfl⟩
theorem sv_X8_130 : SV RX8 130 m_X8_waitsFrom 1 8 := ⟨k_802, k_804, k_35, k_46, k_805, ⟨by decide +kernel, by decide +kernel, by decide +kernel⟩, ⟨_, _, rfl⟩, rfl, rfl⟩
theorem sv_X8_133 : SV RX8 133 m_X8_waitIs 2 8 := ⟨k_798, k_800, k_34, k_46, k_801, ⟨by decide +kernel, by decide +kernel, by decide +kernel⟩, ⟨_, _, rfl⟩, rfl, rfl⟩
theorem sv_Jxf58ca_59 : SS RJxf58ca 59 m_Jxf58ca_isNaN_12338 1 := ⟨k_771, k_772, k_49, k_773, ⟨by decide +kernel, by decide +kernel, by decide +kernel⟩, rfl, rfl⟩
theorem sv_L_13 : SV RL 13 m_X7_write 1 7 := ⟨k_306, k_307, k_308, k_37, k_309, ⟨by decide +kernel, by decide +kernel, by decide +kernel⟩, ⟨_, _, rfl⟩, rfl, rfl⟩
theorem sv_L_17 : SV RL 17 m_X8_write 1 8 := ⟨k_642, k_643, k_644, k_46, k_645, ⟨by decide +kernel, by decide +kernel, by decide +kernel⟩, ⟨_, _, rfl⟩, rfl, rfl⟩
theorem sv_L_18 : SV RL 18 m_X7_wipe 0 7 := ⟨k_314, k_315, k_316, k_37, k_317, ⟨by decide +kernel, by decide +kernel, by decide +kernel⟩, ⟨_, _, rfl⟩, rfl, rfl⟩
theorem sv_L_22 : SV RL 22 m_X8_wipe 0 8 := ⟨k_649, k_650, k_651, k_46, k_652, ⟨by decide +kernel, by decide +kernel, by decide +kernel⟩, ⟨_, _, rfl⟩, rfl, rfl⟩
theorem sv_L_23 : SV RL 23 m_X7_fault 0 7 := ⟨k_318, k_319, k_320, k_37, k_321, ⟨by decide +kernel, by decide +kernel, by decide +kernel⟩, ⟨_, _, rfl⟩, rfl, rfl⟩
theorem sv_L_26 : SV RL 26 m_X8_fault 0 8 := ⟨k_653, k_654, k_655, k_46, k_656, ⟨by decide +kernel, by decide +kernel, by decide +kernel⟩, ⟨_, _, rfl⟩, rfl, rfl⟩
theorem sv_L_27 : SV RL 27 m_X7_lay 0 7 := ⟨k_357, k_358, k_359, k_37, k_360, ⟨by decide +kernel, by decide +kernel, by decide +kernel⟩, ⟨_, _, rfl⟩, rfl, rfl⟩
theorem sv_L_30 : SV RL 30 m_X8_lay 0 8 := ⟨k_677, k_678, k_679, k_46, k_680, ⟨by decide +kernel, by decide +kernel, by decide +kernel⟩, ⟨_, _, rfl⟩, rfl, rfl⟩
theorem sv_L_31 : SV RL 31 m_X7_tick 1 7 := ⟨k_370, k_371, k_372, k_37, k_373, ⟨by decide +kernel, by decide +kernel, by decide +kernel⟩, ⟨_, _, rfl⟩, rfl, rfl⟩
theorem sv_L_34 : SV RL 34 m_X8_tick 1 8 := ⟨k_689, k_690, k_691, k_46, k_692, ⟨by decide +kernel, by decide +kernel, by decide +kernel⟩, ⟨_, _, rfl⟩, rfl, rfl⟩
theorem sv_L_35 : SV RL 35 m_X7_renew 1 7 := ⟨k_472, k_473, k_474, k_37, k_475, ⟨by decide +kernel, by decide +kernel, by decide +kernel⟩, ⟨_, _, rfl⟩, rfl, rfl⟩
theorem sv_L_38 : SV RL 38 m_X8_renew 1 8 := ⟨k_725, k_726, k_727, k_46, k_728, ⟨by decide +kernel, by decide +kernel, by decide +kernel⟩, ⟨_, _, rfl⟩, rfl, rfl⟩
theorem sv_L_39 : SV RL 39 m_X7_weigh 2 7 := ⟨k_481, k_482, k_483, k_37, k_484, ⟨by decide +kernel, by decide +kernel, by decide +kernel⟩, ⟨_, _, rfl⟩, rfl, rfl⟩
theorem sv_L_43 : SV RL 43 m_X8_weigh 2 8 := ⟨k_733, k_734, k_735, k_46, k_736, ⟨by decide +kernel, by decide +kernel, by decide +kernel⟩, ⟨_, _, rfl⟩, rfl, rfl⟩
theorem sv_L_44 : SV RL 44 m_X7_join 1 7 := ⟨k_485, k_486, k_487, k_37, k_488, ⟨by decide +kernel, by decide +kernel, by decide +kernel⟩, ⟨_, _, rfl⟩, rfl, rfl⟩
theorem sv_L_47 : SV RL 47 m_X8_join 1 8 := ⟨k_737, k_738, k_739, k_46, k_740, ⟨by decide +kernel, by decide +kernel, by decide +kernel⟩, ⟨_, _, rfl⟩, rfl, rfl⟩
theorem sv_L_48 : SV RL 48 m_X7_repair 2 7 := ⟨k_501, k_502, k_503, k_37, k_504, ⟨by decide +kernel, by decide +kernel, by decide +kernel⟩, ⟨_, _, rfl⟩, rfl, rfl⟩
theorem sv_L_51 : SV RL 51 m_X8_repair 2 8 := ⟨k_741, k_742, k_743, k_46, k_744, ⟨by decide +kernel, by decide +kernel, by decide +kernel⟩, ⟨_, _, rfl⟩, rfl, rfl⟩
theorem sv_L_52 : SV RL 52 m_X7_undo 0 7 := ⟨k_529, k_530, k_531, k_37, k_532, ⟨by decide +kernel, by decide +kernel, by decide +kernel⟩, ⟨_, _, rfl⟩, rfl, rfl⟩
theorem sv_L_55 : SV RL 55 m_X8_undo 0 8 := ⟨k_681, k_682, k_683, k_46, k_684, ⟨by decide +kernel, by decide +kernel, by decide +kernel⟩, ⟨_, _, rfl⟩, rfl, rfl⟩
theorem sv_L_56 : SV RL 56 m_X7_file 2 7 := ⟨k_537, k_538, k_539, k_37, k_540, ⟨by decide +kernel, by decide +kernel, by decide +kernel⟩, ⟨_, _, rfl⟩, rfl, rfl⟩
theorem sv_L_59 : SV RL 59 m_X8_file 2 8 := ⟨k_760, k_761, k_762, k_46, k_763, ⟨by decide +kernel, by decide +kernel, by decide +kernel⟩, ⟨_, _, rfl⟩, rfl, rfl⟩
theorem sv_L_60 : SV RL 60 m_X7_sent 2 7 := ⟨k_548, k_549, k_550, k_37, k_551, ⟨by decide +kernel, by decide +kernel, by decide +kernel⟩, ⟨_, _, rfl⟩, rfl, rfl⟩
theorem sv_L_63 : SV RL 63 m_X8_sent 2 8 := ⟨k_778, k_779, k_780, k_46, k_781, ⟨by decide +kernel, by decide +kernel, by decide +kernel⟩, ⟨_, _, rfl⟩, rfl, rfl⟩
theorem sv_L_64 : SV RL 64 m_X7_listener 2 7 := ⟨k_555, k_556, k_557, k_37, k_558, ⟨by decide +kernel, by decide +kernel, by decide +kernel⟩, ⟨_, _, rfl⟩, rfl, rfl⟩
theorem sv_L_67 : SV RL 67 m_X8_listener 2 8 := ⟨k_782, k_783, k_784, k_46, k_785, ⟨by decide +kernel, by decide +kernel, by decide +kernel⟩, ⟨_, _, rfl⟩, rfl, rfl⟩
theorem sv_L_68 : SV RL 68 m_X7_holds 3 7 := ⟨k_563, k_564, k_565, k_37, k_566, ⟨by decide +kernel, by decide +kernel, by decide +kernel⟩, ⟨_, _, rfl⟩, rfl, rfl⟩
theorem sv_L_72 : SV RL 72 m_X8_holds 3 8 := ⟨k_790, k_791, k_792, k_46, k_793, ⟨by decide +kernel, by decide +kernel, by decide +kernel⟩, ⟨_, _, rfl⟩, rfl, rfl⟩
theorem sv_L_73 : SV RL 73 m_X7_waits 2 7 := ⟨k_567, k_568, k_569, k_37, k_570, ⟨by decide +kernel, by decide +kernel, by decide +kernel⟩, ⟨_, _, rfl⟩, rfl, rfl⟩
theorem sv_L_76 : SV RL 76 m_X8_waits 2 8 := ⟨k_794, k_795, k_796, k_46, k_797, ⟨by decide +kernel, by decide +kernel, by decide +kernel⟩, ⟨_, _, rfl⟩, rfl, rfl⟩
theorem sv_L_77 : SV RL 77 m_X7_mean 3 7 := ⟨k_590, k_591, k_592, k_37, k_593, ⟨by decide +kernel, by decide +kernel, by decide +kernel⟩, ⟨_, _, rfl⟩, rfl, rfl⟩
theorem sv_L_80 : SV RL 80 m_X8_mean 3 8 := ⟨k_806, k_807, k_808, k_46, k_809, ⟨by decide +kernel, by decide +kernel, by decide +kernel⟩, ⟨_, _, rfl⟩, rfl, rfl⟩
theorem sv_L_81 : SV RL 81 m_X7_count 1 7 := ⟨k_595, k_596, k_597, k_37, k_598, ⟨by decide +kernel, by decide +kernel, by decide +kernel⟩, ⟨_, _, rfl⟩, rfl, rfl⟩
theorem sv_L_84 : SV RL 84 m_X8_count 1 8 := ⟨k_810, k_811, k_812, k_46, k_813, ⟨by decide +kernel, by decide +kernel, by decide +kernel⟩, ⟨_, _, rfl⟩, rfl, rfl⟩
