/-! CONSTRUCTORS: words, decode rows, what they stand on -/
theorem wr_127 : (.methodLink RX11 1 objectInit : Cond) ∈ lw_good := lw_mem (mm_1 (List.mem_of_getElem? (i := 32) (by decide +kernel))) (by decide +kernel)
theorem wr_128 : (.instanceMethod objectInit : Cond) ∈ lw_good := lw_mem (mm_1 (List.mem_of_getElem? (i := 33) (by decide +kernel))) (by decide +kernel)
theorem wr_129 : (.code objectInit ⟨#[0xb1]⟩ 1 none : Cond) ∈ lw_good := lw_mem (mm_1 (List.mem_of_getElem? (i := 34) (rfl))) (by decide +kernel)
theorem wr_130 : (.classLink RX11 7 RX6 : Cond) ∈ lw_good := lw_mem (mm_1 (List.mem_of_getElem? (i := 35) (by decide +kernel))) (by decide +kernel)
theorem wr_131 : (.instantiable RX6 4 : Cond) ∈ lw_good := lw_mem (mm_1 (List.mem_of_getElem? (i := 36) (by decide +kernel))) (by decide +kernel)
theorem wr_133 : (.instanceMethod yX6_init : Cond) ∈ lw_good := lw_mem (mm_1 (List.mem_of_getElem? (i := 38) (by decide +kernel))) (by decide +kernel)
theorem wr_134 : (.code yX6_init cX6_init 1 none : Cond) ∈ lw_good := lw_mem (mm_1 (List.mem_of_getElem? (i := 39) (rfl))) (by decide +kernel)
theorem wr_135 : (.methodLink RX6 3 objectInit : Cond) ∈ lw_good := lw_mem (mm_1 (List.mem_of_getElem? (i := 40) (by decide +kernel))) (by decide +kernel)
theorem wr_151 : (.arrayClass .char : Cond) ∈ lw_good := lw_mem (mm_1 (List.mem_of_getElem? (i := 56) (by decide +kernel))) (by decide +kernel)
theorem wr_152 : (.classLink RX11 16 RX4 : Cond) ∈ lw_good := lw_mem (mm_1 (List.mem_of_getElem? (i := 57) (by decide +kernel))) (by decide +kernel)
theorem wr_153 : (.instantiable RX4 2 : Cond) ∈ lw_good := lw_mem (mm_1 (List.mem_of_getElem? (i := 58) (by decide +kernel))) (by decide +kernel)
theorem wr_155 : (.instanceMethod yX4_init : Cond) ∈ lw_good := lw_mem (mm_1 (List.mem_of_getElem? (i := 60) (by decide +kernel))) (by decide +kernel)
theorem wr_156 : (.code yX4_init cX4_init 1 none : Cond) ∈ lw_good := lw_mem (mm_1 (List.mem_of_getElem? (i := 61) (rfl))) (by decide +kernel)
theorem wr_157 : (.methodLink RX4 3 objectInit : Cond) ∈ lw_good := lw_mem (mm_1 (List.mem_of_getElem? (i := 62) (by decide +kernel))) (by decide +kernel)
theorem wr_166 : (.arrayClass .long : Cond) ∈ lw_good := lw_mem (mm_1 (List.mem_of_getElem? (i := 71) (by decide +kernel))) (by decide +kernel)
theorem wr_167 : (.classLink RX11 23 RX1 : Cond) ∈ lw_good := lw_mem (mm_1 (List.mem_of_getElem? (i := 72) (by decide +kernel))) (by decide +kernel)
theorem wr_168 : (.instantiable RX1 9 : Cond) ∈ lw_good := lw_mem (mm_1 (List.mem_of_getElem? (i := 73) (by decide +kernel))) (by decide +kernel)
theorem wr_170 : (.instanceMethod yX1_init : Cond) ∈ lw_good := lw_mem (mm_1 (List.mem_of_getElem? (i := 75) (by decide +kernel))) (by decide +kernel)
theorem wr_171 : (.code yX1_init cX1_init 1 none : Cond) ∈ lw_good := lw_mem (mm_1 (List.mem_of_getElem? (i := 76) (rfl))) (by decide +kernel)
theorem wr_172 : (.methodLink RX1 3 objectInit : Cond) ∈ lw_good := lw_mem (mm_1 (List.mem_of_getElem? (i := 77) (by decide +kernel))) (by decide +kernel)
theorem wr_209 : (.arrayClass .int : Cond) ∈ lw_good := lw_mem (mm_1 (List.mem_of_getElem? (i := 114) (by decide +kernel))) (by decide +kernel)
theorem wr_210 : (.classLink RX11 33 RX2 : Cond) ∈ lw_good := lw_mem (mm_1 (List.mem_of_getElem? (i := 115) (by decide +kernel))) (by decide +kernel)
theorem wr_211 : (.instantiable RX2 3 : Cond) ∈ lw_good := lw_mem (mm_1 (List.mem_of_getElem? (i := 116) (by decide +kernel))) (by decide +kernel)
theorem wr_212 : (.methodLink RX11 35 yX2_init : Cond) ∈ lw_good := lw_mem (mm_1 (List.mem_of_getElem? (i := 117) (by decide +kernel))) (by decide +kernel)
theorem wr_213 : (.instanceMethod yX2_init : Cond) ∈ lw_good := lw_mem (mm_1 (List.mem_of_getElem? (i := 118) (by decide +kernel))) (by decide +kernel)
theorem wr_214 : (.code yX2_init cX2_init 2 none : Cond) ∈ lw_good := lw_mem (mm_1 (List.mem_of_getElem? (i := 119) (rfl))) (by decide +kernel)
theorem wr_215 : (.methodLink RX2 1 objectInit : Cond) ∈ lw_good := lw_mem (mm_1 (List.mem_of_getElem? (i := 120) (by decide +kernel))) (by decide +kernel)
theorem wr_216 : (.classLink RX2 9 RX1 : Cond) ∈ lw_good := lw_mem (mm_1 (List.mem_of_getElem? (i := 121) (by decide +kernel))) (by decide +kernel)
theorem wr_230 : (.classLink RX11 51 RX5 : Cond) ∈ lw_good := lw_mem (mm_1 (List.mem_of_getElem? (i := 135) (by decide +kernel))) (by decide +kernel)
theorem wr_231 : (.instantiable RX5 4 : Cond) ∈ lw_good := lw_mem (mm_1 (List.mem_of_getElem? (i := 136) (by decide +kernel))) (by decide +kernel)
theorem wr_233 : (.instanceMethod yX5_init : Cond) ∈ lw_good := lw_mem (mm_1 (List.mem_of_getElem? (i := 138) (by decide +kernel))) (by decide +kernel)
theorem wr_234 : (.code yX5_init cX5_init 1 none : Cond) ∈ lw_good := lw_mem (mm_1 (List.mem_of_getElem? (i := 139) (rfl))) (by decide +kernel)
theorem wr_235 : (.methodLink RX5 3 objectInit : Cond) ∈ lw_good := lw_mem (mm_1 (List.mem_of_getElem? (i := 140) (by decide +kernel))) (by decide +kernel)
theorem wr_249 : (.classLink RX11 61 RX8 : Cond) ∈ lw_good := lw_mem (mm_1 (List.mem_of_getElem? (i := 154) (by decide +kernel))) (by decide +kernel)
theorem wr_250 : (.instantiable RX8 3 : Cond) ∈ lw_good := lw_mem (mm_1 (List.mem_of_getElem? (i := 155) (by decide +kernel))) (by decide +kernel)
theorem wr_252 : (.instanceMethod yX8_init : Cond) ∈ lw_good := lw_mem (mm_1 (List.mem_of_getElem? (i := 157) (by decide +kernel))) (by decide +kernel)
theorem wr_253 : (.code yX8_init cX8_init 1 none : Cond) ∈ lw_good := lw_mem (mm_1 (List.mem_of_getElem? (i := 158) (rfl))) (by decide +kernel)
theorem wr_254 : (.methodLink RX8 3 objectInit : Cond) ∈ lw_good := lw_mem (mm_1 (List.mem_of_getElem? (i := 159) (by decide +kernel))) (by decide +kernel)
theorem wr_266 : (.classLink RX11 68 RX9 : Cond) ∈ lw_good := lw_mem (mm_1 (List.mem_of_getElem? (i := 171) (by decide +kernel))) (by decide +kernel)
theorem wr_267 : (.instantiable RX9 2 : Cond) ∈ lw_good := lw_mem (mm_1 (List.mem_of_getElem? (i := 172) (by decide +kernel))) (by decide +kernel)
theorem wr_269 : (.instanceMethod yX9_init : Cond) ∈ lw_good := lw_mem (mm_1 (List.mem_of_getElem? (i := 174) (by decide +kernel))) (by decide +kernel)
theorem wr_270 : (.code yX9_init cX9_init 1 none : Cond) ∈ lw_good := lw_mem (mm_1 (List.mem_of_getElem? (i := 175) (rfl))) (by decide +kernel)
theorem wr_271 : (.methodLink RX9 3 objectInit : Cond) ∈ lw_good := lw_mem (mm_1 (List.mem_of_getElem? (i := 176) (by decide +kernel))) (by decide +kernel)
theorem wr_279 : (.classLink RX11 75 RX7 : Cond) ∈ lw_good := lw_mem (mm_1 (List.mem_of_getElem? (i := 184) (by decide +kernel))) (by decide +kernel)
theorem wr_280 : (.instantiable RX7 3 : Cond) ∈ lw_good := lw_mem (mm_1 (List.mem_of_getElem? (i := 185) (by decide +kernel))) (by decide +kernel)
theorem wr_282 : (.instanceMethod yX7_init : Cond) ∈ lw_good := lw_mem (mm_1 (List.mem_of_getElem? (i := 187) (by decide +kernel))) (by decide +kernel)
theorem wr_283 : (.code yX7_init cX7_init 1 none : Cond) ∈ lw_good := lw_mem (mm_1 (List.mem_of_getElem? (i := 188) (rfl))) (by decide +kernel)
theorem wr_284 : (.methodLink RX7 1 objectInit : Cond) ∈ lw_good := lw_mem (mm_1 (List.mem_of_getElem? (i := 189) (by decide +kernel))) (by decide +kernel)
theorem wr_298 : (.classLink RX11 82 RX0 : Cond) ∈ lw_good := lw_mem (mm_1 (List.mem_of_getElem? (i := 203) (by decide +kernel))) (by decide +kernel)
theorem wr_299 : (.instantiable RX0 9 : Cond) ∈ lw_good := lw_mem (mm_1 (List.mem_of_getElem? (i := 204) (by decide +kernel))) (by decide +kernel)
theorem wr_300 : (.methodLink RX11 84 yX0_init : Cond) ∈ lw_good := lw_mem (mm_1 (List.mem_of_getElem? (i := 205) (by decide +kernel))) (by decide +kernel)
theorem wr_301 : (.instanceMethod yX0_init : Cond) ∈ lw_good := lw_mem (mm_1 (List.mem_of_getElem? (i := 206) (by decide +kernel))) (by decide +kernel)
theorem wr_302 : (.code yX0_init cX0_init 1 none : Cond) ∈ lw_good := lw_mem (mm_1 (List.mem_of_getElem? (i := 207) (rfl))) (by decide +kernel)
theorem wr_303 : (.methodLink RX0 3 objectInit : Cond) ∈ lw_good := lw_mem (mm_1 (List.mem_of_getElem? (i := 208) (by decide +kernel))) (by decide +kernel)
theorem wr_304 : (.methodLink RX0 35 yJ7_fill_53178 : Cond) ∈ lw_good := lw_mem (mm_1 (List.mem_of_getElem? (i := 209) (by decide +kernel))) (by decide +kernel)
theorem wr_344 : (.classLink RX11 89 RX10 : Cond) ∈ lw_good := lw_mem (mm_2 (List.mem_of_getElem? (i := 9) (by decide +kernel))) (by decide +kernel)
theorem wr_345 : (.instantiable RX10 8 : Cond) ∈ lw_good := lw_mem (mm_2 (List.mem_of_getElem? (i := 10) (by decide +kernel))) (by decide +kernel)
theorem wr_346 : (.methodLink RX11 91 yX10_init : Cond) ∈ lw_good := lw_mem (mm_2 (List.mem_of_getElem? (i := 11) (by decide +kernel))) (by decide +kernel)
theorem wr_347 : (.instanceMethod yX10_init : Cond) ∈ lw_good := lw_mem (mm_2 (List.mem_of_getElem? (i := 12) (by decide +kernel))) (by decide +kernel)
theorem wr_348 : (.code yX10_init cX10_init 2 none : Cond) ∈ lw_good := lw_mem (mm_2 (List.mem_of_getElem? (i := 13) (rfl))) (by decide +kernel)
theorem wr_349 : (.methodLink RX10 3 objectInit : Cond) ∈ lw_good := lw_mem (mm_2 (List.mem_of_getElem? (i := 14) (by decide +kernel))) (by decide +kernel)
theorem wr_350 : (.classLink RX10 9 RX3 : Cond) ∈ lw_good := lw_mem (mm_2 (List.mem_of_getElem? (i := 15) (by decide +kernel))) (by decide +kernel)
theorem wr_351 : (.instantiable RX3 4 : Cond) ∈ lw_good := lw_mem (mm_2 (List.mem_of_getElem? (i := 16) (by decide +kernel))) (by decide +kernel)
theorem wr_353 : (.instanceMethod yX3_init : Cond) ∈ lw_good := lw_mem (mm_2 (List.mem_of_getElem? (i := 18) (by decide +kernel))) (by decide +kernel)
theorem wr_354 : (.code yX3_init cX3_init 1 none : Cond) ∈ lw_good := lw_mem (mm_2 (List.mem_of_getElem? (i := 19) (rfl))) (by decide +kernel)
theorem wr_355 : (.methodLink RX3 5 objectInit : Cond) ∈ lw_good := lw_mem (mm_2 (List.mem_of_getElem? (i := 20) (by decide +kernel))) (by decide +kernel)
theorem wr_1236 : (.methodLink RX12 18 objectInit : Cond) ∈ lw_good := lw_mem (mm_5 (List.mem_of_getElem? (i := 181) (by decide +kernel))) (by decide +kernel)
theorem wr_1397 : (.arrayClass .boolean : Cond) ∈ lw_good := lw_mem (mm_6 (List.mem_of_getElem? (i := 102) (by decide +kernel))) (by decide +kernel)
theorem df_0 : ∀ j, j < 9 → defaultValue (tyX0 j) = vp_V [.int 0, .int 0, .int 0, .null, .null, .null, .long 0, .long 0, .long 0] j := by decide +kernel
theorem df_1 : ∀ j, j < 9 → defaultValue (tyX1 j) = vp_V [.null, .int 0, .int 0, .long 0, .int 0, .int 0, .int 0, .int 0, .int 0] j := by decide +kernel
theorem df_2 : ∀ j, j < 3 → defaultValue (tyX2 j) = vp_V [.null, .int 0, .int 0] j := by decide +kernel
theorem df_3 : ∀ j, j < 4 → defaultValue (tyX3 j) = vp_V [.null, .int 0, .int 0, .int 0] j := by decide +kernel
theorem df_4 : ∀ j, j < 2 → defaultValue (tyX4 j) = vp_V [.null, .int 0] j := by decide +kernel
theorem df_5 : ∀ j, j < 4 → defaultValue (tyX5 j) = vp_V [.null, .int 0, .null, .int 0] j := by decide +kernel
theorem df_6 : ∀ j, j < 4 → defaultValue (tyX6 j) = vp_V [.null, .int 0, .int 0, .int 0] j := by decide +kernel
theorem df_7 : ∀ j, j < 3 → defaultValue (tyX7 j) = vp_V [.null, .null, .int 0] j := by decide +kernel
theorem df_8 : ∀ j, j < 3 → defaultValue (tyX8 j) = vp_V [.int 0, .int 0, .int 0] j := by decide +kernel
theorem df_9 : ∀ j, j < 2 → defaultValue (tyX9 j) = vp_V [.null, .int 0] j := by decide +kernel
theorem df_10 : ∀ j, j < 8 → defaultValue (tyX10 j) = vp_V [.null, .null, .null, .int 0, .long 0, .null, .int 0, .long 0] j := by decide +kernel
theorem df_11 : ∀ j, j < 16 → defaultValue (tyX11 j) = vp_V [.null, .null, .null, .null, .null, .null, .null, .null, .int 0, .int 0, .null, .null, .null, .null, .null, .null] j := by decide +kernel
theorem df_12 : ∀ j, j < 53 → defaultValue (tyX12 j) = vp_V [.int 0, .int 0, .null, .int 0, .int 0, .int 0, .int 0, .null, .null, .null, .null, .null, .null, .null, .int 0, .int 0, .int 0, .int 0, .null, .int 0, .null, .int 0, .null, .null, .int 0, .int 0, .null, .null, .int 0, .null, .null, .null, .null, .int 0, .null, .null, .null, .int 0, .long 0, .int 0, .null, .int 0, .null, .null, .null, .int 0, .null, .null, .null, .int 0, .null, .null, .null] j := by decide +kernel
theorem dX6_init_0 : decode cX6_init 0 = .ok (.aload_n 0, 1) := by decide +kernel
theorem dX6_init_1 : decode cX6_init 1 = .ok (.invokespecial 3, 3) := by decide +kernel
theorem dX6_init_4 : decode cX6_init 4 = .ok (.aload_n 0, 1) := by decide +kernel
theorem dX6_init_5 : decode cX6_init 5 = .ok (.bipush 80, 2) := by decide +kernel
theorem dX6_init_7 : decode cX6_init 7 = .ok (.newarray .char, 2) := by decide +kernel
theorem dX6_init_9 : decode cX6_init 9 = .ok (.putfield 11, 3) := by decide +kernel
theorem dX6_init_12 : decode cX6_init 12 = .ok (.return_, 1) := by decide +kernel
theorem dX4_init_0 : decode cX4_init 0 = .ok (.aload_n 0, 1) := by decide +kernel
theorem dX4_init_1 : decode cX4_init 1 = .ok (.invokespecial 3, 3) := by decide +kernel
theorem dX4_init_4 : decode cX4_init 4 = .ok (.aload_n 0, 1) := by decide +kernel
theorem dX4_init_5 : decode cX4_init 5 = .ok (.bipush 36, 2) := by decide +kernel
theorem dX4_init_7 : decode cX4_init 7 = .ok (.newarray .long, 2) := by decide +kernel
theorem dX4_init_9 : decode cX4_init 9 = .ok (.putfield 9, 3) := by decide +kernel
theorem dX4_init_12 : decode cX4_init 12 = .ok (.return_, 1) := by decide +kernel
theorem dX1_init_0 : decode cX1_init 0 = .ok (.aload_n 0, 1) := by decide +kernel
theorem dX1_init_1 : decode cX1_init 1 = .ok (.invokespecial 3, 3) := by decide +kernel
theorem dX1_init_4 : decode cX1_init 4 = .ok (.aload_n 0, 1) := by decide +kernel
theorem dX1_init_5 : decode cX1_init 5 = .ok (.bipush 8, 2) := by decide +kernel
theorem dX1_init_7 : decode cX1_init 7 = .ok (.newarray .int, 2) := by decide +kernel
theorem dX1_init_9 : decode cX1_init 9 = .ok (.putfield 9, 3) := by decide +kernel
theorem dX1_init_12 : decode cX1_init 12 = .ok (.return_, 1) := by decide +kernel
theorem dX2_init_0 : decode cX2_init 0 = .ok (.aload_n 0, 1) := by decide +kernel
theorem dX2_init_1 : decode cX2_init 1 = .ok (.invokespecial 1, 3) := by decide +kernel
theorem dX2_init_4 : decode cX2_init 4 = .ok (.aload_n 0, 1) := by decide +kernel
theorem dX2_init_5 : decode cX2_init 5 = .ok (.bipush 15, 2) := by decide +kernel
theorem dX2_init_7 : decode cX2_init 7 = .ok (.anewarray 9, 3) := by decide +kernel
theorem dX2_init_10 : decode cX2_init 10 = .ok (.putfield 11, 3) := by decide +kernel
theorem dX2_init_13 : decode cX2_init 13 = .ok (.iconst 0, 1) := by decide +kernel
theorem dX2_init_14 : decode cX2_init 14 = .ok (.istore_n 1, 1) := by decide +kernel
theorem dX2_init_15 : decode cX2_init 15 = .ok (.iload_n 1, 1) := by decide +kernel
theorem dX2_init_16 : decode cX2_init 16 = .ok (.bipush 15, 2) := by decide +kernel
theorem dX2_init_18 : decode cX2_init 18 = .ok (.if_icmp .ge 22, 3) := by decide +kernel
theorem dX2_init_21 : decode cX2_init 21 = .ok (.aload_n 0, 1) := by decide +kernel
theorem dX2_init_22 : decode cX2_init 22 = .ok (.getfield 11, 3) := by decide +kernel
theorem dX2_init_25 : decode cX2_init 25 = .ok (.iload_n 1, 1) := by decide +kernel
theorem dX2_init_26 : decode cX2_init 26 = .ok (.new 9, 3) := by decide +kernel
theorem dX2_init_29 : decode cX2_init 29 = .ok (.dup, 1) := by decide +kernel
theorem dX2_init_30 : decode cX2_init 30 = .ok (.invokespecial 15, 3) := by decide +kernel
theorem dX2_init_33 : decode cX2_init 33 = .ok (.aastore, 1) := by decide +kernel
theorem dX2_init_34 : decode cX2_init 34 = .ok (.iinc 1 1, 3) := by decide +kernel
theorem dX2_init_37 : decode cX2_init 37 = .ok (.goto (-22), 3) := by decide +kernel
theorem dX2_init_40 : decode cX2_init 40 = .ok (.return_, 1) := by decide +kernel
theorem dX5_init_0 : decode cX5_init 0 = .ok (.aload_n 0, 1) := by decide +kernel
theorem dX5_init_1 : decode cX5_init 1 = .ok (.invokespecial 3, 3) := by decide +kernel
theorem dX5_init_4 : decode cX5_init 4 = .ok (.aload_n 0, 1) := by decide +kernel
theorem dX5_init_5 : decode cX5_init 5 = .ok (.bipush 40, 2) := by decide +kernel
theorem dX5_init_7 : decode cX5_init 7 = .ok (.newarray .int, 2) := by decide +kernel
theorem dX5_init_9 : decode cX5_init 9 = .ok (.putfield 11, 3) := by decide +kernel
theorem dX5_init_12 : decode cX5_init 12 = .ok (.aload_n 0, 1) := by decide +kernel
theorem dX5_init_13 : decode cX5_init 13 = .ok (.bipush 40, 2) := by decide +kernel
theorem dX5_init_15 : decode cX5_init 15 = .ok (.newarray .int, 2) := by decide +kernel
theorem dX5_init_17 : decode cX5_init 17 = .ok (.putfield 15, 3) := by decide +kernel
theorem dX5_init_20 : decode cX5_init 20 = .ok (.return_, 1) := by decide +kernel
theorem dX8_init_0 : decode cX8_init 0 = .ok (.aload_n 0, 1) := by decide +kernel
theorem dX8_init_1 : decode cX8_init 1 = .ok (.invokespecial 3, 3) := by decide +kernel
theorem dX8_init_4 : decode cX8_init 4 = .ok (.aload_n 0, 1) := by decide +kernel
theorem dX8_init_5 : decode cX8_init 5 = .ok (.iconst 1, 1) := by decide +kernel
theorem dX8_init_6 : decode cX8_init 6 = .ok (.putfield 9, 3) := by decide +kernel
theorem dX8_init_9 : decode cX8_init 9 = .ok (.aload_n 0, 1) := by decide +kernel
theorem dX8_init_10 : decode cX8_init 10 = .ok (.bipush 99, 2) := by decide +kernel
theorem dX8_init_12 : decode cX8_init 12 = .ok (.putfield 15, 3) := by decide +kernel
theorem dX8_init_15 : decode cX8_init 15 = .ok (.return_, 1) := by decide +kernel
theorem dX9_init_0 : decode cX9_init 0 = .ok (.aload_n 0, 1) := by decide +kernel
theorem dX9_init_1 : decode cX9_init 1 = .ok (.invokespecial 3, 3) := by decide +kernel
theorem dX9_init_4 : decode cX9_init 4 = .ok (.aload_n 0, 1) := by decide +kernel
theorem dX9_init_5 : decode cX9_init 5 = .ok (.iconst 4, 1) := by decide +kernel
theorem dX9_init_6 : decode cX9_init 6 = .ok (.newarray .int, 2) := by decide +kernel
theorem dX9_init_8 : decode cX9_init 8 = .ok (.putfield 11, 3) := by decide +kernel
theorem dX9_init_11 : decode cX9_init 11 = .ok (.return_, 1) := by decide +kernel
theorem dX7_init_0 : decode cX7_init 0 = .ok (.aload_n 0, 1) := by decide +kernel
theorem dX7_init_1 : decode cX7_init 1 = .ok (.invokespecial 1, 3) := by decide +kernel
theorem dX7_init_4 : decode cX7_init 4 = .ok (.aload_n 0, 1) := by decide +kernel
theorem dX7_init_5 : decode cX7_init 5 = .ok (.bipush 61, 2) := by decide +kernel
theorem dX7_init_7 : decode cX7_init 7 = .ok (.newarray .int, 2) := by decide +kernel
theorem dX7_init_9 : decode cX7_init 9 = .ok (.putfield 9, 3) := by decide +kernel
theorem dX7_init_12 : decode cX7_init 12 = .ok (.aload_n 0, 1) := by decide +kernel
theorem dX7_init_13 : decode cX7_init 13 = .ok (.bipush 61, 2) := by decide +kernel
theorem dX7_init_15 : decode cX7_init 15 = .ok (.newarray .int, 2) := by decide +kernel
theorem dX7_init_17 : decode cX7_init 17 = .ok (.putfield 13, 3) := by decide +kernel
theorem dX7_init_20 : decode cX7_init 20 = .ok (.return_, 1) := by decide +kernel
theorem dX0_init_0 : decode cX0_init 0 = .ok (.aload_n 0, 1) := by decide +kernel
theorem dX0_init_1 : decode cX0_init 1 = .ok (.invokespecial 3, 3) := by decide +kernel
theorem dX0_init_4 : decode cX0_init 4 = .ok (.aload_n 0, 1) := by decide +kernel
theorem dX0_init_5 : decode cX0_init 5 = .ok (.iconst 1, 1) := by decide +kernel
theorem dX0_init_6 : decode cX0_init 6 = .ok (.putfield 9, 3) := by decide +kernel
theorem dX0_init_9 : decode cX0_init 9 = .ok (.aload_n 0, 1) := by decide +kernel
theorem dX0_init_10 : decode cX0_init 10 = .ok (.iconst 1, 1) := by decide +kernel
theorem dX0_init_11 : decode cX0_init 11 = .ok (.putfield 15, 3) := by decide +kernel
theorem dX0_init_14 : decode cX0_init 14 = .ok (.aload_n 0, 1) := by decide +kernel
theorem dX0_init_15 : decode cX0_init 15 = .ok (.iconst 1, 1) := by decide +kernel
theorem dX0_init_16 : decode cX0_init 16 = .ok (.putfield 18, 3) := by decide +kernel
theorem dX0_init_19 : decode cX0_init 19 = .ok (.aload_n 0, 1) := by decide +kernel
theorem dX0_init_20 : decode cX0_init 20 = .ok (.bipush 36, 2) := by decide +kernel
theorem dX0_init_22 : decode cX0_init 22 = .ok (.newarray .int, 2) := by decide +kernel
theorem dX0_init_24 : decode cX0_init 24 = .ok (.putfield 21, 3) := by decide +kernel
theorem dX0_init_27 : decode cX0_init 27 = .ok (.aload_n 0, 1) := by decide +kernel
theorem dX0_init_28 : decode cX0_init 28 = .ok (.bipush 36, 2) := by decide +kernel
theorem dX0_init_30 : decode cX0_init 30 = .ok (.newarray .int, 2) := by decide +kernel
theorem dX0_init_32 : decode cX0_init 32 = .ok (.putfield 25, 3) := by decide +kernel
theorem dX0_init_35 : decode cX0_init 35 = .ok (.aload_n 0, 1) := by decide +kernel
theorem dX0_init_36 : decode cX0_init 36 = .ok (.sipush 144, 3) := by decide +kernel
theorem dX0_init_39 : decode cX0_init 39 = .ok (.newarray .int, 2) := by decide +kernel
theorem dX0_init_41 : decode cX0_init 41 = .ok (.putfield 28, 3) := by decide +kernel
theorem dX0_init_44 : decode cX0_init 44 = .ok (.aload_n 0, 1) := by decide +kernel
theorem dX0_init_45 : decode cX0_init 45 = .ok (.getfield 21, 3) := by decide +kernel
theorem dX0_init_48 : decode cX0_init 48 = .ok (.iconst 0, 1) := by decide +kernel
theorem dX0_init_49 : decode cX0_init 49 = .ok (.iconst 1, 1) := by decide +kernel
theorem dX0_init_50 : decode cX0_init 50 = .ok (.iastore, 1) := by decide +kernel
theorem dX0_init_51 : decode cX0_init 51 = .ok (.aload_n 0, 1) := by decide +kernel
theorem dX0_init_52 : decode cX0_init 52 = .ok (.lconst 1, 1) := by decide +kernel
theorem dX0_init_53 : decode cX0_init 53 = .ok (.putfield 31, 3) := by decide +kernel
theorem dX0_init_56 : decode cX0_init 56 = .ok (.aload_n 0, 1) := by decide +kernel
theorem dX0_init_57 : decode cX0_init 57 = .ok (.getfield 28, 3) := by decide +kernel
theorem dX0_init_60 : decode cX0_init 60 = .ok (.iconst (-1), 1) := by decide +kernel
theorem dX0_init_61 : decode cX0_init 61 = .ok (.invokestatic 35, 3) := by decide +kernel
theorem dX0_init_64 : decode cX0_init 64 = .ok (.return_, 1) := by decide +kernel
theorem dX3_init_0 : decode cX3_init 0 = .ok (.aload_n 0, 1) := by decide +kernel
theorem dX3_init_1 : decode cX3_init 1 = .ok (.invokespecial 5, 3) := by decide +kernel
theorem dX3_init_4 : decode cX3_init 4 = .ok (.aload_n 0, 1) := by decide +kernel
theorem dX3_init_5 : decode cX3_init 5 = .ok (.sipush 380, 3) := by decide +kernel
theorem dX3_init_8 : decode cX3_init 8 = .ok (.newarray .int, 2) := by decide +kernel
theorem dX3_init_10 : decode cX3_init 10 = .ok (.putfield 11, 3) := by decide +kernel
theorem dX3_init_13 : decode cX3_init 13 = .ok (.return_, 1) := by decide +kernel
theorem dX10_init_0 : decode cX10_init 0 = .ok (.aload_n 0, 1) := by decide +kernel
theorem dX10_init_1 : decode cX10_init 1 = .ok (.invokespecial 3, 3) := by decide +kernel
theorem dX10_init_4 : decode cX10_init 4 = .ok (.aload_n 0, 1) := by decide +kernel
theorem dX10_init_5 : decode cX10_init 5 = .ok (.new 9, 3) := by decide +kernel
theorem dX10_init_8 : decode cX10_init 8 = .ok (.dup, 1) := by decide +kernel
theorem dX10_init_9 : decode cX10_init 9 = .ok (.invokespecial 11, 3) := by decide +kernel
theorem dX10_init_12 : decode cX10_init 12 = .ok (.putfield 12, 3) := by decide +kernel
theorem dX10_init_15 : decode cX10_init 15 = .ok (.aload_n 0, 1) := by decide +kernel
theorem dX10_init_16 : decode cX10_init 16 = .ok (.bipush 36, 2) := by decide +kernel
theorem dX10_init_18 : decode cX10_init 18 = .ok (.newarray .int, 2) := by decide +kernel
theorem dX10_init_20 : decode cX10_init 20 = .ok (.putfield 18, 3) := by decide +kernel
theorem dX10_init_23 : decode cX10_init 23 = .ok (.aload_n 0, 1) := by decide +kernel
theorem dX10_init_24 : decode cX10_init 24 = .ok (.aload_n 1, 1) := by decide +kernel
theorem dX10_init_25 : decode cX10_init 25 = .ok (.putfield 22, 3) := by decide +kernel
theorem dX10_init_28 : decode cX10_init 28 = .ok (.return_, 1) := by decide +kernel
theorem dX11_init_0 : decode cX11_init 0 = .ok (.aload_n 0, 1) := by decide +kernel
theorem dX11_init_1 : decode cX11_init 1 = .ok (.invokespecial 1, 3) := by decide +kernel
theorem dX11_init_4 : decode cX11_init 4 = .ok (.aload_n 0, 1) := by decide +kernel
theorem dX11_init_5 : decode cX11_init 5 = .ok (.new 7, 3) := by decide +kernel
theorem dX11_init_8 : decode cX11_init 8 = .ok (.dup, 1) := by decide +kernel
theorem dX11_init_9 : decode cX11_init 9 = .ok (.invokespecial 9, 3) := by decide +kernel
theorem dX11_init_12 : decode cX11_init 12 = .ok (.putfield 10, 3) := by decide +kernel
theorem dX11_init_15 : decode cX11_init 15 = .ok (.aload_n 0, 1) := by decide +kernel
theorem dX11_init_16 : decode cX11_init 16 = .ok (.new 16, 3) := by decide +kernel
theorem dX11_init_19 : decode cX11_init 19 = .ok (.dup, 1) := by decide +kernel
theorem dX11_init_20 : decode cX11_init 20 = .ok (.invokespecial 18, 3) := by decide +kernel
theorem dX11_init_23 : decode cX11_init 23 = .ok (.putfield 19, 3) := by decide +kernel
theorem dX11_init_26 : decode cX11_init 26 = .ok (.aload_n 0, 1) := by decide +kernel
theorem dX11_init_27 : decode cX11_init 27 = .ok (.new 23, 3) := by decide +kernel
theorem dX11_init_30 : decode cX11_init 30 = .ok (.dup, 1) := by decide +kernel
theorem dX11_init_31 : decode cX11_init 31 = .ok (.invokespecial 25, 3) := by decide +kernel
theorem dX11_init_34 : decode cX11_init 34 = .ok (.putfield 26, 3) := by decide +kernel
theorem dX11_init_37 : decode cX11_init 37 = .ok (.aload_n 0, 1) := by decide +kernel
theorem dX11_init_38 : decode cX11_init 38 = .ok (.new 23, 3) := by decide +kernel
theorem dX11_init_41 : decode cX11_init 41 = .ok (.dup, 1) := by decide +kernel
theorem dX11_init_42 : decode cX11_init 42 = .ok (.invokespecial 25, 3) := by decide +kernel
theorem dX11_init_45 : decode cX11_init 45 = .ok (.putfield 30, 3) := by decide +kernel
theorem dX11_init_48 : decode cX11_init 48 = .ok (.aload_n 0, 1) := by decide +kernel
theorem dX11_init_49 : decode cX11_init 49 = .ok (.new 33, 3) := by decide +kernel
theorem dX11_init_52 : decode cX11_init 52 = .ok (.dup, 1) := by decide +kernel
theorem dX11_init_53 : decode cX11_init 53 = .ok (.invokespecial 35, 3) := by decide +kernel
theorem dX11_init_56 : decode cX11_init 56 = .ok (.putfield 36, 3) := by decide +kernel
theorem dX11_init_59 : decode cX11_init 59 = .ok (.aload_n 0, 1) := by decide +kernel
theorem dX11_init_60 : decode cX11_init 60 = .ok (.bipush 8, 2) := by decide +kernel
theorem dX11_init_62 : decode cX11_init 62 = .ok (.newarray .int, 2) := by decide +kernel
theorem dX11_init_64 : decode cX11_init 64 = .ok (.putfield 40, 3) := by decide +kernel
theorem dX11_init_67 : decode cX11_init 67 = .ok (.aload_n 0, 1) := by decide +kernel
theorem dX11_init_68 : decode cX11_init 68 = .ok (.bipush 100, 2) := by decide +kernel
theorem dX11_init_70 : decode cX11_init 70 = .ok (.putfield 44, 3) := by decide +kernel
theorem dX11_init_73 : decode cX11_init 73 = .ok (.aload_n 0, 1) := by decide +kernel
theorem dX11_init_74 : decode cX11_init 74 = .ok (.bipush 50, 2) := by decide +kernel
theorem dX11_init_76 : decode cX11_init 76 = .ok (.putfield 48, 3) := by decide +kernel
theorem dX11_init_79 : decode cX11_init 79 = .ok (.aload_n 0, 1) := by decide +kernel
theorem dX11_init_80 : decode cX11_init 80 = .ok (.new 51, 3) := by decide +kernel
theorem dX11_init_83 : decode cX11_init 83 = .ok (.dup, 1) := by decide +kernel
theorem dX11_init_84 : decode cX11_init 84 = .ok (.invokespecial 53, 3) := by decide +kernel
theorem dX11_init_87 : decode cX11_init 87 = .ok (.putfield 54, 3) := by decide +kernel
theorem dX11_init_90 : decode cX11_init 90 = .ok (.aload_n 0, 1) := by decide +kernel
theorem dX11_init_91 : decode cX11_init 91 = .ok (.new 51, 3) := by decide +kernel
theorem dX11_init_94 : decode cX11_init 94 = .ok (.dup, 1) := by decide +kernel
theorem dX11_init_95 : decode cX11_init 95 = .ok (.invokespecial 53, 3) := by decide +kernel
theorem dX11_init_98 : decode cX11_init 98 = .ok (.putfield 58, 3) := by decide +kernel
theorem dX11_init_101 : decode cX11_init 101 = .ok (.aload_n 0, 1) := by decide +kernel
theorem dX11_init_102 : decode cX11_init 102 = .ok (.new 61, 3) := by decide +kernel
theorem dX11_init_105 : decode cX11_init 105 = .ok (.dup, 1) := by decide +kernel
theorem dX11_init_106 : decode cX11_init 106 = .ok (.invokespecial 63, 3) := by decide +kernel
theorem dX11_init_109 : decode cX11_init 109 = .ok (.putfield 64, 3) := by decide +kernel
theorem dX11_init_112 : decode cX11_init 112 = .ok (.aload_n 0, 1) := by decide +kernel
theorem dX11_init_113 : decode cX11_init 113 = .ok (.new 68, 3) := by decide +kernel
theorem dX11_init_116 : decode cX11_init 116 = .ok (.dup, 1) := by decide +kernel
theorem dX11_init_117 : decode cX11_init 117 = .ok (.invokespecial 70, 3) := by decide +kernel
theorem dX11_init_120 : decode cX11_init 120 = .ok (.putfield 71, 3) := by decide +kernel
theorem dX11_init_123 : decode cX11_init 123 = .ok (.aload_n 0, 1) := by decide +kernel
theorem dX11_init_124 : decode cX11_init 124 = .ok (.new 75, 3) := by decide +kernel
theorem dX11_init_127 : decode cX11_init 127 = .ok (.dup, 1) := by decide +kernel
theorem dX11_init_128 : decode cX11_init 128 = .ok (.invokespecial 77, 3) := by decide +kernel
theorem dX11_init_131 : decode cX11_init 131 = .ok (.putfield 78, 3) := by decide +kernel
theorem dX11_init_134 : decode cX11_init 134 = .ok (.new 82, 3) := by decide +kernel
theorem dX11_init_137 : decode cX11_init 137 = .ok (.dup, 1) := by decide +kernel
theorem dX11_init_138 : decode cX11_init 138 = .ok (.invokespecial 84, 3) := by decide +kernel
theorem dX11_init_141 : decode cX11_init 141 = .ok (.astore_n 1, 1) := by decide +kernel
theorem dX11_init_142 : decode cX11_init 142 = .ok (.aload_n 0, 1) := by decide +kernel
theorem dX11_init_143 : decode cX11_init 143 = .ok (.aload_n 1, 1) := by decide +kernel
theorem dX11_init_144 : decode cX11_init 144 = .ok (.putfield 85, 3) := by decide +kernel
theorem dX11_init_147 : decode cX11_init 147 = .ok (.aload_n 0, 1) := by decide +kernel
theorem dX11_init_148 : decode cX11_init 148 = .ok (.new 89, 3) := by decide +kernel
theorem dX11_init_151 : decode cX11_init 151 = .ok (.dup, 1) := by decide +kernel
theorem dX11_init_152 : decode cX11_init 152 = .ok (.aload_n 1, 1) := by decide +kernel
theorem dX11_init_153 : decode cX11_init 153 = .ok (.invokespecial 91, 3) := by decide +kernel
theorem dX11_init_156 : decode cX11_init 156 = .ok (.putfield 94, 3) := by decide +kernel
theorem dX11_init_159 : decode cX11_init 159 = .ok (.aload_n 0, 1) := by decide +kernel
theorem dX11_init_160 : decode cX11_init 160 = .ok (.iconst 3, 1) := by decide +kernel
theorem dX11_init_161 : decode cX11_init 161 = .ok (.anewarray 23, 3) := by decide +kernel
theorem dX11_init_164 : decode cX11_init 164 = .ok (.dup, 1) := by decide +kernel
theorem dX11_init_165 : decode cX11_init 165 = .ok (.iconst 0, 1) := by decide +kernel
theorem dX11_init_166 : decode cX11_init 166 = .ok (.new 23, 3) := by decide +kernel
theorem dX11_init_169 : decode cX11_init 169 = .ok (.dup, 1) := by decide +kernel
theorem dX11_init_170 : decode cX11_init 170 = .ok (.invokespecial 25, 3) := by decide +kernel
theorem dX11_init_173 : decode cX11_init 173 = .ok (.aastore, 1) := by decide +kernel
theorem dX11_init_174 : decode cX11_init 174 = .ok (.dup, 1) := by decide +kernel
theorem dX11_init_175 : decode cX11_init 175 = .ok (.iconst 1, 1) := by decide +kernel
theorem dX11_init_176 : decode cX11_init 176 = .ok (.new 23, 3) := by decide +kernel
theorem dX11_init_179 : decode cX11_init 179 = .ok (.dup, 1) := by decide +kernel
theorem dX11_init_180 : decode cX11_init 180 = .ok (.invokespecial 25, 3) := by decide +kernel
theorem dX11_init_183 : decode cX11_init 183 = .ok (.aastore, 1) := by decide +kernel
theorem dX11_init_184 : decode cX11_init 184 = .ok (.dup, 1) := by decide +kernel
theorem dX11_init_185 : decode cX11_init 185 = .ok (.iconst 2, 1) := by decide +kernel
theorem dX11_init_186 : decode cX11_init 186 = .ok (.new 23, 3) := by decide +kernel
theorem dX11_init_189 : decode cX11_init 189 = .ok (.dup, 1) := by decide +kernel
theorem dX11_init_190 : decode cX11_init 190 = .ok (.invokespecial 25, 3) := by decide +kernel
theorem dX11_init_193 : decode cX11_init 193 = .ok (.aastore, 1) := by decide +kernel
theorem dX11_init_194 : decode cX11_init 194 = .ok (.putfield 98, 3) := by decide +kernel
theorem dX11_init_197 : decode cX11_init 197 = .ok (.iconst 0, 1) := by decide +kernel
theorem dX11_init_198 : decode cX11_init 198 = .ok (.istore_n 2, 1) := by decide +kernel
theorem dX11_init_199 : decode cX11_init 199 = .ok (.iload_n 2, 1) := by decide +kernel
theorem dX11_init_200 : decode cX11_init 200 = .ok (.aload_n 0, 1) := by decide +kernel
theorem dX11_init_201 : decode cX11_init 201 = .ok (.getfield 98, 3) := by decide +kernel
theorem dX11_init_204 : decode cX11_init 204 = .ok (.arraylength, 1) := by decide +kernel
theorem dX11_init_205 : decode cX11_init 205 = .ok (.if_icmp .ge 19, 3) := by decide +kernel
theorem dX11_init_208 : decode cX11_init 208 = .ok (.aload_n 0, 1) := by decide +kernel
theorem dX11_init_209 : decode cX11_init 209 = .ok (.getfield 98, 3) := by decide +kernel
theorem dX11_init_212 : decode cX11_init 212 = .ok (.iload_n 2, 1) := by decide +kernel
theorem dX11_init_213 : decode cX11_init 213 = .ok (.aaload, 1) := by decide +kernel
theorem dX11_init_214 : decode cX11_init 214 = .ok (.iconst (-1), 1) := by decide +kernel
theorem dX11_init_215 : decode cX11_init 215 = .ok (.putfield 102, 3) := by decide +kernel
theorem dX11_init_218 : decode cX11_init 218 = .ok (.iinc 2 1, 3) := by decide +kernel
theorem dX11_init_221 : decode cX11_init 221 = .ok (.goto (-22), 3) := by decide +kernel
theorem dX11_init_224 : decode cX11_init 224 = .ok (.return_, 1) := by decide +kernel
theorem dX12_init_0 : decode cX12_init 0 = .ok (.aload_n 0, 1) := by decide +kernel
theorem dX12_init_1 : decode cX12_init 1 = .ok (.invokespecial 18, 3) := by decide +kernel
theorem dX12_init_4 : decode cX12_init 4 = .ok (.aload_n 0, 1) := by decide +kernel
theorem dX12_init_5 : decode cX12_init 5 = .ok (.bipush 48, 2) := by decide +kernel
theorem dX12_init_7 : decode cX12_init 7 = .ok (.newarray .long, 2) := by decide +kernel
theorem dX12_init_9 : decode cX12_init 9 = .ok (.putfield 11, 3) := by decide +kernel
theorem dX12_init_12 : decode cX12_init 12 = .ok (.aload_n 0, 1) := by decide +kernel
theorem dX12_init_13 : decode cX12_init 13 = .ok (.iconst 1, 1) := by decide +kernel
theorem dX12_init_14 : decode cX12_init 14 = .ok (.putfield 24, 3) := by decide +kernel
theorem dX12_init_17 : decode cX12_init 17 = .ok (.aload_n 0, 1) := by decide +kernel
theorem dX12_init_18 : decode cX12_init 18 = .ok (.iconst 1, 1) := by decide +kernel
theorem dX12_init_19 : decode cX12_init 19 = .ok (.putfield 27, 3) := by decide +kernel
theorem dX12_init_22 : decode cX12_init 22 = .ok (.aload_n 0, 1) := by decide +kernel
theorem dX12_init_23 : decode cX12_init 23 = .ok (.bipush 36, 2) := by decide +kernel
theorem dX12_init_25 : decode cX12_init 25 = .ok (.newarray .int, 2) := by decide +kernel
theorem dX12_init_27 : decode cX12_init 27 = .ok (.putfield 30, 3) := by decide +kernel
theorem dX12_init_30 : decode cX12_init 30 = .ok (.aload_n 0, 1) := by decide +kernel
theorem dX12_init_31 : decode cX12_init 31 = .ok (.bipush 36, 2) := by decide +kernel
theorem dX12_init_33 : decode cX12_init 33 = .ok (.newarray .int, 2) := by decide +kernel
theorem dX12_init_35 : decode cX12_init 35 = .ok (.putfield 34, 3) := by decide +kernel
theorem dX12_init_38 : decode cX12_init 38 = .ok (.aload_n 0, 1) := by decide +kernel
theorem dX12_init_39 : decode cX12_init 39 = .ok (.bipush 8, 2) := by decide +kernel
theorem dX12_init_41 : decode cX12_init 41 = .ok (.newarray .int, 2) := by decide +kernel
theorem dX12_init_43 : decode cX12_init 43 = .ok (.putfield 37, 3) := by decide +kernel
theorem dX12_init_46 : decode cX12_init 46 = .ok (.aload_n 0, 1) := by decide +kernel
theorem dX12_init_47 : decode cX12_init 47 = .ok (.iconst 2, 1) := by decide +kernel
theorem dX12_init_48 : decode cX12_init 48 = .ok (.newarray .int, 2) := by decide +kernel
theorem dX12_init_50 : decode cX12_init 50 = .ok (.dup, 1) := by decide +kernel
theorem dX12_init_51 : decode cX12_init 51 = .ok (.iconst 0, 1) := by decide +kernel
theorem dX12_init_52 : decode cX12_init 52 = .ok (.bipush 100, 2) := by decide +kernel
theorem dX12_init_54 : decode cX12_init 54 = .ok (.iastore, 1) := by decide +kernel
theorem dX12_init_55 : decode cX12_init 55 = .ok (.dup, 1) := by decide +kernel
theorem dX12_init_56 : decode cX12_init 56 = .ok (.iconst 1, 1) := by decide +kernel
theorem dX12_init_57 : decode cX12_init 57 = .ok (.bipush 50, 2) := by decide +kernel
theorem dX12_init_59 : decode cX12_init 59 = .ok (.iastore, 1) := by decide +kernel
theorem dX12_init_60 : decode cX12_init 60 = .ok (.putfield 40, 3) := by decide +kernel
theorem dX12_init_63 : decode cX12_init 63 = .ok (.aload_n 0, 1) := by decide +kernel
theorem dX12_init_64 : decode cX12_init 64 = .ok (.bipush 50, 2) := by decide +kernel
theorem dX12_init_66 : decode cX12_init 66 = .ok (.newarray .int, 2) := by decide +kernel
theorem dX12_init_68 : decode cX12_init 68 = .ok (.putfield 43, 3) := by decide +kernel
theorem dX12_init_71 : decode cX12_init 71 = .ok (.aload_n 0, 1) := by decide +kernel
theorem dX12_init_72 : decode cX12_init 72 = .ok (.bipush 50, 2) := by decide +kernel
theorem dX12_init_74 : decode cX12_init 74 = .ok (.newarray .int, 2) := by decide +kernel
theorem dX12_init_76 : decode cX12_init 76 = .ok (.putfield 46, 3) := by decide +kernel
theorem dX12_init_79 : decode cX12_init 79 = .ok (.aload_n 0, 1) := by decide +kernel
theorem dX12_init_80 : decode cX12_init 80 = .ok (.bipush 80, 2) := by decide +kernel
theorem dX12_init_82 : decode cX12_init 82 = .ok (.newarray .int, 2) := by decide +kernel
theorem dX12_init_84 : decode cX12_init 84 = .ok (.putfield 49, 3) := by decide +kernel
theorem dX12_init_87 : decode cX12_init 87 = .ok (.aload_n 0, 1) := by decide +kernel
theorem dX12_init_88 : decode cX12_init 88 = .ok (.bipush 36, 2) := by decide +kernel
theorem dX12_init_90 : decode cX12_init 90 = .ok (.newarray .int, 2) := by decide +kernel
theorem dX12_init_92 : decode cX12_init 92 = .ok (.putfield 52, 3) := by decide +kernel
theorem dX12_init_95 : decode cX12_init 95 = .ok (.aload_n 0, 1) := by decide +kernel
theorem dX12_init_96 : decode cX12_init 96 = .ok (.bipush 16, 2) := by decide +kernel
theorem dX12_init_98 : decode cX12_init 98 = .ok (.newarray .int, 2) := by decide +kernel
theorem dX12_init_100 : decode cX12_init 100 = .ok (.putfield 55, 3) := by decide +kernel
theorem dX12_init_103 : decode cX12_init 103 = .ok (.aload_n 0, 1) := by decide +kernel
theorem dX12_init_104 : decode cX12_init 104 = .ok (.bipush 80, 2) := by decide +kernel
theorem dX12_init_106 : decode cX12_init 106 = .ok (.newarray .int, 2) := by decide +kernel
theorem dX12_init_108 : decode cX12_init 108 = .ok (.putfield 58, 3) := by decide +kernel
theorem dX12_init_111 : decode cX12_init 111 = .ok (.aload_n 0, 1) := by decide +kernel
theorem dX12_init_112 : decode cX12_init 112 = .ok (.bipush 80, 2) := by decide +kernel
theorem dX12_init_114 : decode cX12_init 114 = .ok (.newarray .int, 2) := by decide +kernel
theorem dX12_init_116 : decode cX12_init 116 = .ok (.putfield 61, 3) := by decide +kernel
theorem dX12_init_119 : decode cX12_init 119 = .ok (.aload_n 0, 1) := by decide +kernel
theorem dX12_init_120 : decode cX12_init 120 = .ok (.bipush 80, 2) := by decide +kernel
theorem dX12_init_122 : decode cX12_init 122 = .ok (.newarray .int, 2) := by decide +kernel
theorem dX12_init_124 : decode cX12_init 124 = .ok (.putfield 64, 3) := by decide +kernel
theorem dX12_init_127 : decode cX12_init 127 = .ok (.aload_n 0, 1) := by decide +kernel
theorem dX12_init_128 : decode cX12_init 128 = .ok (.iconst 5, 1) := by decide +kernel
theorem dX12_init_129 : decode cX12_init 129 = .ok (.newarray .int, 2) := by decide +kernel
theorem dX12_init_131 : decode cX12_init 131 = .ok (.putfield 67, 3) := by decide +kernel
theorem dX12_init_134 : decode cX12_init 134 = .ok (.aload_n 0, 1) := by decide +kernel
theorem dX12_init_135 : decode cX12_init 135 = .ok (.sipush 800, 3) := by decide +kernel
theorem dX12_init_138 : decode cX12_init 138 = .ok (.newarray .int, 2) := by decide +kernel
theorem dX12_init_140 : decode cX12_init 140 = .ok (.putfield 70, 3) := by decide +kernel
theorem dX12_init_143 : decode cX12_init 143 = .ok (.aload_n 0, 1) := by decide +kernel
theorem dX12_init_144 : decode cX12_init 144 = .ok (.bipush 60, 2) := by decide +kernel
theorem dX12_init_146 : decode cX12_init 146 = .ok (.newarray .int, 2) := by decide +kernel
theorem dX12_init_148 : decode cX12_init 148 = .ok (.putfield 73, 3) := by decide +kernel
theorem dX12_init_151 : decode cX12_init 151 = .ok (.aload_n 0, 1) := by decide +kernel
theorem dX12_init_152 : decode cX12_init 152 = .ok (.bipush 60, 2) := by decide +kernel
theorem dX12_init_154 : decode cX12_init 154 = .ok (.newarray .int, 2) := by decide +kernel
theorem dX12_init_156 : decode cX12_init 156 = .ok (.putfield 76, 3) := by decide +kernel
theorem dX12_init_159 : decode cX12_init 159 = .ok (.aload_n 0, 1) := by decide +kernel
theorem dX12_init_160 : decode cX12_init 160 = .ok (.bipush 60, 2) := by decide +kernel
theorem dX12_init_162 : decode cX12_init 162 = .ok (.newarray .int, 2) := by decide +kernel
theorem dX12_init_164 : decode cX12_init 164 = .ok (.putfield 79, 3) := by decide +kernel
theorem dX12_init_167 : decode cX12_init 167 = .ok (.aload_n 0, 1) := by decide +kernel
theorem dX12_init_168 : decode cX12_init 168 = .ok (.bipush 36, 2) := by decide +kernel
theorem dX12_init_170 : decode cX12_init 170 = .ok (.newarray .int, 2) := by decide +kernel
theorem dX12_init_172 : decode cX12_init 172 = .ok (.putfield 82, 3) := by decide +kernel
theorem dX12_init_175 : decode cX12_init 175 = .ok (.aload_n 0, 1) := by decide +kernel
theorem dX12_init_176 : decode cX12_init 176 = .ok (.bipush 36, 2) := by decide +kernel
theorem dX12_init_178 : decode cX12_init 178 = .ok (.newarray .int, 2) := by decide +kernel
theorem dX12_init_180 : decode cX12_init 180 = .ok (.putfield 85, 3) := by decide +kernel
theorem dX12_init_183 : decode cX12_init 183 = .ok (.aload_n 0, 1) := by decide +kernel
theorem dX12_init_184 : decode cX12_init 184 = .ok (.sipush 144, 3) := by decide +kernel
theorem dX12_init_187 : decode cX12_init 187 = .ok (.newarray .int, 2) := by decide +kernel
theorem dX12_init_189 : decode cX12_init 189 = .ok (.putfield 88, 3) := by decide +kernel
theorem dX12_init_192 : decode cX12_init 192 = .ok (.aload_n 0, 1) := by decide +kernel
theorem dX12_init_193 : decode cX12_init 193 = .ok (.iconst 4, 1) := by decide +kernel
theorem dX12_init_194 : decode cX12_init 194 = .ok (.newarray .int, 2) := by decide +kernel
theorem dX12_init_196 : decode cX12_init 196 = .ok (.putfield 91, 3) := by decide +kernel
theorem dX12_init_199 : decode cX12_init 199 = .ok (.aload_n 0, 1) := by decide +kernel
theorem dX12_init_200 : decode cX12_init 200 = .ok (.sipush 1281, 3) := by decide +kernel
theorem dX12_init_203 : decode cX12_init 203 = .ok (.newarray .int, 2) := by decide +kernel
theorem dX12_init_205 : decode cX12_init 205 = .ok (.putfield 94, 3) := by decide +kernel
theorem dX12_init_208 : decode cX12_init 208 = .ok (.aload_n 0, 1) := by decide +kernel
theorem dX12_init_209 : decode cX12_init 209 = .ok (.sipush 1281, 3) := by decide +kernel
theorem dX12_init_212 : decode cX12_init 212 = .ok (.newarray .int, 2) := by decide +kernel
theorem dX12_init_214 : decode cX12_init 214 = .ok (.putfield 97, 3) := by decide +kernel
theorem dX12_init_217 : decode cX12_init 217 = .ok (.aload_n 0, 1) := by decide +kernel
theorem dX12_init_218 : decode cX12_init 218 = .ok (.sipush 1281, 3) := by decide +kernel
theorem dX12_init_221 : decode cX12_init 221 = .ok (.newarray .int, 2) := by decide +kernel
theorem dX12_init_223 : decode cX12_init 223 = .ok (.putfield 100, 3) := by decide +kernel
theorem dX12_init_226 : decode cX12_init 226 = .ok (.aload_n 0, 1) := by decide +kernel
theorem dX12_init_227 : decode cX12_init 227 = .ok (.bipush 12, 2) := by decide +kernel
theorem dX12_init_229 : decode cX12_init 229 = .ok (.newarray .int, 2) := by decide +kernel
theorem dX12_init_231 : decode cX12_init 231 = .ok (.putfield 103, 3) := by decide +kernel
theorem dX12_init_234 : decode cX12_init 234 = .ok (.aload_n 0, 1) := by decide +kernel
theorem dX12_init_235 : decode cX12_init 235 = .ok (.bipush 12, 2) := by decide +kernel
theorem dX12_init_237 : decode cX12_init 237 = .ok (.newarray .int, 2) := by decide +kernel
theorem dX12_init_239 : decode cX12_init 239 = .ok (.putfield 106, 3) := by decide +kernel
theorem dX12_init_242 : decode cX12_init 242 = .ok (.aload_n 0, 1) := by decide +kernel
theorem dX12_init_243 : decode cX12_init 243 = .ok (.bipush 80, 2) := by decide +kernel
theorem dX12_init_245 : decode cX12_init 245 = .ok (.newarray .int, 2) := by decide +kernel
theorem dX12_init_247 : decode cX12_init 247 = .ok (.putfield 109, 3) := by decide +kernel
theorem dX12_init_250 : decode cX12_init 250 = .ok (.aload_n 0, 1) := by decide +kernel
theorem dX12_init_251 : decode cX12_init 251 = .ok (.iconst 3, 1) := by decide +kernel
theorem dX12_init_252 : decode cX12_init 252 = .ok (.newarray .boolean, 2) := by decide +kernel
theorem dX12_init_254 : decode cX12_init 254 = .ok (.putfield 112, 3) := by decide +kernel
theorem dX12_init_257 : decode cX12_init 257 = .ok (.aload_n 0, 1) := by decide +kernel
theorem dX12_init_258 : decode cX12_init 258 = .ok (.iconst 3, 1) := by decide +kernel
theorem dX12_init_259 : decode cX12_init 259 = .ok (.newarray .int, 2) := by decide +kernel
theorem dX12_init_261 : decode cX12_init 261 = .ok (.putfield 116, 3) := by decide +kernel
theorem dX12_init_264 : decode cX12_init 264 = .ok (.aload_n 0, 1) := by decide +kernel
theorem dX12_init_265 : decode cX12_init 265 = .ok (.sipush 150, 3) := by decide +kernel
theorem dX12_init_268 : decode cX12_init 268 = .ok (.newarray .int, 2) := by decide +kernel
theorem dX12_init_270 : decode cX12_init 270 = .ok (.putfield 119, 3) := by decide +kernel
theorem dX12_init_273 : decode cX12_init 273 = .ok (.aload_n 0, 1) := by decide +kernel
theorem dX12_init_274 : decode cX12_init 274 = .ok (.getfield 30, 3) := by decide +kernel
theorem dX12_init_277 : decode cX12_init 277 = .ok (.iconst 0, 1) := by decide +kernel
theorem dX12_init_278 : decode cX12_init 278 = .ok (.iconst 1, 1) := by decide +kernel
theorem dX12_init_279 : decode cX12_init 279 = .ok (.iastore, 1) := by decide +kernel
theorem dX12_init_280 : decode cX12_init 280 = .ok (.return_, 1) := by decide +kernel
def nestL : List (String × Nat × MethodName) := [("OverTheHill", 9, yX6_init), ("OverTheHill", 18, yX4_init), ("OverTheHill", 25, yX1_init), ("OverTheHill$Past", 15, yX1_init), ("OverTheHill", 53, yX5_init), ("OverTheHill", 63, yX8_init), ("OverTheHill", 70, yX9_init), ("OverTheHill", 77, yX7_init), ("OverTheHill$Ways", 11, yX3_init)]
/-- what the constructors need of the tables beside the good words -/
def NI (U : State) : Prop := va_AO "OverTheHill$Moment" U ∧ ∀ a i x, (a, i, x) ∈ nestL → va_Nw (.methodLinkNest a i x "OverTheHill") U
theorem NI.step {s U : State} (h : NI s) (hW : s.WarmedH U.vm) : NI U := ⟨va_AO.moved hW.alike h.1, fun a i x q => va_Nw.warmM hW (h.2 a i x q)⟩
theorem NI.calling {U : State} (h : NI U) (g : JFrame) (mk : MethodId) (a : Array Value) : NI (U.calling g mk a) := ⟨va_AO.moved (u := U) (U := U.calling g mk a) (Vm.Alike.refl U.vm) h.1, fun b i x q => va_Nw.same rfl (u := U) (U := U.calling g mk a) rfl (h.2 b i x q)⟩
theorem ws_good {y : MethodName} {b : ByteArray} {n : Nat} {r : Option FieldType} (h : Cond.code y b n r ∈ lw_good) : ∀ x ∈ Cond.code y b n r :: lw_good, x ∈ lw_good := fun x hx => (List.mem_cons.mp hx).elim (fun z => by rw [z]; exact h) id
theorem arr_13 {D : va_G} {cl : List vw_C} {cA : Nat → ClassId} {c1 : ClassId} {s : State} (h : va_K D cl (tysA cA) s) (h1 : va_K D cl (tysA cA ++ [(c1, .char)]) s) : c1 = cA 13 := by
  have a : s.vm.findClass ("[" ++ (.char : FieldType).toString) = some (cA 13) := (h.2 0 _ rfl).2
  have b : s.vm.findClass ("[" ++ (.char : FieldType).toString) = some c1 := (h1.2 5 _ rfl).2
  rw [a] at b
  exact (Option.some.inj b).symm
theorem arr_14 {D : va_G} {cl : List vw_C} {cA : Nat → ClassId} {c1 : ClassId} {s : State} (h : va_K D cl (tysA cA) s) (h1 : va_K D cl (tysA cA ++ [(c1, .int)]) s) : c1 = cA 14 := by
  have a : s.vm.findClass ("[" ++ (.int : FieldType).toString) = some (cA 14) := (h.2 1 _ rfl).2
  have b : s.vm.findClass ("[" ++ (.int : FieldType).toString) = some c1 := (h1.2 5 _ rfl).2
  rw [a] at b
  exact (Option.some.inj b).symm
theorem arr_15 {D : va_G} {cl : List vw_C} {cA : Nat → ClassId} {c1 : ClassId} {s : State} (h : va_K D cl (tysA cA) s) (h1 : va_K D cl (tysA cA ++ [(c1, .long)]) s) : c1 = cA 15 := by
  have a : s.vm.findClass ("[" ++ (.long : FieldType).toString) = some (cA 15) := (h.2 2 _ rfl).2
  have b : s.vm.findClass ("[" ++ (.long : FieldType).toString) = some c1 := (h1.2 5 _ rfl).2
  rw [a] at b
  exact (Option.some.inj b).symm
theorem arr_16 {D : va_G} {cl : List vw_C} {cA : Nat → ClassId} {c1 : ClassId} {s : State} (h : va_K D cl (tysA cA) s) (h1 : va_K D cl (tysA cA ++ [(c1, .boolean)]) s) : c1 = cA 16 := by
  have a : s.vm.findClass ("[" ++ (.boolean : FieldType).toString) = some (cA 16) := (h.2 3 _ rfl).2
  have b : s.vm.findClass ("[" ++ (.boolean : FieldType).toString) = some c1 := (h1.2 5 _ rfl).2
  rw [a] at b
  exact (Option.some.inj b).symm
theorem arr_17 {D : va_G} {cl : List vw_C} {cA : Nat → ClassId} {c1 : ClassId} {s : State} {C : String} (h : va_K D cl (tysA cA) s) (h1 : va_K D cl (tysA cA ++ [(c1, .object "OverTheHill$Moment")]) s) : c1 = cA 17 := by
  obtain ⟨_, _, _, _, _, a⟩ := (h.2 4 _ rfl).2
  obtain ⟨_, _, _, _, _, b⟩ := (h1.2 5 _ rfl).2
  rw [a] at b
  exact (Option.some.inj b).symm
set_option maxHeartbeats 4000000 in
theorem k_fill (l : Launch) (dC : Nat → ClassId) (dI : Nat → Nat → Nat) (cA : Nat → ClassId) (a : Nat) (sz n : Nat) (f : Nat → Int32) (v : Int32) (hn : n < 2 ^ 31) : Met l yJ7_fill_53178 (wsU M_fill) ({ frames := 1, cells := 0, slots := 0, locals := 20 }) (va_Pc [.ref a, .int v] (fun U => U.heap.size = sz ∧ va_P (dC, dI) hcls [(a, .inl (cA 14, n, .inl f))] U.heap ∧ va_K (dC, dI) hcls (tysA cA) U ∧ va_D (fun _ => True) [(a, .inl (cA 14, n, .inl f))])) (va_Qv (fun _ : Unit => True) (fun _ t => va_P (dC, dI) hcls [(a, .inl (cA 14, n, .inl (fun j => if j < n then v else f j)))] t.heap ∧ va_D (va_A [(a, .inl (cA 14, n, .inl f))] sz) [(a, .inl (cA 14, n, .inl (fun j => if j < n then v else f j)))]) (va_A [(a, .inl (cA 14, n, .inl f))] sz)) 0 0 (va_A [(a, .inl (cA 14, n, .inl f))] sz) := by
  refine va_MetF (cc := cJ7_fill_53178) (maxL := 4) (ret := none) (by decide +kernel) rfl ?_
  intro p e s m args below meth c s₁ B hml hv
  obtain ⟨rfl, hsz, hP, hK, hD0⟩ := hv
  have hx := B.exec
  have hb := B.bytes
  have hr := B.returns
  have hlocks := B.notSynchronized
  subst hsz
  have hD := hD0.self (sz := s.heap.size)
  generalize hAe : va_A [(a, .inl (cA 14, n, .inl f))] s.heap.size = A at hD ⊢
  have hS : va_S A s.heap s.heap [] := va_S.rf
  have hl := lv_entry ([.ref a, .int v]) (n := 4) (Nat.le_of_ble_eq_true rfl)
  rw [lg_entry_eq]
  generalize (lg_sl ([.ref a, .int v]) ++ List.replicate (4 - (lg_sl ([.ref a, .int v])).length) Slot.unset).toArray = ls at hl ⊢
  have hl : lv_has ls 4 [(0, .ref a), (1, .int v)] := hl
  have loop : ∀ (k i : Nat), i + k = n → ∀ (H : Heap) (locs : List Loc) (ls : Array Slot), va_P (dC, dI) hcls [(a, .inl (cA 14, n, .inl (fun j => if j < i then v else f j)))] H → va_D A [(a, .inl (cA 14, n, .inl (fun j => if j < i then v else f j)))] → va_S A s.heap H locs → lv_has ls 4 [(0, .ref a), (1, .int v), (2, .int (nI i)), (3, .int (nI n))] →
      W p l e (headSpec (wsU M_fill) { frames := 1, cells := 0, slots := 0, locals := 20 }).room s m (List.toArray [.ref a, .int v]) below meth c H locs 0 0 (MQ below (va_Qv (fun _ : Unit => True) (fun _ t => va_P (dC, dI) hcls [(a, .inl (cA 14, n, .inl (fun j => if j < n then v else f j)))] t.heap ∧ va_D A [(a, .inl (cA 14, n, .inl (fun j => if j < n then v else f j)))]) A) (List.toArray [.ref a, .int v]) s 0 0 A) (F0 m 5 ls []) := by
    intro k
    induction k with
    | zero =>
      intro i hi H locs ls hP hD hS hl
      have e : i = n := by omega
      subst e
      refine lv_iload_n hx hb dJ7_fill_53178_5 rfl (lv_at hl 2 rfl) ?_
      refine lv_iload_n hx hb dJ7_fill_53178_6 rfl (lv_at hl 3 rfl) ?_
      refine lv_icmp_ge (tgt := 20) hx hb dJ7_fill_53178_7 (by decide) (fun _ => ?_) (fun c => absurd (nI_le (Nat.le_refl _) hn) c)
      exact W.vret hx hb hr (fun t ht hW => ⟨⟨(), rfl, trivial, ⟨by rw [ht]; exact hP, hD⟩⟩, hS.F ht⟩) hS.2.2 dJ7_fill_53178_20
    | succ k ih =>
      intro i hi H locs ls hP hD hS hl
      refine lv_iload_n hx hb dJ7_fill_53178_5 rfl (lv_at hl 2 rfl) ?_
      refine lv_iload_n hx hb dJ7_fill_53178_6 rfl (lv_at hl 3 rfl) ?_
      refine lv_icmp_ge (tgt := 20) hx hb dJ7_fill_53178_7 (by decide) (fun c => absurd c (nI_ge (by omega) hn)) (fun _ => ?_)
      refine lv_aload_n hx hb dJ7_fill_53178_10 rfl (lv_at hl 0 rfl) ?_
      refine lv_iload_n hx hb dJ7_fill_53178_11 rfl (lv_at hl 2 rfl) ?_
      refine lv_iload_n hx hb dJ7_fill_53178_12 rfl (lv_at hl 1 rfl) ?_
      refine va_iast hx hb hK hP hD hS 0 1 rfl rfl (vp_in_nI (by omega) hn) dJ7_fill_53178_13 (fun H locs hP hD hS => ?_)
      refine lv_iinc (v := nI (i + 1)) (lv' := [(2, .int (nI (i + 1))), (0, .ref a), (1, .int v), (3, .int (nI n))]) hx hb dJ7_fill_53178_14 hl (k := 2) rfl (nI_1 i) (by decide) rfl (fun ls hl => ?_)
      refine lv_goto (tgt := 5) hx hb dJ7_fill_53178_17 (by decide) ?_
      have e : upd (fun j => if j < i then v else f j) (nI i).toNatClampNeg v = (fun j => if j < i + 1 then v else f j) := by
        rw [nI_clamp (by omega)]
        funext j
        unfold upd
        by_cases c : j = i
        · subst c; rw [if_pos rfl, if_pos (by omega)]
        · rw [if_neg c]
          show (if j < i then v else f j) = (if j < i + 1 then v else f j)
          by_cases c2 : j < i
          · rw [if_pos c2, if_pos (by omega)]
          · rw [if_neg c2, if_neg (by omega)]
      have hP : va_P (dC, dI) hcls [(a, .inl (cA 14, n, .inl (upd (fun j => if j < i then v else f j) (nI i).toNatClampNeg v)))] H := hP
      have hD : va_D A [(a, .inl (cA 14, n, .inl (upd (fun j => if j < i then v else f j) (nI i).toNatClampNeg v)))] := hD
      rw [e] at hP hD
      exact ih (i + 1) (by omega) H locs ls hP hD hS (lv_sub hl [1, 2, 0, 3] rfl)
  refine lv_iconst (v := 0) hx hb dJ7_fill_53178_0 (by decide) ?_
  refine lv_istore_n (lv' := [(2, .int 0), (0, .ref a), (1, .int v)]) hx hb dJ7_fill_53178_1 rfl hl (by decide) rfl (fun ls hl => ?_)
  refine lv_aload_n hx hb dJ7_fill_53178_2 rfl (lv_at hl 1 rfl) ?_
  refine va_alen (v := nI n) hx hb hK hP 0 1 rfl rfl rfl dJ7_fill_53178_3 ?_
  refine lv_istore_n (lv' := [(3, .int (nI n)), (2, .int 0), (0, .ref a), (1, .int v)]) hx hb dJ7_fill_53178_4 rfl hl (by decide) rfl (fun ls hl => ?_)
  have e0 : (fun j => if j < 0 then v else f j) = f := by funext j; rw [if_neg (Nat.not_lt_zero j)]
  exact loop n 0 (by omega) s.heap [] ls (by rw [e0]; exact hP) (by rw [e0]; exact hD) hS (lv_sub hl [2, 3, 1, 0] rfl)
