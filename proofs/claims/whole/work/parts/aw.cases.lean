/-! THE LAW: its words, and the cases of the calls that both answer alike (made by a program) -/
theorem wl_26 : (.methodLink R_law 26 yX11_sign : Cond) ∈ lw_good := lw_mem (mm_2 (List.mem_of_getElem? (i := 110) (by decide +kernel))) (by decide +kernel)
theorem wl_30 : (.methodLink R_law 30 yX12_sign : Cond) ∈ lw_good := lw_mem (mm_6 (List.mem_of_getElem? (i := 103) (by decide +kernel))) (by decide +kernel)
theorem wl_31 : (.methodLink R_law 31 yX11_end : Cond) ∈ lw_good := lw_mem (mm_2 (List.mem_of_getElem? (i := 118) (by decide +kernel))) (by decide +kernel)
theorem wl_35 : (.methodLink R_law 35 yX12_end : Cond) ∈ lw_good := lw_mem (mm_6 (List.mem_of_getElem? (i := 107) (by decide +kernel))) (by decide +kernel)
theorem wl_36 : (.methodLink R_law 36 yX11_land : Cond) ∈ lw_good := lw_mem (mm_2 (List.mem_of_getElem? (i := 126) (by decide +kernel))) (by decide +kernel)
theorem wl_40 : (.methodLink R_law 40 yX12_land : Cond) ∈ lw_good := lw_mem (mm_6 (List.mem_of_getElem? (i := 114) (by decide +kernel))) (by decide +kernel)
theorem wl_41 : (.methodLink R_law 41 yX11_ships : Cond) ∈ lw_good := lw_mem (mm_2 (List.mem_of_getElem? (i := 210) (by decide +kernel))) (by decide +kernel)
theorem wl_44 : (.methodLink R_law 44 yX12_ships : Cond) ∈ lw_good := lw_mem (mm_6 (List.mem_of_getElem? (i := 191) (by decide +kernel))) (by decide +kernel)
theorem wl_45 : (.methodLink R_law 45 yX11_rule : Cond) ∈ lw_good := lw_mem (mm_3 (List.mem_of_getElem? (i := 6) (by decide +kernel))) (by decide +kernel)
theorem wl_48 : (.methodLink R_law 48 yX12_rule : Cond) ∈ lw_good := lw_mem (mm_6 (List.mem_of_getElem? (i := 221) (by decide +kernel))) (by decide +kernel)
theorem wl_61 : (.methodLink R_law 61 yX11_pull : Cond) ∈ lw_good := lw_mem (mm_3 (List.mem_of_getElem? (i := 46) (by decide +kernel))) (by decide +kernel)
theorem wl_64 : (.methodLink R_law 64 yX12_pull : Cond) ∈ lw_good := lw_mem (mm_7 (List.mem_of_getElem? (i := 41) (by decide +kernel))) (by decide +kernel)
theorem wl_65 : (.methodLink R_law 65 yX11_set : Cond) ∈ lw_good := lw_mem (mm_3 (List.mem_of_getElem? (i := 110) (by decide +kernel))) (by decide +kernel)
theorem wl_68 : (.methodLink R_law 68 yX12_set : Cond) ∈ lw_good := lw_mem (mm_7 (List.mem_of_getElem? (i := 69) (by decide +kernel))) (by decide +kernel)
theorem wl_69 : (.methodLink R_law 69 yX11_sheet : Cond) ∈ lw_good := lw_mem (mm_3 (List.mem_of_getElem? (i := 114) (by decide +kernel))) (by decide +kernel)
theorem wl_73 : (.methodLink R_law 73 yX12_sheet : Cond) ∈ lw_good := lw_mem (mm_7 (List.mem_of_getElem? (i := 74) (by decide +kernel))) (by decide +kernel)
theorem wl_74 : (.methodLink R_law 74 yX11_drag : Cond) ∈ lw_good := lw_mem (mm_3 (List.mem_of_getElem? (i := 127) (by decide +kernel))) (by decide +kernel)
theorem wl_77 : (.methodLink R_law 77 yX12_drag : Cond) ∈ lw_good := lw_mem (mm_7 (List.mem_of_getElem? (i := 82) (by decide +kernel))) (by decide +kernel)
theorem wl_78 : (.methodLink R_law 78 yX11_plank : Cond) ∈ lw_good := lw_mem (mm_3 (List.mem_of_getElem? (i := 161) (by decide +kernel))) (by decide +kernel)
theorem wl_81 : (.methodLink R_law 81 yX12_plank : Cond) ∈ lw_good := lw_mem (mm_7 (List.mem_of_getElem? (i := 105) (by decide +kernel))) (by decide +kernel)
theorem wl_82 : (.methodLink R_law 82 yX11_hours : Cond) ∈ lw_good := lw_mem (mm_3 (List.mem_of_getElem? (i := 175) (by decide +kernel))) (by decide +kernel)
theorem wl_85 : (.methodLink R_law 85 yX12_hours : Cond) ∈ lw_good := lw_mem (mm_7 (List.mem_of_getElem? (i := 117) (by decide +kernel))) (by decide +kernel)
theorem wl_86 : (.methodLink R_law 86 yX11_siege : Cond) ∈ lw_good := lw_mem (mm_3 (List.mem_of_getElem? (i := 199) (by decide +kernel))) (by decide +kernel)
theorem wl_89 : (.methodLink R_law 89 yX12_siege : Cond) ∈ lw_good := lw_mem (mm_7 (List.mem_of_getElem? (i := 130) (by decide +kernel))) (by decide +kernel)
theorem wl_90 : (.methodLink R_law 90 yX11_undo : Cond) ∈ lw_good := lw_mem (mm_3 (List.mem_of_getElem? (i := 230) (by decide +kernel))) (by decide +kernel)
theorem wl_93 : (.methodLink R_law 93 yX12_undo : Cond) ∈ lw_good := lw_mem (mm_7 (List.mem_of_getElem? (i := 78) (by decide +kernel))) (by decide +kernel)
theorem wl_94 : (.methodLink R_law 94 yX11_way : Cond) ∈ lw_good := lw_mem (mm_3 (List.mem_of_getElem? (i := 238) (by decide +kernel))) (by decide +kernel)
theorem wl_98 : (.methodLink R_law 98 yX12_way : Cond) ∈ lw_good := lw_mem (mm_7 (List.mem_of_getElem? (i := 148) (by decide +kernel))) (by decide +kernel)
theorem wl_99 : (.methodLink R_law 99 yX11_easy : Cond) ∈ lw_good := lw_mem (mm_4 (List.mem_of_getElem? (i := 83) (by decide +kernel))) (by decide +kernel)
theorem wl_102 : (.methodLink R_law 102 yX12_easy : Cond) ∈ lw_good := lw_mem (mm_7 (List.mem_of_getElem? (i := 178) (by decide +kernel))) (by decide +kernel)
theorem wl_103 : (.methodLink R_law 103 yX11_soon : Cond) ∈ lw_good := lw_mem (mm_4 (List.mem_of_getElem? (i := 89) (by decide +kernel))) (by decide +kernel)
theorem wl_106 : (.methodLink R_law 106 yX12_soon : Cond) ∈ lw_good := lw_mem (mm_7 (List.mem_of_getElem? (i := 186) (by decide +kernel))) (by decide +kernel)
theorem wl_107 : (.methodLink R_law 107 yX11_pass : Cond) ∈ lw_good := lw_mem (mm_4 (List.mem_of_getElem? (i := 93) (by decide +kernel))) (by decide +kernel)
theorem wl_110 : (.methodLink R_law 110 yX12_pass : Cond) ∈ lw_good := lw_mem (mm_7 (List.mem_of_getElem? (i := 190) (by decide +kernel))) (by decide +kernel)
theorem wl_111 : (.methodLink R_law 111 yX11_oxen : Cond) ∈ lw_good := lw_mem (mm_4 (List.mem_of_getElem? (i := 112) (by decide +kernel))) (by decide +kernel)
theorem wl_114 : (.methodLink R_law 114 yX12_oxen : Cond) ∈ lw_good := lw_mem (mm_7 (List.mem_of_getElem? (i := 202) (by decide +kernel))) (by decide +kernel)
theorem wl_115 : (.methodLink R_law 115 yX11_can : Cond) ∈ lw_good := lw_mem (mm_4 (List.mem_of_getElem? (i := 120) (by decide +kernel))) (by decide +kernel)
theorem wl_118 : (.methodLink R_law 118 yX12_can : Cond) ∈ lw_good := lw_mem (mm_7 (List.mem_of_getElem? (i := 210) (by decide +kernel))) (by decide +kernel)
theorem wl_119 : (.methodLink R_law 119 yX11_planks : Cond) ∈ lw_good := lw_mem (mm_4 (List.mem_of_getElem? (i := 124) (by decide +kernel))) (by decide +kernel)
theorem wl_122 : (.methodLink R_law 122 yX12_planks : Cond) ∈ lw_good := lw_mem (mm_7 (List.mem_of_getElem? (i := 214) (by decide +kernel))) (by decide +kernel)
theorem wl_123 : (.methodLink R_law 123 yX11_over : Cond) ∈ lw_good := lw_mem (mm_4 (List.mem_of_getElem? (i := 143) (by decide +kernel))) (by decide +kernel)
theorem wl_126 : (.methodLink R_law 126 yX12_over : Cond) ∈ lw_good := lw_mem (mm_7 (List.mem_of_getElem? (i := 231) (by decide +kernel))) (by decide +kernel)
theorem wl_127 : (.methodLink R_law 127 yX11_kind : Cond) ∈ lw_good := lw_mem (mm_4 (List.mem_of_getElem? (i := 152) (by decide +kernel))) (by decide +kernel)
theorem wl_130 : (.methodLink R_law 130 yX12_kind : Cond) ∈ lw_good := lw_mem (mm_7 (List.mem_of_getElem? (i := 239) (by decide +kernel))) (by decide +kernel)
theorem wl_131 : (.methodLink R_law 131 yX11_quiet : Cond) ∈ lw_good := lw_mem (mm_4 (List.mem_of_getElem? (i := 156) (by decide +kernel))) (by decide +kernel)
theorem wl_134 : (.methodLink R_law 134 yX12_quiet : Cond) ∈ lw_good := lw_mem (mm_8 (List.mem_of_getElem? (i := 4) (by decide +kernel))) (by decide +kernel)
theorem wl_135 : (.methodLink R_law 135 yX11_night : Cond) ∈ lw_good := lw_mem (mm_4 (List.mem_of_getElem? (i := 160) (by decide +kernel))) (by decide +kernel)
theorem wl_138 : (.methodLink R_law 138 yX12_night : Cond) ∈ lw_good := lw_mem (mm_8 (List.mem_of_getElem? (i := 8) (by decide +kernel))) (by decide +kernel)
theorem wl_139 : (.methodLink R_law 139 yX11_walls : Cond) ∈ lw_good := lw_mem (mm_4 (List.mem_of_getElem? (i := 169) (by decide +kernel))) (by decide +kernel)
theorem wl_142 : (.methodLink R_law 142 yX12_walls : Cond) ∈ lw_good := lw_mem (mm_8 (List.mem_of_getElem? (i := 12) (by decide +kernel))) (by decide +kernel)
theorem wl_143 : (.methodLink R_law 143 yX11_storm : Cond) ∈ lw_good := lw_mem (mm_4 (List.mem_of_getElem? (i := 198) (by decide +kernel))) (by decide +kernel)
theorem wl_146 : (.methodLink R_law 146 yX12_storm : Cond) ∈ lw_good := lw_mem (mm_8 (List.mem_of_getElem? (i := 24) (by decide +kernel))) (by decide +kernel)
theorem wl_147 : (.methodLink R_law 147 yX11_town : Cond) ∈ lw_good := lw_mem (mm_4 (List.mem_of_getElem? (i := 206) (by decide +kernel))) (by decide +kernel)
theorem wl_150 : (.methodLink R_law 150 yX12_town : Cond) ∈ lw_good := lw_mem (mm_8 (List.mem_of_getElem? (i := 31) (by decide +kernel))) (by decide +kernel)
theorem wl_151 : (.methodLink R_law 151 yX11_secret : Cond) ∈ lw_good := lw_mem (mm_4 (List.mem_of_getElem? (i := 221) (by decide +kernel))) (by decide +kernel)
theorem wl_154 : (.methodLink R_law 154 yX12_secret : Cond) ∈ lw_good := lw_mem (mm_8 (List.mem_of_getElem? (i := 37) (by decide +kernel))) (by decide +kernel)
theorem wl_155 : (.methodLink R_law 155 yX11_told : Cond) ∈ lw_good := lw_mem (mm_4 (List.mem_of_getElem? (i := 231) (by decide +kernel))) (by decide +kernel)
theorem wl_158 : (.methodLink R_law 158 yX12_told : Cond) ∈ lw_good := lw_mem (mm_8 (List.mem_of_getElem? (i := 49) (by decide +kernel))) (by decide +kernel)
theorem wl_159 : (.methodLink R_law 159 yX11_trace : Cond) ∈ lw_good := lw_mem (mm_4 (List.mem_of_getElem? (i := 236) (by decide +kernel))) (by decide +kernel)
theorem wl_162 : (.methodLink R_law 162 yX12_trace : Cond) ∈ lw_good := lw_mem (mm_8 (List.mem_of_getElem? (i := 54) (by decide +kernel))) (by decide +kernel)
theorem wl_163 : (.methodLink R_law 163 yX11_forget : Cond) ∈ lw_good := lw_mem (mm_5 (List.mem_of_getElem? (i := 6) (by decide +kernel))) (by decide +kernel)
theorem wl_166 : (.methodLink R_law 166 yX12_forget : Cond) ∈ lw_good := lw_mem (mm_8 (List.mem_of_getElem? (i := 58) (by decide +kernel))) (by decide +kernel)
theorem wl_167 : (.methodLink R_law 167 yX11_fits : Cond) ∈ lw_good := lw_mem (mm_5 (List.mem_of_getElem? (i := 10) (by decide +kernel))) (by decide +kernel)
theorem wl_170 : (.methodLink R_law 170 yX12_fits : Cond) ∈ lw_good := lw_mem (mm_8 (List.mem_of_getElem? (i := 62) (by decide +kernel))) (by decide +kernel)
theorem wl_171 : (.methodLink R_law 171 yX11_ask : Cond) ∈ lw_good := lw_mem (mm_5 (List.mem_of_getElem? (i := 22) (by decide +kernel))) (by decide +kernel)
theorem wl_174 : (.methodLink R_law 174 yX12_ask : Cond) ∈ lw_good := lw_mem (mm_8 (List.mem_of_getElem? (i := 70) (by decide +kernel))) (by decide +kernel)
theorem wl_175 : (.methodLink R_law 175 yX11_law : Cond) ∈ lw_good := lw_mem (mm_5 (List.mem_of_getElem? (i := 30) (by decide +kernel))) (by decide +kernel)
theorem wl_178 : (.methodLink R_law 178 yX12_law : Cond) ∈ lw_good := lw_mem (mm_8 (List.mem_of_getElem? (i := 74) (by decide +kernel))) (by decide +kernel)
theorem wl_179 : (.methodLink R_law 179 yX11_rests : Cond) ∈ lw_good := lw_mem (mm_5 (List.mem_of_getElem? (i := 34) (by decide +kernel))) (by decide +kernel)
theorem wl_182 : (.methodLink R_law 182 yX12_rests : Cond) ∈ lw_good := lw_mem (mm_8 (List.mem_of_getElem? (i := 78) (by decide +kernel))) (by decide +kernel)
theorem wl_183 : (.methodLink R_law 183 yX11_sieges : Cond) ∈ lw_good := lw_mem (mm_5 (List.mem_of_getElem? (i := 48) (by decide +kernel))) (by decide +kernel)
theorem wl_186 : (.methodLink R_law 186 yX12_sieges : Cond) ∈ lw_good := lw_mem (mm_8 (List.mem_of_getElem? (i := 91) (by decide +kernel))) (by decide +kernel)
theorem wl_187 : (.methodLink R_law 187 yX11_keep : Cond) ∈ lw_good := lw_mem (mm_5 (List.mem_of_getElem? (i := 59) (by decide +kernel))) (by decide +kernel)
theorem wl_190 : (.methodLink R_law 190 yX12_keep : Cond) ∈ lw_good := lw_mem (mm_8 (List.mem_of_getElem? (i := 100) (by decide +kernel))) (by decide +kernel)
theorem wl_191 : (.methodLink R_law 191 yX11_again : Cond) ∈ lw_good := lw_mem (mm_5 (List.mem_of_getElem? (i := 63) (by decide +kernel))) (by decide +kernel)
theorem wl_194 : (.methodLink R_law 194 yX12_again : Cond) ∈ lw_good := lw_mem (mm_8 (List.mem_of_getElem? (i := 104) (by decide +kernel))) (by decide +kernel)
theorem wl_195 : (.methodLink R_law 195 yX11_count : Cond) ∈ lw_good := lw_mem (mm_5 (List.mem_of_getElem? (i := 67) (by decide +kernel))) (by decide +kernel)
theorem wl_198 : (.methodLink R_law 198 yX12_count : Cond) ∈ lw_good := lw_mem (mm_8 (List.mem_of_getElem? (i := 108) (by decide +kernel))) (by decide +kernel)
section LAW
variable {w : WP} {p : Program} {l : Launch} {e : Env} {s : State} {m : MethodId} {below : List Frame} {meth : Method} {c : Code} {b L : Nat} {xs : Nat → Int32} {τ : St} {H : Heap} {cells slots : Nat} {Z : State → Prop} {ls : Array Slot}
theorem cA_sign : cA 220 1 26 30 1302 :=
  ⟨by decide +kernel, fun j hj => by
      obtain rfl : j = 0 := by omega
      exact ⟨by decide +kernel, by decide +kernel, by decide +kernel, by decide +kernel, by decide +kernel⟩,
    by decide +kernel, by decide +kernel, fun j hj => by
      obtain rfl : j = 0 := by omega
      exact ⟨by decide +kernel, by decide +kernel, by decide +kernel, by decide +kernel, by decide +kernel⟩,
    by decide +kernel, by decide +kernel, by decide +kernel⟩
theorem lk_sign (hC : LwC w p s m meth c b L xs) (hL : LwS w s τ H) {i t : Nat} (hv : LwV w b (nI i) ls) (hi : i + 5 ≤ L) (hcs : cells ≤ 601024 ∧ slots ≤ 7293034) (ht : t < 200000) (hI : Inv t τ) (next : ∀ (τ' : St) (H' : Heap), Inv (t + 1) τ' → LwS w s τ' H' → W p l e room_1 s m #[Value.ref b] below meth c H' [] cells slots Z (F0 m 1542 ls [])) : W p l e room_1 s m #[Value.ref b] below meth c H [] cells slots Z (F0 m 220 ls []) :=
  lcase hC hL hv hi hcs ht hI (by omega) cA_sign mt_H_sign mt_M_sign cal_H_sign cal_M_sign rfl rfl wl_26 wl_30 (p_signP t _) next
theorem cA_end : cA 245 1 31 35 1277 :=
  ⟨by decide +kernel, fun j hj => by
      obtain rfl : j = 0 := by omega
      exact ⟨by decide +kernel, by decide +kernel, by decide +kernel, by decide +kernel, by decide +kernel⟩,
    by decide +kernel, by decide +kernel, fun j hj => by
      obtain rfl : j = 0 := by omega
      exact ⟨by decide +kernel, by decide +kernel, by decide +kernel, by decide +kernel, by decide +kernel⟩,
    by decide +kernel, by decide +kernel, by decide +kernel⟩
theorem lk_end (hC : LwC w p s m meth c b L xs) (hL : LwS w s τ H) {i t : Nat} (hv : LwV w b (nI i) ls) (hi : i + 5 ≤ L) (hcs : cells ≤ 601024 ∧ slots ≤ 7293034) (ht : t < 200000) (hI : Inv t τ) (next : ∀ (τ' : St) (H' : Heap), Inv (t + 1) τ' → LwS w s τ' H' → W p l e room_1 s m #[Value.ref b] below meth c H' [] cells slots Z (F0 m 1542 ls [])) : W p l e room_1 s m #[Value.ref b] below meth c H [] cells slots Z (F0 m 245 ls []) :=
  lcase hC hL hv hi hcs ht hI (by omega) cA_end mt_H_end mt_M_end cal_H_end cal_M_end rfl rfl wl_31 wl_35 (p_end t _) next
theorem cA_land : cA 270 0 36 40 1264 :=
  ⟨by decide +kernel, fun j hj => absurd hj (Nat.not_lt_zero j),
    by decide +kernel, by decide +kernel, fun j hj => absurd hj (Nat.not_lt_zero j),
    by decide +kernel, by decide +kernel, by decide +kernel⟩
theorem lk_land (hC : LwC w p s m meth c b L xs) (hL : LwS w s τ H) {i t : Nat} (hv : LwV w b (nI i) ls) (hi : i + 5 ≤ L) (hcs : cells ≤ 601024 ∧ slots ≤ 7293034) (ht : t < 200000) (hI : Inv t τ) (next : ∀ (τ' : St) (H' : Heap), Inv (t + 1) τ' → LwS w s τ' H' → W p l e room_1 s m #[Value.ref b] below meth c H' [] cells slots Z (F0 m 1542 ls [])) : W p l e room_1 s m #[Value.ref b] below meth c H [] cells slots Z (F0 m 270 ls []) :=
  lcase hC hL hv hi hcs ht hI (by omega) cA_land mt_H_land mt_M_land cal_H_land cal_M_land rfl rfl wl_36 wl_40 (p_land t) next
theorem cA_ships : cA 283 0 41 44 1251 :=
  ⟨by decide +kernel, fun j hj => absurd hj (Nat.not_lt_zero j),
    by decide +kernel, by decide +kernel, fun j hj => absurd hj (Nat.not_lt_zero j),
    by decide +kernel, by decide +kernel, by decide +kernel⟩
theorem lk_ships (hC : LwC w p s m meth c b L xs) (hL : LwS w s τ H) {i t : Nat} (hv : LwV w b (nI i) ls) (hi : i + 5 ≤ L) (hcs : cells ≤ 601024 ∧ slots ≤ 7293034) (ht : t < 200000) (hI : Inv t τ) (next : ∀ (τ' : St) (H' : Heap), Inv (t + 1) τ' → LwS w s τ' H' → W p l e room_1 s m #[Value.ref b] below meth c H' [] cells slots Z (F0 m 1542 ls [])) : W p l e room_1 s m #[Value.ref b] below meth c H [] cells slots Z (F0 m 283 ls []) :=
  lcase hC hL hv hi hcs ht hI (by omega) cA_ships mt_H_ships mt_M_ships cal_H_ships cal_M_ships rfl rfl wl_41 wl_44 (p_ships t) next
theorem cA_rule : cA 296 0 45 48 1238 :=
  ⟨by decide +kernel, fun j hj => absurd hj (Nat.not_lt_zero j),
    by decide +kernel, by decide +kernel, fun j hj => absurd hj (Nat.not_lt_zero j),
    by decide +kernel, by decide +kernel, by decide +kernel⟩
theorem lk_rule (hC : LwC w p s m meth c b L xs) (hL : LwS w s τ H) {i t : Nat} (hv : LwV w b (nI i) ls) (hi : i + 5 ≤ L) (hcs : cells ≤ 601024 ∧ slots ≤ 7293034) (ht : t < 200000) (hI : Inv t τ) (next : ∀ (τ' : St) (H' : Heap), Inv (t + 1) τ' → LwS w s τ' H' → W p l e room_1 s m #[Value.ref b] below meth c H' [] cells slots Z (F0 m 1542 ls [])) : W p l e room_1 s m #[Value.ref b] below meth c H [] cells slots Z (F0 m 296 ls []) :=
  lcase hC hL hv hi hcs ht hI (by omega) cA_rule mt_H_rule mt_M_rule cal_H_rule cal_M_rule rfl rfl wl_45 wl_48 (p_rule t) next
theorem cA_pull : cA 445 2 61 64 1065 :=
  ⟨by decide +kernel, fun j hj => by
      rcases (show j = 0 ∨ j = 1 by omega) with rfl | rfl
      · exact ⟨by decide +kernel, by decide +kernel, by decide +kernel, by decide +kernel, by decide +kernel⟩
      · exact ⟨by decide +kernel, by decide +kernel, by decide +kernel, by decide +kernel, by decide +kernel⟩,
    by decide +kernel, by decide +kernel, fun j hj => by
      rcases (show j = 0 ∨ j = 1 by omega) with rfl | rfl
      · exact ⟨by decide +kernel, by decide +kernel, by decide +kernel, by decide +kernel, by decide +kernel⟩
      · exact ⟨by decide +kernel, by decide +kernel, by decide +kernel, by decide +kernel, by decide +kernel⟩,
    by decide +kernel, by decide +kernel, by decide +kernel⟩
theorem lk_pull (hC : LwC w p s m meth c b L xs) (hL : LwS w s τ H) {i t : Nat} (hv : LwV w b (nI i) ls) (hi : i + 5 ≤ L) (hcs : cells ≤ 601024 ∧ slots ≤ 7293034) (ht : t < 200000) (hI : Inv t τ) (next : ∀ (τ' : St) (H' : Heap), Inv (t + 1) τ' → LwS w s τ' H' → W p l e room_1 s m #[Value.ref b] below meth c H' [] cells slots Z (F0 m 1542 ls [])) : W p l e room_1 s m #[Value.ref b] below meth c H [] cells slots Z (F0 m 445 ls []) :=
  lcase hC hL hv hi hcs ht hI (by omega) cA_pull mt_H_pull mt_M_pull cal_H_pull cal_M_pull rfl rfl wl_61 wl_64 (p_pull t _ _) next
theorem cA_set : cA 482 2 65 68 1028 :=
  ⟨by decide +kernel, fun j hj => by
      rcases (show j = 0 ∨ j = 1 by omega) with rfl | rfl
      · exact ⟨by decide +kernel, by decide +kernel, by decide +kernel, by decide +kernel, by decide +kernel⟩
      · exact ⟨by decide +kernel, by decide +kernel, by decide +kernel, by decide +kernel, by decide +kernel⟩,
    by decide +kernel, by decide +kernel, fun j hj => by
      rcases (show j = 0 ∨ j = 1 by omega) with rfl | rfl
      · exact ⟨by decide +kernel, by decide +kernel, by decide +kernel, by decide +kernel, by decide +kernel⟩
      · exact ⟨by decide +kernel, by decide +kernel, by decide +kernel, by decide +kernel, by decide +kernel⟩,
    by decide +kernel, by decide +kernel, by decide +kernel⟩
theorem lk_set (hC : LwC w p s m meth c b L xs) (hL : LwS w s τ H) {i t : Nat} (hv : LwV w b (nI i) ls) (hi : i + 5 ≤ L) (hcs : cells ≤ 601024 ∧ slots ≤ 7293034) (ht : t < 200000) (hI : Inv t τ) (next : ∀ (τ' : St) (H' : Heap), Inv (t + 1) τ' → LwS w s τ' H' → W p l e room_1 s m #[Value.ref b] below meth c H' [] cells slots Z (F0 m 1542 ls [])) : W p l e room_1 s m #[Value.ref b] below meth c H [] cells slots Z (F0 m 482 ls []) :=
  lcase hC hL hv hi hcs ht hI (by omega) cA_set mt_H_set mt_M_set cal_H_set cal_M_set rfl rfl wl_65 wl_68 (p_set t _ _) next
theorem cA_sheet : cA 519 4 69 73 967 :=
  ⟨by decide +kernel, fun j hj => by
      rcases (show j = 0 ∨ j = 1 ∨ j = 2 ∨ j = 3 by omega) with rfl | rfl | rfl | rfl
      · exact ⟨by decide +kernel, by decide +kernel, by decide +kernel, by decide +kernel, by decide +kernel⟩
      · exact ⟨by decide +kernel, by decide +kernel, by decide +kernel, by decide +kernel, by decide +kernel⟩
      · exact ⟨by decide +kernel, by decide +kernel, by decide +kernel, by decide +kernel, by decide +kernel⟩
      · exact ⟨by decide +kernel, by decide +kernel, by decide +kernel, by decide +kernel, by decide +kernel⟩,
    by decide +kernel, by decide +kernel, fun j hj => by
      rcases (show j = 0 ∨ j = 1 ∨ j = 2 ∨ j = 3 by omega) with rfl | rfl | rfl | rfl
      · exact ⟨by decide +kernel, by decide +kernel, by decide +kernel, by decide +kernel, by decide +kernel⟩
      · exact ⟨by decide +kernel, by decide +kernel, by decide +kernel, by decide +kernel, by decide +kernel⟩
      · exact ⟨by decide +kernel, by decide +kernel, by decide +kernel, by decide +kernel, by decide +kernel⟩
      · exact ⟨by decide +kernel, by decide +kernel, by decide +kernel, by decide +kernel, by decide +kernel⟩,
    by decide +kernel, by decide +kernel, by decide +kernel⟩
theorem lk_sheet (hC : LwC w p s m meth c b L xs) (hL : LwS w s τ H) {i t : Nat} (hv : LwV w b (nI i) ls) (hi : i + 5 ≤ L) (hcs : cells ≤ 601024 ∧ slots ≤ 7293034) (ht : t < 200000) (hI : Inv t τ) (next : ∀ (τ' : St) (H' : Heap), Inv (t + 1) τ' → LwS w s τ' H' → W p l e room_1 s m #[Value.ref b] below meth c H' [] cells slots Z (F0 m 1542 ls [])) : W p l e room_1 s m #[Value.ref b] below meth c H [] cells slots Z (F0 m 519 ls []) :=
  lcase hC hL hv hi hcs ht hI (by omega) cA_sheet mt_H_sheet mt_M_sheet cal_H_sheet cal_M_sheet rfl rfl wl_69 wl_73 (p_sheet t _ _ _ _) next
theorem cA_drag : cA 580 2 74 77 930 :=
  ⟨by decide +kernel, fun j hj => by
      rcases (show j = 0 ∨ j = 1 by omega) with rfl | rfl
      · exact ⟨by decide +kernel, by decide +kernel, by decide +kernel, by decide +kernel, by decide +kernel⟩
      · exact ⟨by decide +kernel, by decide +kernel, by decide +kernel, by decide +kernel, by decide +kernel⟩,
    by decide +kernel, by decide +kernel, fun j hj => by
      rcases (show j = 0 ∨ j = 1 by omega) with rfl | rfl
      · exact ⟨by decide +kernel, by decide +kernel, by decide +kernel, by decide +kernel, by decide +kernel⟩
      · exact ⟨by decide +kernel, by decide +kernel, by decide +kernel, by decide +kernel, by decide +kernel⟩,
    by decide +kernel, by decide +kernel, by decide +kernel⟩
theorem lk_drag (hC : LwC w p s m meth c b L xs) (hL : LwS w s τ H) {i t : Nat} (hv : LwV w b (nI i) ls) (hi : i + 5 ≤ L) (hcs : cells ≤ 601024 ∧ slots ≤ 7293034) (ht : t < 200000) (hI : Inv t τ) (next : ∀ (τ' : St) (H' : Heap), Inv (t + 1) τ' → LwS w s τ' H' → W p l e room_1 s m #[Value.ref b] below meth c H' [] cells slots Z (F0 m 1542 ls [])) : W p l e room_1 s m #[Value.ref b] below meth c H [] cells slots Z (F0 m 580 ls []) :=
  lcase hC hL hv hi hcs ht hI (by omega) cA_drag mt_H_drag mt_M_drag cal_H_drag cal_M_drag rfl rfl wl_74 wl_77 (p_drag t _ _) next
theorem cA_plank : cA 617 1 78 81 905 :=
  ⟨by decide +kernel, fun j hj => by
      obtain rfl : j = 0 := by omega
      exact ⟨by decide +kernel, by decide +kernel, by decide +kernel, by decide +kernel, by decide +kernel⟩,
    by decide +kernel, by decide +kernel, fun j hj => by
      obtain rfl : j = 0 := by omega
      exact ⟨by decide +kernel, by decide +kernel, by decide +kernel, by decide +kernel, by decide +kernel⟩,
    by decide +kernel, by decide +kernel, by decide +kernel⟩
theorem lk_plank (hC : LwC w p s m meth c b L xs) (hL : LwS w s τ H) {i t : Nat} (hv : LwV w b (nI i) ls) (hi : i + 5 ≤ L) (hcs : cells ≤ 601024 ∧ slots ≤ 7293034) (ht : t < 200000) (hI : Inv t τ) (next : ∀ (τ' : St) (H' : Heap), Inv (t + 1) τ' → LwS w s τ' H' → W p l e room_1 s m #[Value.ref b] below meth c H' [] cells slots Z (F0 m 1542 ls [])) : W p l e room_1 s m #[Value.ref b] below meth c H [] cells slots Z (F0 m 617 ls []) :=
  lcase hC hL hv hi hcs ht hI (by omega) cA_plank mt_H_plank mt_M_plank cal_H_plank cal_M_plank rfl rfl wl_78 wl_81 (p_plank t _) next
theorem cA_hours : cA 642 1 82 85 880 :=
  ⟨by decide +kernel, fun j hj => by
      obtain rfl : j = 0 := by omega
      exact ⟨by decide +kernel, by decide +kernel, by decide +kernel, by decide +kernel, by decide +kernel⟩,
    by decide +kernel, by decide +kernel, fun j hj => by
      obtain rfl : j = 0 := by omega
      exact ⟨by decide +kernel, by decide +kernel, by decide +kernel, by decide +kernel, by decide +kernel⟩,
    by decide +kernel, by decide +kernel, by decide +kernel⟩
theorem lk_hours (hC : LwC w p s m meth c b L xs) (hL : LwS w s τ H) {i t : Nat} (hv : LwV w b (nI i) ls) (hi : i + 5 ≤ L) (hcs : cells ≤ 601024 ∧ slots ≤ 7293034) (ht : t < 200000) (hI : Inv t τ) (next : ∀ (τ' : St) (H' : Heap), Inv (t + 1) τ' → LwS w s τ' H' → W p l e room_1 s m #[Value.ref b] below meth c H' [] cells slots Z (F0 m 1542 ls [])) : W p l e room_1 s m #[Value.ref b] below meth c H [] cells slots Z (F0 m 642 ls []) :=
  lcase hC hL hv hi hcs ht hI (by omega) cA_hours mt_H_hours mt_M_hours cal_H_hours cal_M_hours rfl rfl wl_82 wl_85 (p_hours t _) next
theorem cA_siege : cA 667 0 86 89 867 :=
  ⟨by decide +kernel, fun j hj => absurd hj (Nat.not_lt_zero j),
    by decide +kernel, by decide +kernel, fun j hj => absurd hj (Nat.not_lt_zero j),
    by decide +kernel, by decide +kernel, by decide +kernel⟩
theorem lk_siege (hC : LwC w p s m meth c b L xs) (hL : LwS w s τ H) {i t : Nat} (hv : LwV w b (nI i) ls) (hi : i + 5 ≤ L) (hcs : cells ≤ 601024 ∧ slots ≤ 7293034) (ht : t < 200000) (hI : Inv t τ) (next : ∀ (τ' : St) (H' : Heap), Inv (t + 1) τ' → LwS w s τ' H' → W p l e room_1 s m #[Value.ref b] below meth c H' [] cells slots Z (F0 m 1542 ls [])) : W p l e room_1 s m #[Value.ref b] below meth c H [] cells slots Z (F0 m 667 ls []) :=
  lcase hC hL hv hi hcs ht hI (by omega) cA_siege mt_H_siege mt_M_siege cal_H_siege cal_M_siege rfl rfl wl_86 wl_89 (p_siege t) next
theorem cA_undo : cA 680 0 90 93 854 :=
  ⟨by decide +kernel, fun j hj => absurd hj (Nat.not_lt_zero j),
    by decide +kernel, by decide +kernel, fun j hj => absurd hj (Nat.not_lt_zero j),
    by decide +kernel, by decide +kernel, by decide +kernel⟩
theorem lk_undo (hC : LwC w p s m meth c b L xs) (hL : LwS w s τ H) {i t : Nat} (hv : LwV w b (nI i) ls) (hi : i + 5 ≤ L) (hcs : cells ≤ 601024 ∧ slots ≤ 7293034) (ht : t < 200000) (hI : Inv t τ) (next : ∀ (τ' : St) (H' : Heap), Inv (t + 1) τ' → LwS w s τ' H' → W p l e room_1 s m #[Value.ref b] below meth c H' [] cells slots Z (F0 m 1542 ls [])) : W p l e room_1 s m #[Value.ref b] below meth c H [] cells slots Z (F0 m 680 ls []) :=
  lcase hC hL hv hi hcs ht hI (by omega) cA_undo mt_H_undo mt_M_undo cal_H_undo cal_M_undo rfl rfl wl_90 wl_93 (p_undo t) next
theorem cA_way : cA 693 3 94 98 805 :=
  ⟨by decide +kernel, fun j hj => by
      rcases (show j = 0 ∨ j = 1 ∨ j = 2 by omega) with rfl | rfl | rfl
      · exact ⟨by decide +kernel, by decide +kernel, by decide +kernel, by decide +kernel, by decide +kernel⟩
      · exact ⟨by decide +kernel, by decide +kernel, by decide +kernel, by decide +kernel, by decide +kernel⟩
      · exact ⟨by decide +kernel, by decide +kernel, by decide +kernel, by decide +kernel, by decide +kernel⟩,
    by decide +kernel, by decide +kernel, fun j hj => by
      rcases (show j = 0 ∨ j = 1 ∨ j = 2 by omega) with rfl | rfl | rfl
      · exact ⟨by decide +kernel, by decide +kernel, by decide +kernel, by decide +kernel, by decide +kernel⟩
      · exact ⟨by decide +kernel, by decide +kernel, by decide +kernel, by decide +kernel, by decide +kernel⟩
      · exact ⟨by decide +kernel, by decide +kernel, by decide +kernel, by decide +kernel, by decide +kernel⟩,
    by decide +kernel, by decide +kernel, by decide +kernel⟩
theorem lk_way (hC : LwC w p s m meth c b L xs) (hL : LwS w s τ H) {i t : Nat} (hv : LwV w b (nI i) ls) (hi : i + 5 ≤ L) (hcs : cells ≤ 601024 ∧ slots ≤ 7293034) (ht : t < 200000) (hI : Inv t τ) (next : ∀ (τ' : St) (H' : Heap), Inv (t + 1) τ' → LwS w s τ' H' → W p l e room_1 s m #[Value.ref b] below meth c H' [] cells slots Z (F0 m 1542 ls [])) : W p l e room_1 s m #[Value.ref b] below meth c H [] cells slots Z (F0 m 693 ls []) :=
  lcase hC hL hv hi hcs ht hI (by omega) cA_way mt_H_way mt_M_way cal_H_way cal_M_way rfl rfl wl_94 wl_98 (p_way t _ _ _) next
theorem cA_easy : cA 742 3 99 102 756 :=
  ⟨by decide +kernel, fun j hj => by
      rcases (show j = 0 ∨ j = 1 ∨ j = 2 by omega) with rfl | rfl | rfl
      · exact ⟨by decide +kernel, by decide +kernel, by decide +kernel, by decide +kernel, by decide +kernel⟩
      · exact ⟨by decide +kernel, by decide +kernel, by decide +kernel, by decide +kernel, by decide +kernel⟩
      · exact ⟨by decide +kernel, by decide +kernel, by decide +kernel, by decide +kernel, by decide +kernel⟩,
    by decide +kernel, by decide +kernel, fun j hj => by
      rcases (show j = 0 ∨ j = 1 ∨ j = 2 by omega) with rfl | rfl | rfl
      · exact ⟨by decide +kernel, by decide +kernel, by decide +kernel, by decide +kernel, by decide +kernel⟩
      · exact ⟨by decide +kernel, by decide +kernel, by decide +kernel, by decide +kernel, by decide +kernel⟩
      · exact ⟨by decide +kernel, by decide +kernel, by decide +kernel, by decide +kernel, by decide +kernel⟩,
    by decide +kernel, by decide +kernel, by decide +kernel⟩
theorem lk_easy (hC : LwC w p s m meth c b L xs) (hL : LwS w s τ H) {i t : Nat} (hv : LwV w b (nI i) ls) (hi : i + 5 ≤ L) (hcs : cells ≤ 601024 ∧ slots ≤ 7293034) (ht : t < 200000) (hI : Inv t τ) (next : ∀ (τ' : St) (H' : Heap), Inv (t + 1) τ' → LwS w s τ' H' → W p l e room_1 s m #[Value.ref b] below meth c H' [] cells slots Z (F0 m 1542 ls [])) : W p l e room_1 s m #[Value.ref b] below meth c H [] cells slots Z (F0 m 742 ls []) :=
  lcase hC hL hv hi hcs ht hI (by omega) cA_easy mt_H_easy mt_M_easy cal_H_easy cal_M_easy rfl rfl wl_99 wl_102 (p_easy t _ _ _) next
theorem cA_soon : cA 791 3 103 106 707 :=
  ⟨by decide +kernel, fun j hj => by
      rcases (show j = 0 ∨ j = 1 ∨ j = 2 by omega) with rfl | rfl | rfl
      · exact ⟨by decide +kernel, by decide +kernel, by decide +kernel, by decide +kernel, by decide +kernel⟩
      · exact ⟨by decide +kernel, by decide +kernel, by decide +kernel, by decide +kernel, by decide +kernel⟩
      · exact ⟨by decide +kernel, by decide +kernel, by decide +kernel, by decide +kernel, by decide +kernel⟩,
    by decide +kernel, by decide +kernel, fun j hj => by
      rcases (show j = 0 ∨ j = 1 ∨ j = 2 by omega) with rfl | rfl | rfl
      · exact ⟨by decide +kernel, by decide +kernel, by decide +kernel, by decide +kernel, by decide +kernel⟩
      · exact ⟨by decide +kernel, by decide +kernel, by decide +kernel, by decide +kernel, by decide +kernel⟩
      · exact ⟨by decide +kernel, by decide +kernel, by decide +kernel, by decide +kernel, by decide +kernel⟩,
    by decide +kernel, by decide +kernel, by decide +kernel⟩
theorem lk_soon (hC : LwC w p s m meth c b L xs) (hL : LwS w s τ H) {i t : Nat} (hv : LwV w b (nI i) ls) (hi : i + 5 ≤ L) (hcs : cells ≤ 601024 ∧ slots ≤ 7293034) (ht : t < 200000) (hI : Inv t τ) (next : ∀ (τ' : St) (H' : Heap), Inv (t + 1) τ' → LwS w s τ' H' → W p l e room_1 s m #[Value.ref b] below meth c H' [] cells slots Z (F0 m 1542 ls [])) : W p l e room_1 s m #[Value.ref b] below meth c H [] cells slots Z (F0 m 791 ls []) :=
  lcase hC hL hv hi hcs ht hI (by omega) cA_soon mt_H_soon mt_M_soon cal_H_soon cal_M_soon rfl rfl wl_103 wl_106 (p_soon t _ _ _) next
theorem cA_pass : cA 840 0 107 110 694 :=
  ⟨by decide +kernel, fun j hj => absurd hj (Nat.not_lt_zero j),
    by decide +kernel, by decide +kernel, fun j hj => absurd hj (Nat.not_lt_zero j),
    by decide +kernel, by decide +kernel, by decide +kernel⟩
theorem lk_pass (hC : LwC w p s m meth c b L xs) (hL : LwS w s τ H) {i t : Nat} (hv : LwV w b (nI i) ls) (hi : i + 5 ≤ L) (hcs : cells ≤ 601024 ∧ slots ≤ 7293034) (ht : t < 200000) (hI : Inv t τ) (next : ∀ (τ' : St) (H' : Heap), Inv (t + 1) τ' → LwS w s τ' H' → W p l e room_1 s m #[Value.ref b] below meth c H' [] cells slots Z (F0 m 1542 ls [])) : W p l e room_1 s m #[Value.ref b] below meth c H [] cells slots Z (F0 m 840 ls []) :=
  lcase hC hL hv hi hcs ht hI (by omega) cA_pass mt_H_pass mt_M_pass cal_H_pass cal_M_pass rfl rfl wl_107 wl_110 (p_pass t) next
theorem cA_oxen : cA 853 1 111 114 669 :=
  ⟨by decide +kernel, fun j hj => by
      obtain rfl : j = 0 := by omega
      exact ⟨by decide +kernel, by decide +kernel, by decide +kernel, by decide +kernel, by decide +kernel⟩,
    by decide +kernel, by decide +kernel, fun j hj => by
      obtain rfl : j = 0 := by omega
      exact ⟨by decide +kernel, by decide +kernel, by decide +kernel, by decide +kernel, by decide +kernel⟩,
    by decide +kernel, by decide +kernel, by decide +kernel⟩
theorem lk_oxen (hC : LwC w p s m meth c b L xs) (hL : LwS w s τ H) {i t : Nat} (hv : LwV w b (nI i) ls) (hi : i + 5 ≤ L) (hcs : cells ≤ 601024 ∧ slots ≤ 7293034) (ht : t < 200000) (hI : Inv t τ) (next : ∀ (τ' : St) (H' : Heap), Inv (t + 1) τ' → LwS w s τ' H' → W p l e room_1 s m #[Value.ref b] below meth c H' [] cells slots Z (F0 m 1542 ls [])) : W p l e room_1 s m #[Value.ref b] below meth c H [] cells slots Z (F0 m 853 ls []) :=
  lcase hC hL hv hi hcs ht hI (by omega) cA_oxen mt_H_oxen mt_M_oxen cal_H_oxen cal_M_oxen rfl rfl wl_111 wl_114 (p_oxen t _) next
theorem cA_can : cA 878 0 115 118 656 :=
  ⟨by decide +kernel, fun j hj => absurd hj (Nat.not_lt_zero j),
    by decide +kernel, by decide +kernel, fun j hj => absurd hj (Nat.not_lt_zero j),
    by decide +kernel, by decide +kernel, by decide +kernel⟩
theorem lk_can (hC : LwC w p s m meth c b L xs) (hL : LwS w s τ H) {i t : Nat} (hv : LwV w b (nI i) ls) (hi : i + 5 ≤ L) (hcs : cells ≤ 601024 ∧ slots ≤ 7293034) (ht : t < 200000) (hI : Inv t τ) (next : ∀ (τ' : St) (H' : Heap), Inv (t + 1) τ' → LwS w s τ' H' → W p l e room_1 s m #[Value.ref b] below meth c H' [] cells slots Z (F0 m 1542 ls [])) : W p l e room_1 s m #[Value.ref b] below meth c H [] cells slots Z (F0 m 878 ls []) :=
  lcase hC hL hv hi hcs ht hI (by omega) cA_can mt_H_can mt_M_can cal_H_can cal_M_can rfl rfl wl_115 wl_118 (p_can t) next
theorem cA_planks : cA 891 2 119 122 619 :=
  ⟨by decide +kernel, fun j hj => by
      rcases (show j = 0 ∨ j = 1 by omega) with rfl | rfl
      · exact ⟨by decide +kernel, by decide +kernel, by decide +kernel, by decide +kernel, by decide +kernel⟩
      · exact ⟨by decide +kernel, by decide +kernel, by decide +kernel, by decide +kernel, by decide +kernel⟩,
    by decide +kernel, by decide +kernel, fun j hj => by
      rcases (show j = 0 ∨ j = 1 by omega) with rfl | rfl
      · exact ⟨by decide +kernel, by decide +kernel, by decide +kernel, by decide +kernel, by decide +kernel⟩
      · exact ⟨by decide +kernel, by decide +kernel, by decide +kernel, by decide +kernel, by decide +kernel⟩,
    by decide +kernel, by decide +kernel, by decide +kernel⟩
theorem lk_planks (hC : LwC w p s m meth c b L xs) (hL : LwS w s τ H) {i t : Nat} (hv : LwV w b (nI i) ls) (hi : i + 5 ≤ L) (hcs : cells ≤ 601024 ∧ slots ≤ 7293034) (ht : t < 200000) (hI : Inv t τ) (next : ∀ (τ' : St) (H' : Heap), Inv (t + 1) τ' → LwS w s τ' H' → W p l e room_1 s m #[Value.ref b] below meth c H' [] cells slots Z (F0 m 1542 ls [])) : W p l e room_1 s m #[Value.ref b] below meth c H [] cells slots Z (F0 m 891 ls []) :=
  lcase hC hL hv hi hcs ht hI (by omega) cA_planks mt_H_planks mt_M_planks cal_H_planks cal_M_planks rfl rfl wl_119 wl_122 (p_planks t _ _) next
theorem cA_over : cA 928 1 123 126 594 :=
  ⟨by decide +kernel, fun j hj => by
      obtain rfl : j = 0 := by omega
      exact ⟨by decide +kernel, by decide +kernel, by decide +kernel, by decide +kernel, by decide +kernel⟩,
    by decide +kernel, by decide +kernel, fun j hj => by
      obtain rfl : j = 0 := by omega
      exact ⟨by decide +kernel, by decide +kernel, by decide +kernel, by decide +kernel, by decide +kernel⟩,
    by decide +kernel, by decide +kernel, by decide +kernel⟩
theorem lk_over (hC : LwC w p s m meth c b L xs) (hL : LwS w s τ H) {i t : Nat} (hv : LwV w b (nI i) ls) (hi : i + 5 ≤ L) (hcs : cells ≤ 601024 ∧ slots ≤ 7293034) (ht : t < 200000) (hI : Inv t τ) (next : ∀ (τ' : St) (H' : Heap), Inv (t + 1) τ' → LwS w s τ' H' → W p l e room_1 s m #[Value.ref b] below meth c H' [] cells slots Z (F0 m 1542 ls [])) : W p l e room_1 s m #[Value.ref b] below meth c H [] cells slots Z (F0 m 928 ls []) :=
  lcase hC hL hv hi hcs ht hI (by omega) cA_over mt_H_over mt_M_over cal_H_over cal_M_over rfl rfl wl_123 wl_126 (p_over t _) next
theorem cA_kind : cA 953 2 127 130 557 :=
  ⟨by decide +kernel, fun j hj => by
      rcases (show j = 0 ∨ j = 1 by omega) with rfl | rfl
      · exact ⟨by decide +kernel, by decide +kernel, by decide +kernel, by decide +kernel, by decide +kernel⟩
      · exact ⟨by decide +kernel, by decide +kernel, by decide +kernel, by decide +kernel, by decide +kernel⟩,
    by decide +kernel, by decide +kernel, fun j hj => by
      rcases (show j = 0 ∨ j = 1 by omega) with rfl | rfl
      · exact ⟨by decide +kernel, by decide +kernel, by decide +kernel, by decide +kernel, by decide +kernel⟩
      · exact ⟨by decide +kernel, by decide +kernel, by decide +kernel, by decide +kernel, by decide +kernel⟩,
    by decide +kernel, by decide +kernel, by decide +kernel⟩
theorem lk_kind (hC : LwC w p s m meth c b L xs) (hL : LwS w s τ H) {i t : Nat} (hv : LwV w b (nI i) ls) (hi : i + 5 ≤ L) (hcs : cells ≤ 601024 ∧ slots ≤ 7293034) (ht : t < 200000) (hI : Inv t τ) (next : ∀ (τ' : St) (H' : Heap), Inv (t + 1) τ' → LwS w s τ' H' → W p l e room_1 s m #[Value.ref b] below meth c H' [] cells slots Z (F0 m 1542 ls [])) : W p l e room_1 s m #[Value.ref b] below meth c H [] cells slots Z (F0 m 953 ls []) :=
  lcase hC hL hv hi hcs ht hI (by omega) cA_kind mt_H_kind mt_M_kind cal_H_kind cal_M_kind rfl rfl wl_127 wl_130 (p_kind t _ _) next
theorem cA_quiet : cA 990 1 131 134 532 :=
  ⟨by decide +kernel, fun j hj => by
      obtain rfl : j = 0 := by omega
      exact ⟨by decide +kernel, by decide +kernel, by decide +kernel, by decide +kernel, by decide +kernel⟩,
    by decide +kernel, by decide +kernel, fun j hj => by
      obtain rfl : j = 0 := by omega
      exact ⟨by decide +kernel, by decide +kernel, by decide +kernel, by decide +kernel, by decide +kernel⟩,
    by decide +kernel, by decide +kernel, by decide +kernel⟩
theorem lk_quiet (hC : LwC w p s m meth c b L xs) (hL : LwS w s τ H) {i t : Nat} (hv : LwV w b (nI i) ls) (hi : i + 5 ≤ L) (hcs : cells ≤ 601024 ∧ slots ≤ 7293034) (ht : t < 200000) (hI : Inv t τ) (next : ∀ (τ' : St) (H' : Heap), Inv (t + 1) τ' → LwS w s τ' H' → W p l e room_1 s m #[Value.ref b] below meth c H' [] cells slots Z (F0 m 1542 ls [])) : W p l e room_1 s m #[Value.ref b] below meth c H [] cells slots Z (F0 m 990 ls []) :=
  lcase hC hL hv hi hcs ht hI (by omega) cA_quiet mt_H_quiet mt_M_quiet cal_H_quiet cal_M_quiet rfl rfl wl_131 wl_134 (p_quiet t _) next
theorem cA_night : cA 1015 3 135 138 483 :=
  ⟨by decide +kernel, fun j hj => by
      rcases (show j = 0 ∨ j = 1 ∨ j = 2 by omega) with rfl | rfl | rfl
      · exact ⟨by decide +kernel, by decide +kernel, by decide +kernel, by decide +kernel, by decide +kernel⟩
      · exact ⟨by decide +kernel, by decide +kernel, by decide +kernel, by decide +kernel, by decide +kernel⟩
      · exact ⟨by decide +kernel, by decide +kernel, by decide +kernel, by decide +kernel, by decide +kernel⟩,
    by decide +kernel, by decide +kernel, fun j hj => by
      rcases (show j = 0 ∨ j = 1 ∨ j = 2 by omega) with rfl | rfl | rfl
      · exact ⟨by decide +kernel, by decide +kernel, by decide +kernel, by decide +kernel, by decide +kernel⟩
      · exact ⟨by decide +kernel, by decide +kernel, by decide +kernel, by decide +kernel, by decide +kernel⟩
      · exact ⟨by decide +kernel, by decide +kernel, by decide +kernel, by decide +kernel, by decide +kernel⟩,
    by decide +kernel, by decide +kernel, by decide +kernel⟩
theorem lk_night (hC : LwC w p s m meth c b L xs) (hL : LwS w s τ H) {i t : Nat} (hv : LwV w b (nI i) ls) (hi : i + 5 ≤ L) (hcs : cells ≤ 601024 ∧ slots ≤ 7293034) (ht : t < 200000) (hI : Inv t τ) (next : ∀ (τ' : St) (H' : Heap), Inv (t + 1) τ' → LwS w s τ' H' → W p l e room_1 s m #[Value.ref b] below meth c H' [] cells slots Z (F0 m 1542 ls [])) : W p l e room_1 s m #[Value.ref b] below meth c H [] cells slots Z (F0 m 1015 ls []) :=
  lcase hC hL hv hi hcs ht hI (by omega) cA_night mt_H_night mt_M_night cal_H_night cal_M_night rfl rfl wl_135 wl_138 (p_night t _ _ _) next
theorem cA_walls : cA 1064 1 139 142 458 :=
  ⟨by decide +kernel, fun j hj => by
      obtain rfl : j = 0 := by omega
      exact ⟨by decide +kernel, by decide +kernel, by decide +kernel, by decide +kernel, by decide +kernel⟩,
    by decide +kernel, by decide +kernel, fun j hj => by
      obtain rfl : j = 0 := by omega
      exact ⟨by decide +kernel, by decide +kernel, by decide +kernel, by decide +kernel, by decide +kernel⟩,
    by decide +kernel, by decide +kernel, by decide +kernel⟩
theorem lk_walls (hC : LwC w p s m meth c b L xs) (hL : LwS w s τ H) {i t : Nat} (hv : LwV w b (nI i) ls) (hi : i + 5 ≤ L) (hcs : cells ≤ 601024 ∧ slots ≤ 7293034) (ht : t < 200000) (hI : Inv t τ) (next : ∀ (τ' : St) (H' : Heap), Inv (t + 1) τ' → LwS w s τ' H' → W p l e room_1 s m #[Value.ref b] below meth c H' [] cells slots Z (F0 m 1542 ls [])) : W p l e room_1 s m #[Value.ref b] below meth c H [] cells slots Z (F0 m 1064 ls []) :=
  lcase hC hL hv hi hcs ht hI (by omega) cA_walls mt_H_walls mt_M_walls cal_H_walls cal_M_walls rfl rfl wl_139 wl_142 (p_walls t _) next
theorem cA_storm : cA 1089 2 143 146 421 :=
  ⟨by decide +kernel, fun j hj => by
      rcases (show j = 0 ∨ j = 1 by omega) with rfl | rfl
      · exact ⟨by decide +kernel, by decide +kernel, by decide +kernel, by decide +kernel, by decide +kernel⟩
      · exact ⟨by decide +kernel, by decide +kernel, by decide +kernel, by decide +kernel, by decide +kernel⟩,
    by decide +kernel, by decide +kernel, fun j hj => by
      rcases (show j = 0 ∨ j = 1 by omega) with rfl | rfl
      · exact ⟨by decide +kernel, by decide +kernel, by decide +kernel, by decide +kernel, by decide +kernel⟩
      · exact ⟨by decide +kernel, by decide +kernel, by decide +kernel, by decide +kernel, by decide +kernel⟩,
    by decide +kernel, by decide +kernel, by decide +kernel⟩
theorem lk_storm (hC : LwC w p s m meth c b L xs) (hL : LwS w s τ H) {i t : Nat} (hv : LwV w b (nI i) ls) (hi : i + 5 ≤ L) (hcs : cells ≤ 601024 ∧ slots ≤ 7293034) (ht : t < 200000) (hI : Inv t τ) (next : ∀ (τ' : St) (H' : Heap), Inv (t + 1) τ' → LwS w s τ' H' → W p l e room_1 s m #[Value.ref b] below meth c H' [] cells slots Z (F0 m 1542 ls [])) : W p l e room_1 s m #[Value.ref b] below meth c H [] cells slots Z (F0 m 1089 ls []) :=
  lcase hC hL hv hi hcs ht hI (by omega) cA_storm mt_H_storm mt_M_storm cal_H_storm cal_M_storm rfl rfl wl_143 wl_146 (p_storm t _ _) next
theorem cA_town : cA 1126 2 147 150 384 :=
  ⟨by decide +kernel, fun j hj => by
      rcases (show j = 0 ∨ j = 1 by omega) with rfl | rfl
      · exact ⟨by decide +kernel, by decide +kernel, by decide +kernel, by decide +kernel, by decide +kernel⟩
      · exact ⟨by decide +kernel, by decide +kernel, by decide +kernel, by decide +kernel, by decide +kernel⟩,
    by decide +kernel, by decide +kernel, fun j hj => by
      rcases (show j = 0 ∨ j = 1 by omega) with rfl | rfl
      · exact ⟨by decide +kernel, by decide +kernel, by decide +kernel, by decide +kernel, by decide +kernel⟩
      · exact ⟨by decide +kernel, by decide +kernel, by decide +kernel, by decide +kernel, by decide +kernel⟩,
    by decide +kernel, by decide +kernel, by decide +kernel⟩
theorem lk_town (hC : LwC w p s m meth c b L xs) (hL : LwS w s τ H) {i t : Nat} (hv : LwV w b (nI i) ls) (hi : i + 5 ≤ L) (hcs : cells ≤ 601024 ∧ slots ≤ 7293034) (ht : t < 200000) (hI : Inv t τ) (next : ∀ (τ' : St) (H' : Heap), Inv (t + 1) τ' → LwS w s τ' H' → W p l e room_1 s m #[Value.ref b] below meth c H' [] cells slots Z (F0 m 1542 ls [])) : W p l e room_1 s m #[Value.ref b] below meth c H [] cells slots Z (F0 m 1126 ls []) :=
  lcase hC hL hv hi hcs ht hI (by omega) cA_town mt_H_town mt_M_town cal_H_town cal_M_town rfl rfl wl_147 wl_150 (p_town t _ _) next
theorem cA_secret : cA 1163 2 151 154 347 :=
  ⟨by decide +kernel, fun j hj => by
      rcases (show j = 0 ∨ j = 1 by omega) with rfl | rfl
      · exact ⟨by decide +kernel, by decide +kernel, by decide +kernel, by decide +kernel, by decide +kernel⟩
      · exact ⟨by decide +kernel, by decide +kernel, by decide +kernel, by decide +kernel, by decide +kernel⟩,
    by decide +kernel, by decide +kernel, fun j hj => by
      rcases (show j = 0 ∨ j = 1 by omega) with rfl | rfl
      · exact ⟨by decide +kernel, by decide +kernel, by decide +kernel, by decide +kernel, by decide +kernel⟩
      · exact ⟨by decide +kernel, by decide +kernel, by decide +kernel, by decide +kernel, by decide +kernel⟩,
    by decide +kernel, by decide +kernel, by decide +kernel⟩
theorem lk_secret (hC : LwC w p s m meth c b L xs) (hL : LwS w s τ H) {i t : Nat} (hv : LwV w b (nI i) ls) (hi : i + 5 ≤ L) (hcs : cells ≤ 601024 ∧ slots ≤ 7293034) (ht : t < 200000) (hI : Inv t τ) (next : ∀ (τ' : St) (H' : Heap), Inv (t + 1) τ' → LwS w s τ' H' → W p l e room_1 s m #[Value.ref b] below meth c H' [] cells slots Z (F0 m 1542 ls [])) : W p l e room_1 s m #[Value.ref b] below meth c H [] cells slots Z (F0 m 1163 ls []) :=
  lcase hC hL hv hi hcs ht hI (by omega) cA_secret mt_H_secret mt_M_secret cal_H_secret cal_M_secret rfl rfl wl_151 wl_154 (p_secret t _ _) next
theorem cA_told : cA 1200 2 155 158 310 :=
  ⟨by decide +kernel, fun j hj => by
      rcases (show j = 0 ∨ j = 1 by omega) with rfl | rfl
      · exact ⟨by decide +kernel, by decide +kernel, by decide +kernel, by decide +kernel, by decide +kernel⟩
      · exact ⟨by decide +kernel, by decide +kernel, by decide +kernel, by decide +kernel, by decide +kernel⟩,
    by decide +kernel, by decide +kernel, fun j hj => by
      rcases (show j = 0 ∨ j = 1 by omega) with rfl | rfl
      · exact ⟨by decide +kernel, by decide +kernel, by decide +kernel, by decide +kernel, by decide +kernel⟩
      · exact ⟨by decide +kernel, by decide +kernel, by decide +kernel, by decide +kernel, by decide +kernel⟩,
    by decide +kernel, by decide +kernel, by decide +kernel⟩
theorem lk_told (hC : LwC w p s m meth c b L xs) (hL : LwS w s τ H) {i t : Nat} (hv : LwV w b (nI i) ls) (hi : i + 5 ≤ L) (hcs : cells ≤ 601024 ∧ slots ≤ 7293034) (ht : t < 200000) (hI : Inv t τ) (next : ∀ (τ' : St) (H' : Heap), Inv (t + 1) τ' → LwS w s τ' H' → W p l e room_1 s m #[Value.ref b] below meth c H' [] cells slots Z (F0 m 1542 ls [])) : W p l e room_1 s m #[Value.ref b] below meth c H [] cells slots Z (F0 m 1200 ls []) :=
  lcase hC hL hv hi hcs ht hI (by omega) cA_told mt_H_told mt_M_told cal_H_told cal_M_told rfl rfl wl_155 wl_158 (p_told t _ _) next
theorem cA_trace : cA 1237 2 159 162 273 :=
  ⟨by decide +kernel, fun j hj => by
      rcases (show j = 0 ∨ j = 1 by omega) with rfl | rfl
      · exact ⟨by decide +kernel, by decide +kernel, by decide +kernel, by decide +kernel, by decide +kernel⟩
      · exact ⟨by decide +kernel, by decide +kernel, by decide +kernel, by decide +kernel, by decide +kernel⟩,
    by decide +kernel, by decide +kernel, fun j hj => by
      rcases (show j = 0 ∨ j = 1 by omega) with rfl | rfl
      · exact ⟨by decide +kernel, by decide +kernel, by decide +kernel, by decide +kernel, by decide +kernel⟩
      · exact ⟨by decide +kernel, by decide +kernel, by decide +kernel, by decide +kernel, by decide +kernel⟩,
    by decide +kernel, by decide +kernel, by decide +kernel⟩
theorem lk_trace (hC : LwC w p s m meth c b L xs) (hL : LwS w s τ H) {i t : Nat} (hv : LwV w b (nI i) ls) (hi : i + 5 ≤ L) (hcs : cells ≤ 601024 ∧ slots ≤ 7293034) (ht : t < 200000) (hI : Inv t τ) (next : ∀ (τ' : St) (H' : Heap), Inv (t + 1) τ' → LwS w s τ' H' → W p l e room_1 s m #[Value.ref b] below meth c H' [] cells slots Z (F0 m 1542 ls [])) : W p l e room_1 s m #[Value.ref b] below meth c H [] cells slots Z (F0 m 1237 ls []) :=
  lcase hC hL hv hi hcs ht hI (by omega) cA_trace mt_H_trace mt_M_trace cal_H_trace cal_M_trace rfl rfl wl_159 wl_162 (p_trace t _ _) next
theorem cA_forget : cA 1274 0 163 166 260 :=
  ⟨by decide +kernel, fun j hj => absurd hj (Nat.not_lt_zero j),
    by decide +kernel, by decide +kernel, fun j hj => absurd hj (Nat.not_lt_zero j),
    by decide +kernel, by decide +kernel, by decide +kernel⟩
theorem lk_forget (hC : LwC w p s m meth c b L xs) (hL : LwS w s τ H) {i t : Nat} (hv : LwV w b (nI i) ls) (hi : i + 5 ≤ L) (hcs : cells ≤ 601024 ∧ slots ≤ 7293034) (ht : t < 200000) (hI : Inv t τ) (next : ∀ (τ' : St) (H' : Heap), Inv (t + 1) τ' → LwS w s τ' H' → W p l e room_1 s m #[Value.ref b] below meth c H' [] cells slots Z (F0 m 1542 ls [])) : W p l e room_1 s m #[Value.ref b] below meth c H [] cells slots Z (F0 m 1274 ls []) :=
  lcase hC hL hv hi hcs ht hI (by omega) cA_forget mt_H_forget mt_M_forget cal_H_forget cal_M_forget rfl rfl wl_163 wl_166 (p_forget t) next
theorem cA_fits : cA 1287 0 167 170 247 :=
  ⟨by decide +kernel, fun j hj => absurd hj (Nat.not_lt_zero j),
    by decide +kernel, by decide +kernel, fun j hj => absurd hj (Nat.not_lt_zero j),
    by decide +kernel, by decide +kernel, by decide +kernel⟩
theorem lk_fits (hC : LwC w p s m meth c b L xs) (hL : LwS w s τ H) {i t : Nat} (hv : LwV w b (nI i) ls) (hi : i + 5 ≤ L) (hcs : cells ≤ 601024 ∧ slots ≤ 7293034) (ht : t < 200000) (hI : Inv t τ) (next : ∀ (τ' : St) (H' : Heap), Inv (t + 1) τ' → LwS w s τ' H' → W p l e room_1 s m #[Value.ref b] below meth c H' [] cells slots Z (F0 m 1542 ls [])) : W p l e room_1 s m #[Value.ref b] below meth c H [] cells slots Z (F0 m 1287 ls []) :=
  lcase hC hL hv hi hcs ht hI (by omega) cA_fits mt_H_fits mt_M_fits cal_H_fits cal_M_fits rfl rfl wl_167 wl_170 (p_fits t) next
theorem cA_ask : cA 1300 0 171 174 234 :=
  ⟨by decide +kernel, fun j hj => absurd hj (Nat.not_lt_zero j),
    by decide +kernel, by decide +kernel, fun j hj => absurd hj (Nat.not_lt_zero j),
    by decide +kernel, by decide +kernel, by decide +kernel⟩
theorem lk_ask (hC : LwC w p s m meth c b L xs) (hL : LwS w s τ H) {i t : Nat} (hv : LwV w b (nI i) ls) (hi : i + 5 ≤ L) (hcs : cells ≤ 601024 ∧ slots ≤ 7293034) (ht : t < 200000) (hI : Inv t τ) (next : ∀ (τ' : St) (H' : Heap), Inv (t + 1) τ' → LwS w s τ' H' → W p l e room_1 s m #[Value.ref b] below meth c H' [] cells slots Z (F0 m 1542 ls [])) : W p l e room_1 s m #[Value.ref b] below meth c H [] cells slots Z (F0 m 1300 ls []) :=
  lcase hC hL hv hi hcs ht hI (by omega) cA_ask mt_H_ask mt_M_ask cal_H_ask cal_M_ask rfl rfl wl_171 wl_174 (p_ask t) next
theorem cA_law : cA 1313 1 175 178 209 :=
  ⟨by decide +kernel, fun j hj => by
      obtain rfl : j = 0 := by omega
      exact ⟨by decide +kernel, by decide +kernel, by decide +kernel, by decide +kernel, by decide +kernel⟩,
    by decide +kernel, by decide +kernel, fun j hj => by
      obtain rfl : j = 0 := by omega
      exact ⟨by decide +kernel, by decide +kernel, by decide +kernel, by decide +kernel, by decide +kernel⟩,
    by decide +kernel, by decide +kernel, by decide +kernel⟩
theorem lk_law (hC : LwC w p s m meth c b L xs) (hL : LwS w s τ H) {i t : Nat} (hv : LwV w b (nI i) ls) (hi : i + 5 ≤ L) (hcs : cells ≤ 601024 ∧ slots ≤ 7293034) (ht : t < 200000) (hI : Inv t τ) (next : ∀ (τ' : St) (H' : Heap), Inv (t + 1) τ' → LwS w s τ' H' → W p l e room_1 s m #[Value.ref b] below meth c H' [] cells slots Z (F0 m 1542 ls [])) : W p l e room_1 s m #[Value.ref b] below meth c H [] cells slots Z (F0 m 1313 ls []) :=
  lcase hC hL hv hi hcs ht hI (by omega) cA_law mt_H_law mt_M_law cal_H_law cal_M_law rfl rfl wl_175 wl_178 (p_law t _) next
theorem cA_rests : cA 1338 2 179 182 172 :=
  ⟨by decide +kernel, fun j hj => by
      rcases (show j = 0 ∨ j = 1 by omega) with rfl | rfl
      · exact ⟨by decide +kernel, by decide +kernel, by decide +kernel, by decide +kernel, by decide +kernel⟩
      · exact ⟨by decide +kernel, by decide +kernel, by decide +kernel, by decide +kernel, by decide +kernel⟩,
    by decide +kernel, by decide +kernel, fun j hj => by
      rcases (show j = 0 ∨ j = 1 by omega) with rfl | rfl
      · exact ⟨by decide +kernel, by decide +kernel, by decide +kernel, by decide +kernel, by decide +kernel⟩
      · exact ⟨by decide +kernel, by decide +kernel, by decide +kernel, by decide +kernel, by decide +kernel⟩,
    by decide +kernel, by decide +kernel, by decide +kernel⟩
theorem lk_rests (hC : LwC w p s m meth c b L xs) (hL : LwS w s τ H) {i t : Nat} (hv : LwV w b (nI i) ls) (hi : i + 5 ≤ L) (hcs : cells ≤ 601024 ∧ slots ≤ 7293034) (ht : t < 200000) (hI : Inv t τ) (next : ∀ (τ' : St) (H' : Heap), Inv (t + 1) τ' → LwS w s τ' H' → W p l e room_1 s m #[Value.ref b] below meth c H' [] cells slots Z (F0 m 1542 ls [])) : W p l e room_1 s m #[Value.ref b] below meth c H [] cells slots Z (F0 m 1338 ls []) :=
  lcase hC hL hv hi hcs ht hI (by omega) cA_rests mt_H_rests mt_M_rests cal_H_rests cal_M_rests rfl rfl wl_179 wl_182 (p_rests t _ _) next
theorem cA_sieges : cA 1375 2 183 186 135 :=
  ⟨by decide +kernel, fun j hj => by
      rcases (show j = 0 ∨ j = 1 by omega) with rfl | rfl
      · exact ⟨by decide +kernel, by decide +kernel, by decide +kernel, by decide +kernel, by decide +kernel⟩
      · exact ⟨by decide +kernel, by decide +kernel, by decide +kernel, by decide +kernel, by decide +kernel⟩,
    by decide +kernel, by decide +kernel, fun j hj => by
      rcases (show j = 0 ∨ j = 1 by omega) with rfl | rfl
      · exact ⟨by decide +kernel, by decide +kernel, by decide +kernel, by decide +kernel, by decide +kernel⟩
      · exact ⟨by decide +kernel, by decide +kernel, by decide +kernel, by decide +kernel, by decide +kernel⟩,
    by decide +kernel, by decide +kernel, by decide +kernel⟩
theorem lk_sieges (hC : LwC w p s m meth c b L xs) (hL : LwS w s τ H) {i t : Nat} (hv : LwV w b (nI i) ls) (hi : i + 5 ≤ L) (hcs : cells ≤ 601024 ∧ slots ≤ 7293034) (ht : t < 200000) (hI : Inv t τ) (next : ∀ (τ' : St) (H' : Heap), Inv (t + 1) τ' → LwS w s τ' H' → W p l e room_1 s m #[Value.ref b] below meth c H' [] cells slots Z (F0 m 1542 ls [])) : W p l e room_1 s m #[Value.ref b] below meth c H [] cells slots Z (F0 m 1375 ls []) :=
  lcase hC hL hv hi hcs ht hI (by omega) cA_sieges mt_H_sieges mt_M_sieges cal_H_sieges cal_M_sieges rfl rfl wl_183 wl_186 (p_sieges t _ _) next
theorem cA_keep : cA 1412 1 187 190 110 :=
  ⟨by decide +kernel, fun j hj => by
      obtain rfl : j = 0 := by omega
      exact ⟨by decide +kernel, by decide +kernel, by decide +kernel, by decide +kernel, by decide +kernel⟩,
    by decide +kernel, by decide +kernel, fun j hj => by
      obtain rfl : j = 0 := by omega
      exact ⟨by decide +kernel, by decide +kernel, by decide +kernel, by decide +kernel, by decide +kernel⟩,
    by decide +kernel, by decide +kernel, by decide +kernel⟩
theorem lk_keep (hC : LwC w p s m meth c b L xs) (hL : LwS w s τ H) {i t : Nat} (hv : LwV w b (nI i) ls) (hi : i + 5 ≤ L) (hcs : cells ≤ 601024 ∧ slots ≤ 7293034) (ht : t < 200000) (hI : Inv t τ) (next : ∀ (τ' : St) (H' : Heap), Inv (t + 1) τ' → LwS w s τ' H' → W p l e room_1 s m #[Value.ref b] below meth c H' [] cells slots Z (F0 m 1542 ls [])) : W p l e room_1 s m #[Value.ref b] below meth c H [] cells slots Z (F0 m 1412 ls []) :=
  lcase hC hL hv hi hcs ht hI (by omega) cA_keep mt_H_keep mt_M_keep cal_H_keep cal_M_keep rfl rfl wl_187 wl_190 (p_keep t _) next
theorem cA_again : cA 1437 1 191 194 85 :=
  ⟨by decide +kernel, fun j hj => by
      obtain rfl : j = 0 := by omega
      exact ⟨by decide +kernel, by decide +kernel, by decide +kernel, by decide +kernel, by decide +kernel⟩,
    by decide +kernel, by decide +kernel, fun j hj => by
      obtain rfl : j = 0 := by omega
      exact ⟨by decide +kernel, by decide +kernel, by decide +kernel, by decide +kernel, by decide +kernel⟩,
    by decide +kernel, by decide +kernel, by decide +kernel⟩
theorem lk_again (hC : LwC w p s m meth c b L xs) (hL : LwS w s τ H) {i t : Nat} (hv : LwV w b (nI i) ls) (hi : i + 5 ≤ L) (hcs : cells ≤ 601024 ∧ slots ≤ 7293034) (ht : t < 200000) (hI : Inv t τ) (next : ∀ (τ' : St) (H' : Heap), Inv (t + 1) τ' → LwS w s τ' H' → W p l e room_1 s m #[Value.ref b] below meth c H' [] cells slots Z (F0 m 1542 ls [])) : W p l e room_1 s m #[Value.ref b] below meth c H [] cells slots Z (F0 m 1437 ls []) :=
  lcase hC hL hv hi hcs ht hI (by omega) cA_again mt_H_again mt_M_again cal_H_again cal_M_again rfl rfl wl_191 wl_194 (p_again t _) next
theorem cA_count : cA 1462 1 195 198 60 :=
  ⟨by decide +kernel, fun j hj => by
      obtain rfl : j = 0 := by omega
      exact ⟨by decide +kernel, by decide +kernel, by decide +kernel, by decide +kernel, by decide +kernel⟩,
    by decide +kernel, by decide +kernel, fun j hj => by
      obtain rfl : j = 0 := by omega
      exact ⟨by decide +kernel, by decide +kernel, by decide +kernel, by decide +kernel, by decide +kernel⟩,
    by decide +kernel, by decide +kernel, by decide +kernel⟩
theorem lk_count (hC : LwC w p s m meth c b L xs) (hL : LwS w s τ H) {i t : Nat} (hv : LwV w b (nI i) ls) (hi : i + 5 ≤ L) (hcs : cells ≤ 601024 ∧ slots ≤ 7293034) (ht : t < 200000) (hI : Inv t τ) (next : ∀ (τ' : St) (H' : Heap), Inv (t + 1) τ' → LwS w s τ' H' → W p l e room_1 s m #[Value.ref b] below meth c H' [] cells slots Z (F0 m 1542 ls [])) : W p l e room_1 s m #[Value.ref b] below meth c H [] cells slots Z (F0 m 1462 ls []) :=
  lcase hC hL hv hi hcs ht hI (by omega) cA_count mt_H_count mt_M_count cal_H_count cal_M_count rfl rfl wl_195 wl_198 (p_count t _) next
end LAW
