/-! THE LAW: field, ship, row; its loop (made by a program) -/
theorem wl_ini : (.initialized R_law : Cond) ∈ lw_good := lw_mem (mm_1 (List.mem_of_getElem? (i := 0) (by decide +kernel))) (by decide +kernel)
theorem cB_field : cB 309 49 54 1168 :=
  ⟨by decide +kernel, fun j hj => by
      rcases (show j = 0 ∨ j = 1 by omega) with rfl | rfl
      · exact ⟨by decide +kernel, by decide +kernel, by decide +kernel, by decide +kernel, by decide +kernel⟩
      · exact ⟨by decide +kernel, by decide +kernel, by decide +kernel, by decide +kernel, by decide +kernel⟩,
    by decide +kernel, by decide +kernel, by decide +kernel, by decide +kernel, fun j hj => by
      rcases (show j = 0 ∨ j = 1 by omega) with rfl | rfl
      · exact ⟨by decide +kernel, by decide +kernel, by decide +kernel, by decide +kernel, by decide +kernel⟩
      · exact ⟨by decide +kernel, by decide +kernel, by decide +kernel, by decide +kernel, by decide +kernel⟩,
    by decide +kernel, by decide +kernel, by decide +kernel, by decide +kernel, by decide +kernel, by decide +kernel, by decide +kernel, by decide +kernel, by decide +kernel, by decide +kernel, by decide +kernel, by decide +kernel, by decide +kernel, by decide +kernel, by decide +kernel, by decide +kernel, by decide +kernel⟩
theorem cF_field : cF method_3_code 7 := ⟨by decide +kernel, by decide +kernel, by decide +kernel, by decide +kernel, by decide +kernel, by decide +kernel, by decide +kernel, by decide +kernel, by decide +kernel, by decide +kernel, by decide +kernel, by decide +kernel, by decide +kernel, by decide +kernel⟩
theorem cB_ship : cB 377 58 60 1100 :=
  ⟨by decide +kernel, fun j hj => by
      rcases (show j = 0 ∨ j = 1 by omega) with rfl | rfl
      · exact ⟨by decide +kernel, by decide +kernel, by decide +kernel, by decide +kernel, by decide +kernel⟩
      · exact ⟨by decide +kernel, by decide +kernel, by decide +kernel, by decide +kernel, by decide +kernel⟩,
    by decide +kernel, by decide +kernel, by decide +kernel, by decide +kernel, fun j hj => by
      rcases (show j = 0 ∨ j = 1 by omega) with rfl | rfl
      · exact ⟨by decide +kernel, by decide +kernel, by decide +kernel, by decide +kernel, by decide +kernel⟩
      · exact ⟨by decide +kernel, by decide +kernel, by decide +kernel, by decide +kernel, by decide +kernel⟩,
    by decide +kernel, by decide +kernel, by decide +kernel, by decide +kernel, by decide +kernel, by decide +kernel, by decide +kernel, by decide +kernel, by decide +kernel, by decide +kernel, by decide +kernel, by decide +kernel, by decide +kernel, by decide +kernel, by decide +kernel, by decide +kernel, by decide +kernel⟩
theorem cF_ship : cF method_4_code 15 := ⟨by decide +kernel, by decide +kernel, by decide +kernel, by decide +kernel, by decide +kernel, by decide +kernel, by decide +kernel, by decide +kernel, by decide +kernel, by decide +kernel, by decide +kernel, by decide +kernel, by decide +kernel, by decide +kernel⟩
theorem cB_row : cBr 1487 199 202 3 :=
  ⟨by decide +kernel, fun j hj => by
      obtain rfl : j = 0 := by omega
      exact ⟨by decide +kernel, by decide +kernel, by decide +kernel, by decide +kernel, by decide +kernel⟩,
    by decide +kernel, by decide +kernel, by decide +kernel, by decide +kernel, fun j hj => by
      obtain rfl : j = 0 := by omega
      exact ⟨by decide +kernel, by decide +kernel, by decide +kernel, by decide +kernel, by decide +kernel⟩,
    by decide +kernel, by decide +kernel, by decide +kernel, by decide +kernel, by decide +kernel, by decide +kernel, by decide +kernel, by decide +kernel, by decide +kernel, by decide +kernel, by decide +kernel, by decide +kernel, by decide +kernel, by decide +kernel, by decide +kernel, by decide +kernel⟩
theorem cF_row : cRw method_5_code 18 := ⟨by decide +kernel, by decide +kernel, by decide +kernel, by decide +kernel, by decide +kernel, by decide +kernel, by decide +kernel, by decide +kernel, by decide +kernel, by decide +kernel, by decide +kernel, by decide +kernel⟩
theorem or_field {l : Launch} (hfl : l.stackTraces = false) (w : WP) {t : Nat} (ht : t < 200000) {x y : Int32} {τ : St} (hI : Inv t τ) :
    Cl 900 m_H_field (.ref 0 :: [.int x, .int y]) τ (fun v τ1 => ∃ r : Int32, v = some (.int r) ∧ Fq t m_M_field [.int x, .int y] (some (.int 0)) (sL τ1 101 0 r.toInt64)) ∨ ((∀ Qc, vx_Met l M_H_field.1 (wsU M_H_field) rmX (xPre w (.ref 0 :: [.int x, .int y]) τ) Qc (xX w τ) 1 6 (adA w.1)) ∧ Fq t m_M_field [.int x, .int y] (some (.int 1)) τ) := by
  rcases Classical.em ((0 ≤ x ∧ x < τ.1 5 2) ∧ in4 y) with hP | hP
  · refine Or.inl (Cl_mono (fun v τ1 h => ?_) (v_field t x y ht τ hI hP))
    obtain ⟨⟨r, rfl⟩, h⟩ := h
    refine ⟨r, rfl, 0, rfl, Cl_mono (fun b τ2 h2 => ?_) (h r.toInt64)⟩
    obtain ⟨⟨x1, e1, e2⟩, h69, h101, hI2⟩ := h2
    cases e1
    exact ⟨r, e2, h69, fun _ => h101, hI2⟩
  · refine Or.inr ⟨fun Qc => x_field hfl w hI hP, 1, rfl, Cl_mono (fun b τ2 h2 => ?_) (n_field t x y ht τ hI hP)⟩
    obtain ⟨⟨x1, e1⟩, h69, hI2⟩ := h2
    exact ⟨x1, e1, h69, fun z => absurd z (by decide), hI2⟩
theorem or_ship {l : Launch} (hfl : l.stackTraces = false) (w : WP) {t : Nat} (ht : t < 200000) {x y : Int32} {τ : St} (hI : Inv t τ) :
    Cl 900 m_H_ship (.ref 0 :: [.int x, .int y]) τ (fun v τ1 => ∃ r : Int32, v = some (.int r) ∧ Fq t m_M_ship [.int x, .int y] (some (.int 0)) (sL τ1 101 0 r.toInt64)) ∨ ((∀ Qc, vx_Met l M_H_ship.1 (wsU M_H_ship) rmX (xPre w (.ref 0 :: [.int x, .int y]) τ) Qc (xX w τ) 1 6 (adA w.1)) ∧ Fq t m_M_ship [.int x, .int y] (some (.int 1)) τ) := by
  rcases Classical.em ((0 ≤ x ∧ x < τ.1 9 1) ∧ in4 y) with hP | hP
  · refine Or.inl (Cl_mono (fun v τ1 h => ?_) (v_ship t x y ht τ hI hP))
    obtain ⟨⟨r, rfl⟩, h⟩ := h
    refine ⟨r, rfl, 0, rfl, Cl_mono (fun b τ2 h2 => ?_) (h r.toInt64)⟩
    obtain ⟨⟨x1, e1, e2⟩, h69, h101, hI2⟩ := h2
    cases e1
    exact ⟨r, e2, h69, fun _ => h101, hI2⟩
  · refine Or.inr ⟨fun Qc => x_ship hfl w hI hP, 1, rfl, Cl_mono (fun b τ2 h2 => ?_) (n_ship t x y ht τ hI hP)⟩
    obtain ⟨⟨x1, e1⟩, h69, hI2⟩ := h2
    exact ⟨x1, e1, h69, fun z => absurd z (by decide), hI2⟩
theorem or_row {l : Launch} (hfl : l.stackTraces = false) (w : WP) {t : Nat} (ht : t < 200000) {x : Int32} {τ : St} (hI : Inv t τ) :
    Cl 900 m_H_row (.ref 0 :: [.int x]) τ (fun v τ1 => ∃ r : Int64, v = some (.long r) ∧ Fl t m_M_row [.int x] (some (.int 0)) (sL τ1 101 0 r)) ∨ ((∀ Qc, vx_Met l M_H_row.1 (wsU M_H_row) rmX (xPre w (.ref 0 :: [.int x]) τ) Qc (xX w τ) 1 6 (adA w.1)) ∧ Fl t m_M_row [.int x] (some (.int 1)) τ) := by
  rcases Classical.em (0 ≤ x ∧ x < τ.1 3 1) with hP | hP
  · refine Or.inl (Cl_mono (fun v τ1 h => ?_) (v_row t x ht τ hI hP))
    obtain ⟨⟨r, rfl⟩, h⟩ := h
    refine ⟨r, rfl, 0, rfl, Cl_mono (fun b τ2 h2 => ?_) (h r)⟩
    obtain ⟨⟨x1, e1, e2⟩, h69, h101, hI2⟩ := h2
    cases e1
    exact ⟨r, e2, h69, fun _ => h101, hI2⟩
  · refine Or.inr ⟨fun Qc => x_row hfl w hI hP, 1, rfl, Cl_mono (fun b τ2 h2 => ?_) (n_row t x ht τ hI hP)⟩
    obtain ⟨⟨x1, e1⟩, h69, hI2⟩ := h2
    exact ⟨x1, e1, h69, fun z => absurd z (by decide), hI2⟩
section LAW
variable {w : WP} {p : Program} {l : Launch} {e : Env} {s : State} {m : MethodId} {below : List Frame} {meth : Method} {c : Code} {b L : Nat} {xs : Nat → Int32} {τ : St} {H : Heap} {cells slots : Nat} {Z : State → Prop} {ls : Array Slot}
theorem lk_field (hC : LwC w p s m meth c b L xs) (hXW : XW w s) (hfl : l.stackTraces = false) (hL : LwS w s τ H) {i t : Nat} (hv : LwV w b (nI i) ls) (hi : i + 5 ≤ L) (hcs : cells + 1 ≤ 601024 ∧ slots + 6 ≤ 7293034) (ht : t < 200000) (hI : Inv t τ) (next : ∀ (τ' : St) (H' : Heap) (ls' : Array Slot), Inv (t + 1) τ' → LwS w s τ' H' → LwV w b (nI i) ls' → W p l e room_1 s m #[Value.ref b] below meth c H' [] (cells + 1) (slots + 6) Z (F0 m 1542 ls' [])) : W p l e room_1 s m #[Value.ref b] below meth c H [] cells slots Z (F0 m 309 ls []) :=
  lcaseF hC hXW hL hv hi hcs cB_field (ls_good wl_49 wl_s_field wl_ini wl_k_field) ⟨by decide, by decide, by decide +kernel⟩ (lf_met w (by decide +kernel) rfl cF_field mt_H_field cal_H_field rfl wl_7 (or_field hfl w ht hI)) mt_M_field cal_M_field rfl wl_54 next
theorem lk_ship (hC : LwC w p s m meth c b L xs) (hXW : XW w s) (hfl : l.stackTraces = false) (hL : LwS w s τ H) {i t : Nat} (hv : LwV w b (nI i) ls) (hi : i + 5 ≤ L) (hcs : cells + 1 ≤ 601024 ∧ slots + 6 ≤ 7293034) (ht : t < 200000) (hI : Inv t τ) (next : ∀ (τ' : St) (H' : Heap) (ls' : Array Slot), Inv (t + 1) τ' → LwS w s τ' H' → LwV w b (nI i) ls' → W p l e room_1 s m #[Value.ref b] below meth c H' [] (cells + 1) (slots + 6) Z (F0 m 1542 ls' [])) : W p l e room_1 s m #[Value.ref b] below meth c H [] cells slots Z (F0 m 377 ls []) :=
  lcaseF hC hXW hL hv hi hcs cB_ship (ls_good wl_58 wl_s_ship wl_ini wl_k_ship) ⟨by decide, by decide, by decide +kernel⟩ (lf_met w (by decide +kernel) rfl cF_ship mt_H_ship cal_H_ship rfl wl_15 (or_ship hfl w ht hI)) mt_M_ship cal_M_ship rfl wl_60 next
theorem lk_row (hC : LwC w p s m meth c b L xs) (hXW : XW w s) (hfl : l.stackTraces = false) (hL : LwS w s τ H) {i t : Nat} (hv : LwV w b (nI i) ls) (hi : i + 5 ≤ L) (hcs : cells + 1 ≤ 601024 ∧ slots + 6 ≤ 7293034) (ht : t < 200000) (hI : Inv t τ) (next : ∀ (τ' : St) (H' : Heap) (ls' : Array Slot), Inv (t + 1) τ' → LwS w s τ' H' → LwV w b (nI i) ls' → W p l e room_1 s m #[Value.ref b] below meth c H' [] (cells + 1) (slots + 6) Z (F0 m 1542 ls' [])) : W p l e room_1 s m #[Value.ref b] below meth c H [] cells slots Z (F0 m 1487 ls []) :=
  lcaseR hC hXW hL hv hi hcs cB_row (ls_good wl_199 wl_s_row wl_ini wl_k_row) ⟨by decide, by decide, by decide +kernel⟩ (lr_met w (by decide +kernel) rfl cF_row mt_H_row cal_H_row rfl wl_18 (or_row hfl w ht hI)) mt_M_row cal_M_row rfl wl_202 next
theorem Inv.up {t : Nat} {τ : St} (h : Inv t τ) : Inv (t + 1) τ := by
  obtain ⟨R, C, kd, ht, ns, n, hA, hT, hR⟩ := h
  exact ⟨R, C, kd, ht, ns, n, hA.fr (cs := []) (fs := []) Fr.rf rfl (Nat.le_succ t), hT, hR⟩
theorem d_law_39 : decode code 39 = .ok (.tableswitch 1503 0 41 #[181, 206, 231, 244, 257, 270, 338, 406, 443, 480, 541, 578, 603, 628, 641, 654, 703, 752, 801, 814, 839, 852, 889, 914, 951, 976, 1025, 1050, 1087, 1124, 1161, 1198, 1235, 1248, 1261, 1274, 1299, 1336, 1373, 1398, 1423, 1448], 181) := by decide +kernel
theorem d_law_23 : decode code 23 = .ok (.iload 4, 2) := by decide +kernel
theorem d_law_25 : decode code 25 = .ok (.aload_n 0, 1) := by decide +kernel
theorem d_law_26 : decode code 26 = .ok (.arraylength, 1) := by decide +kernel
theorem d_law_27 : decode code 27 = .ok (.iconst 5, 1) := by decide +kernel
theorem d_law_28 : decode code 28 = .ok (.isub, 1) := by decide +kernel
theorem d_law_29 : decode code 29 = .ok (.if_icmp .gt 1519, 3) := by decide +kernel
theorem d_law_32 : decode code 32 = .ok (.aload_n 0, 1) := by decide +kernel
theorem d_law_33 : decode code 33 = .ok (.iload 4, 2) := by decide +kernel
theorem d_law_35 : decode code 35 = .ok (.iaload, 1) := by decide +kernel
theorem d_law_36 : decode code 36 = .ok (.bipush 63, 2) := by decide +kernel
theorem d_law_38 : decode code 38 = .ok (.iand, 1) := by decide +kernel
theorem d_law_1542 : decode code 1542 = .ok (.iinc 4 5, 3) := by decide +kernel
theorem d_law_1545 : decode code 1545 = .ok (.goto (-1522), 3) := by decide +kernel
theorem d_law_1548 : decode code 1548 = .ok (.iconst 1, 1) := by decide +kernel
theorem d_law_1549 : decode code 1549 = .ok (.ireturn, 1) := by decide +kernel
theorem le5 {i L : Nat} (hL : L ≤ 2560) (hi : i ≤ 2600) (h : ¬ Int32.ofNat L - 5 < nI i) : i + 5 ≤ L := by
  rcases Nat.lt_or_ge L 5 with q | q
  · refine absurd ?_ h
    have h1 : Int32.ofNat L - 5 < 0 := by rcases (show L = 0 ∨ L = 1 ∨ L = 2 ∨ L = 3 ∨ L = 4 by omega) with rfl | rfl | rfl | rfl | rfl <;> decide
    have h2 : (0 : Int32) ≤ nI i := nI_pos' (by omega)
    exact Int32.lt_of_lt_of_le h1 h2
  · obtain ⟨k, rfl⟩ : ∃ k, L = k + 5 := ⟨L - 5, by omega⟩
    have e : Int32.ofNat (k + 5) - 5 = nI k := by
      have : Int32.ofNat (k + 5) = nI k + 5 := (nI_add k 5).symm
      rw [this, Int32.add_sub_cancel]
    rw [e, nI_ltI (by omega) (by omega)] at h
    omega
theorem and63 (x : Int32) : ∃ k, k < 64 ∧ x &&& 63 = nI k := by
  have h := pk_andE x (m := 63) 6 (by decide)
  exact h
set_option maxHeartbeats 4000000 in
/-- THE LOOP: t calls made, i = 5 t ints read -/
theorem law_loop (hC : LwC w p s m meth c b L xs) (hXW : XW w s) (hfl : l.stackTraces = false) : ∀ (n i t : Nat) (τ : St) (H : Heap) (ls : Array Slot) (cells slots : Nat), i ≤ 2600 → L < i + 5 * n → t + n ≤ 1000 → cells + n ≤ 601024 → slots + 6 * n ≤ 7293034 → Inv t τ → LwS w s τ H → LwV w b (nI i) ls → W p l e room_1 s m #[Value.ref b] below meth c H [] cells slots (lw_Z below #[Value.ref b] s) (F0 m 23 ls []) := by
  have ⟨⟨hx, hb, hr, hml, hown, hts, hX, hbl, hlocks, hgv⟩, hLL, hK, hIn, hsp, hnw, hA⟩ := hC
  have hbA : ¬ AL s b := Nat.not_le.mpr hbl
  intro n
  induction n with
  | zero =>
    intro i t τ H ls cells slots hi hn ht hc hs hI hL hv
    refine lv_iload hx hb d_law_23 (lv_at hv 0 rfl) ?_
    refine lv_aload_n hx hb d_law_25 rfl (lv_at hv 4 rfl) ?_
    refine va_slen hx hb hX hbl hbA hL.2 d_law_26 ?_
    refine lv_iconst (v := 5) hx hb d_law_27 rfl ?_
    refine lv_isub hx hb d_law_28 ?_
    refine lv_icmp_gt (tgt := 1548) hx hb d_law_29 rfl (fun _ => ?_) (fun q => absurd (le5 hLL hi q) (by omega))
    refine lv_iconst (v := 1) hx hb d_law_1548 rfl ?_
    refine W.widen (k := 601024) (n := 7293034) (by omega) (by omega) ?_
    exact lw_ret hx hb hr hlocks d_law_1549
  | succ n ih =>
    intro i t τ H ls cells slots hi hn ht hc hs hI hL hv
    refine lv_iload hx hb d_law_23 (lv_at hv 0 rfl) ?_
    refine lv_aload_n hx hb d_law_25 rfl (lv_at hv 4 rfl) ?_
    refine va_slen hx hb hX hbl hbA hL.2 d_law_26 ?_
    refine lv_iconst (v := 5) hx hb d_law_27 rfl ?_
    refine lv_isub hx hb d_law_28 ?_
    refine lv_icmp_gt (tgt := 1548) hx hb d_law_29 rfl (fun _ => ?_) (fun q => ?_)
    · refine lv_iconst (v := 1) hx hb d_law_1548 rfl ?_
      refine W.widen (k := 601024) (n := 7293034) (by omega) (by omega) ?_
      exact lw_ret hx hb hr hlocks d_law_1549
    · have h5 : i + 5 ≤ L := le5 hLL hi q
      have nx : ∀ (τ' : St) (H' : Heap) (ls' : Array Slot), Inv (t + 1) τ' → LwS w s τ' H' → LwV w b (nI i) ls' → W p l e room_1 s m #[Value.ref b] below meth c H' [] (cells + 1) (slots + 6) (lw_Z below #[Value.ref b] s) (F0 m 1542 ls' []) := fun τ' H' ls' hI' hL' hv' => by
        refine lv_iinc (v := nI (i + 5)) (lv' := [(4, .int (nI (i + 5))), (3, .ref (w.1 101)), (2, .ref (w.1 69)), (1, .ref (w.1 0)), (0, .ref b)]) hx hb d_law_1542 hv' (k := 0) rfl (nI_add i 5) (by decide) rfl (fun ls2 hl2 => ?_)
        refine lv_goto (tgt := 23) hx hb d_law_1545 rfl ?_
        exact ih (i + 5) (t + 1) τ' H' ls2 (cells + 1) (slots + 6) (by omega) (by omega) (by omega) (by omega) (by omega) hI' hL' hl2
      have np : ∀ (τ' : St) (H' : Heap), Inv (t + 1) τ' → LwS w s τ' H' → W p l e room_1 s m #[Value.ref b] below meth c H' [] cells slots (lw_Z below #[Value.ref b] s) (F0 m 1542 ls []) := fun τ' H' hI' hL' => by
        refine W.widen (k := cells + 1) (n := slots + 6) (by omega) (by omega) ?_
        exact nx τ' H' ls hI' hL' hv
      have hcs : cells ≤ 601024 ∧ slots ≤ 7293034 := ⟨by omega, by omega⟩
      have hcs1 : cells + 1 ≤ 601024 ∧ slots + 6 ≤ 7293034 := ⟨by omega, by omega⟩
      have ht2 : t < 200000 := by omega
      refine lv_aload_n hx hb d_law_32 rfl (lv_at hv 4 rfl) ?_
      refine lv_iload hx hb d_law_33 (lv_at hv 0 rfl) ?_
      refine va_sld hx hb hX hbl hbA hL.2 (vp_in_nI (n := i) (by omega) (by omega)) d_law_35 ?_
      refine lv_bipush (v := 63) hx hb d_law_36 rfl ?_
      refine lv_iand hx hb d_law_38 ?_
      obtain ⟨k, hk, ek⟩ := and63 (xs (nI i).toNatClampNeg)
      rw [ek]
      rcases Nat.lt_or_ge k 42 with h42 | h42
      · match k, h42 with
        | 0, _ => exact lv_tableIn (tgt := 220) (off := 181) hx hb d_law_39 (by decide) (by decide) (by decide) (by decide) (lk_sign hC hL hv h5 hcs ht2 hI np)
        | 1, _ => exact lv_tableIn (tgt := 245) (off := 206) hx hb d_law_39 (by decide) (by decide) (by decide) (by decide) (lk_end hC hL hv h5 hcs ht2 hI np)
        | 2, _ => exact lv_tableIn (tgt := 270) (off := 231) hx hb d_law_39 (by decide) (by decide) (by decide) (by decide) (lk_land hC hL hv h5 hcs ht2 hI np)
        | 3, _ => exact lv_tableIn (tgt := 283) (off := 244) hx hb d_law_39 (by decide) (by decide) (by decide) (by decide) (lk_ships hC hL hv h5 hcs ht2 hI np)
        | 4, _ => exact lv_tableIn (tgt := 296) (off := 257) hx hb d_law_39 (by decide) (by decide) (by decide) (by decide) (lk_rule hC hL hv h5 hcs ht2 hI np)
        | 5, _ => exact lv_tableIn (tgt := 309) (off := 270) hx hb d_law_39 (by decide) (by decide) (by decide) (by decide) (lk_field hC hXW hfl hL hv h5 hcs1 ht2 hI nx)
        | 6, _ => exact lv_tableIn (tgt := 377) (off := 338) hx hb d_law_39 (by decide) (by decide) (by decide) (by decide) (lk_ship hC hXW hfl hL hv h5 hcs1 ht2 hI nx)
        | 7, _ => exact lv_tableIn (tgt := 445) (off := 406) hx hb d_law_39 (by decide) (by decide) (by decide) (by decide) (lk_pull hC hL hv h5 hcs ht2 hI np)
        | 8, _ => exact lv_tableIn (tgt := 482) (off := 443) hx hb d_law_39 (by decide) (by decide) (by decide) (by decide) (lk_set hC hL hv h5 hcs ht2 hI np)
        | 9, _ => exact lv_tableIn (tgt := 519) (off := 480) hx hb d_law_39 (by decide) (by decide) (by decide) (by decide) (lk_sheet hC hL hv h5 hcs ht2 hI np)
        | 10, _ => exact lv_tableIn (tgt := 580) (off := 541) hx hb d_law_39 (by decide) (by decide) (by decide) (by decide) (lk_drag hC hL hv h5 hcs ht2 hI np)
        | 11, _ => exact lv_tableIn (tgt := 617) (off := 578) hx hb d_law_39 (by decide) (by decide) (by decide) (by decide) (lk_plank hC hL hv h5 hcs ht2 hI np)
        | 12, _ => exact lv_tableIn (tgt := 642) (off := 603) hx hb d_law_39 (by decide) (by decide) (by decide) (by decide) (lk_hours hC hL hv h5 hcs ht2 hI np)
        | 13, _ => exact lv_tableIn (tgt := 667) (off := 628) hx hb d_law_39 (by decide) (by decide) (by decide) (by decide) (lk_siege hC hL hv h5 hcs ht2 hI np)
        | 14, _ => exact lv_tableIn (tgt := 680) (off := 641) hx hb d_law_39 (by decide) (by decide) (by decide) (by decide) (lk_undo hC hL hv h5 hcs ht2 hI np)
        | 15, _ => exact lv_tableIn (tgt := 693) (off := 654) hx hb d_law_39 (by decide) (by decide) (by decide) (by decide) (lk_way hC hL hv h5 hcs ht2 hI np)
        | 16, _ => exact lv_tableIn (tgt := 742) (off := 703) hx hb d_law_39 (by decide) (by decide) (by decide) (by decide) (lk_easy hC hL hv h5 hcs ht2 hI np)
        | 17, _ => exact lv_tableIn (tgt := 791) (off := 752) hx hb d_law_39 (by decide) (by decide) (by decide) (by decide) (lk_soon hC hL hv h5 hcs ht2 hI np)
        | 18, _ => exact lv_tableIn (tgt := 840) (off := 801) hx hb d_law_39 (by decide) (by decide) (by decide) (by decide) (lk_pass hC hL hv h5 hcs ht2 hI np)
        | 19, _ => exact lv_tableIn (tgt := 853) (off := 814) hx hb d_law_39 (by decide) (by decide) (by decide) (by decide) (lk_oxen hC hL hv h5 hcs ht2 hI np)
        | 20, _ => exact lv_tableIn (tgt := 878) (off := 839) hx hb d_law_39 (by decide) (by decide) (by decide) (by decide) (lk_can hC hL hv h5 hcs ht2 hI np)
        | 21, _ => exact lv_tableIn (tgt := 891) (off := 852) hx hb d_law_39 (by decide) (by decide) (by decide) (by decide) (lk_planks hC hL hv h5 hcs ht2 hI np)
        | 22, _ => exact lv_tableIn (tgt := 928) (off := 889) hx hb d_law_39 (by decide) (by decide) (by decide) (by decide) (lk_over hC hL hv h5 hcs ht2 hI np)
        | 23, _ => exact lv_tableIn (tgt := 953) (off := 914) hx hb d_law_39 (by decide) (by decide) (by decide) (by decide) (lk_kind hC hL hv h5 hcs ht2 hI np)
        | 24, _ => exact lv_tableIn (tgt := 990) (off := 951) hx hb d_law_39 (by decide) (by decide) (by decide) (by decide) (lk_quiet hC hL hv h5 hcs ht2 hI np)
        | 25, _ => exact lv_tableIn (tgt := 1015) (off := 976) hx hb d_law_39 (by decide) (by decide) (by decide) (by decide) (lk_night hC hL hv h5 hcs ht2 hI np)
        | 26, _ => exact lv_tableIn (tgt := 1064) (off := 1025) hx hb d_law_39 (by decide) (by decide) (by decide) (by decide) (lk_walls hC hL hv h5 hcs ht2 hI np)
        | 27, _ => exact lv_tableIn (tgt := 1089) (off := 1050) hx hb d_law_39 (by decide) (by decide) (by decide) (by decide) (lk_storm hC hL hv h5 hcs ht2 hI np)
        | 28, _ => exact lv_tableIn (tgt := 1126) (off := 1087) hx hb d_law_39 (by decide) (by decide) (by decide) (by decide) (lk_town hC hL hv h5 hcs ht2 hI np)
        | 29, _ => exact lv_tableIn (tgt := 1163) (off := 1124) hx hb d_law_39 (by decide) (by decide) (by decide) (by decide) (lk_secret hC hL hv h5 hcs ht2 hI np)
        | 30, _ => exact lv_tableIn (tgt := 1200) (off := 1161) hx hb d_law_39 (by decide) (by decide) (by decide) (by decide) (lk_told hC hL hv h5 hcs ht2 hI np)
        | 31, _ => exact lv_tableIn (tgt := 1237) (off := 1198) hx hb d_law_39 (by decide) (by decide) (by decide) (by decide) (lk_trace hC hL hv h5 hcs ht2 hI np)
        | 32, _ => exact lv_tableIn (tgt := 1274) (off := 1235) hx hb d_law_39 (by decide) (by decide) (by decide) (by decide) (lk_forget hC hL hv h5 hcs ht2 hI np)
        | 33, _ => exact lv_tableIn (tgt := 1287) (off := 1248) hx hb d_law_39 (by decide) (by decide) (by decide) (by decide) (lk_fits hC hL hv h5 hcs ht2 hI np)
        | 34, _ => exact lv_tableIn (tgt := 1300) (off := 1261) hx hb d_law_39 (by decide) (by decide) (by decide) (by decide) (lk_ask hC hL hv h5 hcs ht2 hI np)
        | 35, _ => exact lv_tableIn (tgt := 1313) (off := 1274) hx hb d_law_39 (by decide) (by decide) (by decide) (by decide) (lk_law hC hL hv h5 hcs ht2 hI np)
        | 36, _ => exact lv_tableIn (tgt := 1338) (off := 1299) hx hb d_law_39 (by decide) (by decide) (by decide) (by decide) (lk_rests hC hL hv h5 hcs ht2 hI np)
        | 37, _ => exact lv_tableIn (tgt := 1375) (off := 1336) hx hb d_law_39 (by decide) (by decide) (by decide) (by decide) (lk_sieges hC hL hv h5 hcs ht2 hI np)
        | 38, _ => exact lv_tableIn (tgt := 1412) (off := 1373) hx hb d_law_39 (by decide) (by decide) (by decide) (by decide) (lk_keep hC hL hv h5 hcs ht2 hI np)
        | 39, _ => exact lv_tableIn (tgt := 1437) (off := 1398) hx hb d_law_39 (by decide) (by decide) (by decide) (by decide) (lk_again hC hL hv h5 hcs ht2 hI np)
        | 40, _ => exact lv_tableIn (tgt := 1462) (off := 1423) hx hb d_law_39 (by decide) (by decide) (by decide) (by decide) (lk_count hC hL hv h5 hcs ht2 hI np)
        | 41, _ => exact lv_tableIn (tgt := 1487) (off := 1448) hx hb d_law_39 (by decide) (by decide) (by decide) (by decide) (lk_row hC hXW hfl hL hv h5 hcs1 ht2 hI nx)
        | k + 42, q => exact absurd q (by omega)
      · refine lv_tableOut (tgt := 1542) hx hb d_law_39 (Or.inr ?_) rfl (np τ H hI.up hL)
        rw [nI_toInt (by omega)]
        omega
end LAW
