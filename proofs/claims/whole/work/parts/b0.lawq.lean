/-! THE LAW'S OWN field, ship, row: their contracts. They catch what the class throws. -/
theorem wl_c8 : (.classLink R_law 8 RX11 : Cond) ∈ lw_good := lw_mem (mm_1 (List.mem_of_getElem? (i := 27) (by decide +kernel))) (by decide +kernel)
theorem wl_c13 : (.classLink R_law 13 nsE : Cond) ∈ lw_good := lw_mem (mm_5 (List.mem_of_getElem? (i := 74) (by decide +kernel))) (by decide +kernel)
theorem wl_c23 : (.classLink R_law 23 RX12 : Cond) ∈ lw_good := lw_mem (mm_5 (List.mem_of_getElem? (i := 176) (by decide +kernel))) (by decide +kernel)
def yW_field : MethodName := ⟨R_law, "field", "(LOverTheHill;II[J)I"⟩
theorem wl_49 : (.methodLink R_law 49 yW_field : Cond) ∈ lw_good := lw_mem (mm_5 (List.mem_of_getElem? (i := 71) (by decide +kernel))) (by decide +kernel)
theorem wl_s_field : (.static yW_field : Cond) ∈ lw_good := lw_mem (mm_5 (List.mem_of_getElem? (i := 72) (by decide +kernel))) (by decide +kernel)
theorem wl_k_field : (.codeWith yW_field method_3_code 5 (some .int) [(0, 10, 13, 13)] : Cond) ∈ lw_good := lw_mem (mm_5 (List.mem_of_getElem? (i := 73) (rfl))) (by decide +kernel)
theorem wl_7 : (.methodLink R_law 7 yX11_field : Cond) ∈ lw_good := lw_mem (mm_5 (List.mem_of_getElem? (i := 75) (by decide +kernel))) (by decide +kernel)
theorem wl_54 : (.methodLink R_law 54 yX12_field : Cond) ∈ lw_good := lw_mem (mm_7 (List.mem_of_getElem? (i := 13) (by decide +kernel))) (by decide +kernel)
def yW_ship : MethodName := ⟨R_law, "ship", "(LOverTheHill;II[J)I"⟩
theorem wl_58 : (.methodLink R_law 58 yW_ship : Cond) ∈ lw_good := lw_mem (mm_5 (List.mem_of_getElem? (i := 146) (by decide +kernel))) (by decide +kernel)
theorem wl_s_ship : (.static yW_ship : Cond) ∈ lw_good := lw_mem (mm_5 (List.mem_of_getElem? (i := 147) (by decide +kernel))) (by decide +kernel)
theorem wl_k_ship : (.codeWith yW_ship method_4_code 5 (some .int) [(0, 10, 13, 13)] : Cond) ∈ lw_good := lw_mem (mm_5 (List.mem_of_getElem? (i := 148) (rfl))) (by decide +kernel)
theorem wl_15 : (.methodLink R_law 15 yX11_ship : Cond) ∈ lw_good := lw_mem (mm_5 (List.mem_of_getElem? (i := 149) (by decide +kernel))) (by decide +kernel)
theorem wl_60 : (.methodLink R_law 60 yX12_ship : Cond) ∈ lw_good := lw_mem (mm_7 (List.mem_of_getElem? (i := 26) (by decide +kernel))) (by decide +kernel)
def yW_row : MethodName := ⟨R_law, "row", "(LOverTheHill;I[J)I"⟩
theorem wl_199 : (.methodLink R_law 199 yW_row : Cond) ∈ lw_good := lw_mem (mm_5 (List.mem_of_getElem? (i := 155) (by decide +kernel))) (by decide +kernel)
theorem wl_s_row : (.static yW_row : Cond) ∈ lw_good := lw_mem (mm_5 (List.mem_of_getElem? (i := 156) (by decide +kernel))) (by decide +kernel)
theorem wl_k_row : (.codeWith yW_row method_5_code 4 (some .int) [(0, 8, 11, 13)] : Cond) ∈ lw_good := lw_mem (mm_5 (List.mem_of_getElem? (i := 157) (rfl))) (by decide +kernel)
theorem wl_18 : (.methodLink R_law 18 yX11_row : Cond) ∈ lw_good := lw_mem (mm_5 (List.mem_of_getElem? (i := 158) (by decide +kernel))) (by decide +kernel)
theorem wl_202 : (.methodLink R_law 202 yX12_row : Cond) ∈ lw_good := lw_mem (mm_8 (List.mem_of_getElem? (i := 112) (by decide +kernel))) (by decide +kernel)
theorem wl_55 : (.methodLink R_law 55 yX12_thrown : Cond) ∈ lw_good := lw_mem (mm_5 (List.mem_of_getElem? (i := 172) (by decide +kernel))) (by decide +kernel)
def rmF : Room := { frames := 901, cells := 1, slots := 6, locals := 54100 }
def fPre (w : WP) (As : List Value) (τ : St) : Array Value → State → Prop := va_Pc As (fun U => HW w τ U ∧ XW w U)
theorem blindF (w : WP) (As : List Value) (τ : St) : FrameBlind (fPre w As τ) := fun _ _ g mk h => ⟨h.1, h.2.1.calling g mk _, h.2.2.calling g mk _⟩
theorem ns_cast {w : WP} {args : Array Value} {s : State} (h : XW w s) : (Cond.castable nsE nsE).before args s = true := va_tabs (ns_on _ List.mem_cons_self) rfl (h.2.2.2 _ List.mem_cons_self)
abbrev cF (cc : ByteArray) (idx : Nat) : Prop := decode cc 0 = .ok (.aload_n 3, 1) ∧ decode cc 1 = .ok (.iconst 0, 1) ∧ decode cc 2 = .ok (.aload_n 0, 1) ∧ decode cc 3 = .ok (.iload_n 1, 1) ∧ decode cc 4 = .ok (.iload_n 2, 1) ∧ decode cc 5 = .ok (.invokevirtual idx, 3) ∧ decode cc 8 = .ok (.i2l, 1) ∧ decode cc 9 = .ok (.lastore, 1) ∧ decode cc 10 = .ok (.goto 7, 3) ∧ decode cc 13 = .ok (.astore 4, 2) ∧ decode cc 15 = .ok (.iconst 1, 1) ∧ decode cc 16 = .ok (.ireturn, 1) ∧ decode cc 17 = .ok (.iconst 0, 1) ∧ decode cc 18 = .ok (.ireturn, 1)
theorem lf_good {yy : MethodName} {M : MT} {idx : Nat} (c1 : Cond.instanceMethod M.1 ∈ lw_good) (c2 : Cond.selects M.1.cls M.1 M.1 ∈ lw_good) (c3 : Cond.initialized M.1.cls ∈ lw_good) (c4 : Cond.code M.1 M.2.1 M.2.2.1 M.2.2.2.1 ∈ lw_good) (hw : Cond.methodLink R_law idx M.1 ∈ lw_good) : GoodIn lw_good (wsV R_law idx M.1.cls M.1 (wsU M)) := lw_gi (fun x hx => by
  simp only [wsV, List.mem_append, List.mem_cons, List.not_mem_nil, or_false] at hx
  rcases hx with (rfl | rfl | rfl | rfl) | hx
  · exact hw
  · exact c1
  · exact c2
  · exact c3
  · exact good_ws c4 x hx)
set_option maxHeartbeats 2000000 in
theorem lf_met {l : Launch} (w : WP) {cc : ByteArray} {yy : MethodName} {idx μ : Nat} {M : MT} {τ : St} {x y : Int32} {Q : Qt} (hy : plainName yy.cls = true) (hcl : yy.cls = R_law) (hd : cF cc idx) (hF : mtb μ = M) (hc : CalV M 2) (e1 : M.1.cls = RX11) (hw : Cond.methodLink R_law idx M.1 ∈ lw_good)
    (h : Cl 900 μ [.ref 0, .int x, .int y] τ (fun v τ1 => ∃ r : Int32, v = some (.int r) ∧ Q (some (.int 0)) (sL τ1 101 0 r.toInt64)) ∨ ((∀ Qc, vx_Met l M.1 (wsU M) rmX (xPre w [.ref 0, .int x, .int y] τ) Qc (xX w τ) 1 6 (adA w.1)) ∧ Q (some (.int 1)) τ)) :
    Met l yy (Cond.codeWith yy cc 5 (some .int) [(0, 10, 13, 13)] :: lw_good) rmF (fPre w [.ref (w.1 0), .int x, .int y, .ref (w.1 101)] τ) (pPost w Q) 1 6 (adA w.1) := by
  refine va_MetW hy rfl ?_
  intro p e s m args below meth c s₁ B hml hv
  obtain ⟨rfl, ⟨hP, hK, hI, hsp, hnw⟩, hxw⟩ := hv
  obtain ⟨d0, d1, d2, d3, d4, d5, d8, d9, d10, d13, d15, d16, d17, d18⟩ := hd
  have hx := B.exec
  have hb := B.bytes
  have hr := B.returns
  have hts := atoms_spec (ws := Cond.codeWith yy cc 5 (some .int) [(0, 10, 13, 13)] :: lw_good) B.pre
  have htg : ∀ q ∈ lw_good, q.before (List.toArray [Value.ref (w.1 0), .int x, .int y, .ref (w.1 101)]) s = true := fun q hq => hts q (List.mem_cons_of_mem _ hq)
  have hown : s.vm.findClass R_law = some m.cls := by rw [← hcl]; exact findClass_of_methodNamed B.named
  have hlocks := B.notSynchronized
  have htab : c.exceptionTable.toList = tableOf [(0, 10, 13, 13)] := vx_table (x := yy) B (hts _ List.mem_cons_self)
  have hS : va_S (adA w.1) s.heap s.heap [] := va_S.rf
  obtain ⟨c1, c2, c3, c4, c5, c6, c7, c8⟩ := hc
  have hl := lv_entry ([.ref (w.1 0), .int x, .int y, .ref (w.1 101)]) (n := 5) (Nat.le_of_ble_eq_true rfl)
  rw [lg_entry_eq]
  generalize (lg_sl ([.ref (w.1 0), .int x, .int y, .ref (w.1 101)]) ++ List.replicate (5 - (lg_sl ([.ref (w.1 0), .int x, .int y, .ref (w.1 101)])).length) Slot.unset).toArray = ls at hl ⊢
  have hl : lv_has ls 5 [(0, .ref (w.1 0)), (1, .int x), (2, .int y), (3, .ref (w.1 101))] := hl
  refine lv_aload_n hx hb d0 rfl (lv_at hl 3 rfl) ?_
  refine lv_iconst (v := 0) hx hb d1 rfl ?_
  refine lv_aload_n hx hb d2 rfl (lv_at hl 0 rfl) ?_
  refine lv_iload_n hx hb d3 rfl (lv_at hl 1 rfl) ?_
  refine lv_iload_n hx hb d4 rfl (lv_at hl 2 rfl) ?_
  have hrecv : ∃ cell : Cell, s.heap[w.1 0]? = some cell ∧ cell.vm.isStatics = false ∧ s.vm.findClass M.1.cls = some cell.cls := by
    rw [e1]
    exact va_recv hK hP fk_11.2.1 (eW_obj (k := 0) (by decide) (by decide) fk_11.1)
  rcases h with h | ⟨hM, hq⟩
  · have hMet := Cl_met l w h
    rw [hF] at hMet
    refine hcall (rest := [.int 0, .ref (w.1 101)]) (va_runV (As := [.int x, .int y]) (b := w.1 0) (C := M.1.cls) (ws := wsU M) (rm := rmD 900) (n := 2) (index := idx) (own := R_law) (Ts := lw_good) ⟨hx, hb, hml, hown, htg⟩ hMet
      (cwV 2 htg (lf_good (yy := yy) c1 c2 c3 c4 hw) rfl rfl rfl ⟨rfl, c5, c6, c7⟩ ⟨Nat.le_of_ble_eq_true rfl, by show 8 + (M.2.2.1 + 11) + 60 * 900 ≤ 54100; omega⟩)
      ⟨blindP w _ _, hrecv, fun U hU hW => ⟨rfl, HW.of hP hK hI hsp hnw hS hU hW⟩⟩ rfl rfl hl.1 rfl (lv_room (Nat.le_of_ble_eq_true rfl)) d5 ⟨Nat.zero_le _, Nat.zero_le _⟩) hS (fun v τ1 H1 locs1 hq hP1 hS1 => ?_)
    obtain ⟨r, rfl, hq⟩ := hq
    refine lv_i2l (x := r) (v := r.toInt64) hx hb d8 rfl ?_
    refine va_last (i := 0) hx hb hK hP1 (eW_D hI) hS1 101 2 (by rw [eW_arr (by decide) (show shp 101 = 15 by decide) (by decide), pay_l (by decide)]) rfl (show vp_in (nI 0) (len 101) from vp_in_nI (by decide) (by decide)) d9 (fun H2 locs2 hP2 hD2 hS2 => ?_)
    rw [eW_stL (show shp 101 = 15 by decide)] at hP2
    have hP2 : va_P w.2.2.1 hcls (eW w.1 w.2.2.2 (sL τ1 101 0 r.toInt64)) H2 := hP2
    refine lv_goto (tgt := 17) hx hb d10 rfl ?_
    refine lv_iconst (v := 0) hx hb d17 rfl ?_
    refine W.widen (k := 1) (n := 6) (by omega) (by omega) ?_
    exact W.iret (v := 0) hx hb hr (fun t ht hW => ⟨⟨some (.int 0), _, rfl, hq, HW.of hP2 hK hI hsp hnw hS2 ht hW⟩, hS2.F ht⟩) hS2.2.2 d18
  · refine vx_calli (S := Unit) (SX := Unit) (post := fun _ _ => False) (B := fun _ _ => True) (A1 := adA w.1) (rest := [.int 0, .ref (w.1 101)]) (vx_runV (As := [.int x, .int y]) (b := w.1 0) (C := M.1.cls) (ws := wsU M) (rm := rmX) (n := 2) (index := idx) (own := R_law) (Ts := lw_good) ⟨hx, hb, hml, hown, htg⟩ (hM (va_Qi (fun _ (_ : Unit) => False) (fun _ _ => True) (adA w.1)))
      (cwV 2 htg (lf_good (yy := yy) c1 c2 c3 c4 hw) rfl rfl rfl ⟨rfl, c5, c6, c7⟩ ⟨Nat.le_of_ble_eq_true rfl, by show 8 + (M.2.2.1 + 11) + 54000 ≤ 54100; omega⟩)
      ⟨blindX w _ _, hrecv, fun U hU hW => ⟨rfl, HW.of hP hK hI hsp hnw hS hU hW, hxw.step hS hU hW⟩⟩ rfl rfl hl.1 rfl (lv_room (Nat.le_of_ble_eq_true rfl)) d5 ⟨Nat.le_of_ble_eq_true rfl, Nat.le_of_ble_eq_true rfl⟩) hS (fun _ _ z => z) (fun _ z => z) (fun _ _ z => z) (fun E ce q9 u t H1 locs1 ht hal hu hBX hz hk hS1 hce hcv hcl => ?_) (fun _ _ _ _ _ _ _ hf => hf.elim)
    obtain ⟨rfl, hP1⟩ := hBX
    rw [ht] at hP1
    refine vx_catch (own := R_law) (name := nsE) hown [] ⟨0, 10, 13, 13⟩ [] htab (fun z hz => absurd hz List.not_mem_nil) (by decide) (by decide) (htg _ wl_c13) (ns_cast hxw) hce hcv hcl ?_
    refine lv_astore (lv' := [(4, .ref q9), (0, .ref (w.1 0)), (1, .int x), (2, .int y), (3, .ref (w.1 101))]) hx hb d13 hl (by decide) rfl (fun ls hl => ?_)
    refine lv_iconst (v := 1) hx hb d15 rfl ?_
    exact W.iret (v := 1) hx hb hr (fun t ht hW => ⟨⟨some (.int 1), τ, rfl, hq, HW.of hP1 hK hI hsp hnw hS1 ht hW⟩, hS1.F ht⟩) hS1.2.2 d16
abbrev cRw (cc : ByteArray) (idx : Nat) : Prop := decode cc 0 = .ok (.aload_n 2, 1) ∧ decode cc 1 = .ok (.iconst 0, 1) ∧ decode cc 2 = .ok (.aload_n 0, 1) ∧ decode cc 3 = .ok (.iload_n 1, 1) ∧ decode cc 4 = .ok (.invokevirtual idx, 3) ∧ decode cc 7 = .ok (.lastore, 1) ∧ decode cc 8 = .ok (.goto 6, 3) ∧ decode cc 11 = .ok (.astore_n 3, 1) ∧ decode cc 12 = .ok (.iconst 1, 1) ∧ decode cc 13 = .ok (.ireturn, 1) ∧ decode cc 14 = .ok (.iconst 0, 1) ∧ decode cc 15 = .ok (.ireturn, 1)
set_option maxHeartbeats 2000000 in
theorem lr_met {l : Launch} (w : WP) {cc : ByteArray} {yy : MethodName} {idx μ : Nat} {M : MT} {τ : St} {x : Int32} {Q : Qt} (hy : plainName yy.cls = true) (hcl : yy.cls = R_law) (hd : cRw cc idx) (hF : mtb μ = M) (hc : CalV M 1) (e1 : M.1.cls = RX11) (hw : Cond.methodLink R_law idx M.1 ∈ lw_good)
    (h : Cl 900 μ [.ref 0, .int x] τ (fun v τ1 => ∃ r : Int64, v = some (.long r) ∧ Q (some (.int 0)) (sL τ1 101 0 r)) ∨ ((∀ Qc, vx_Met l M.1 (wsU M) rmX (xPre w [.ref 0, .int x] τ) Qc (xX w τ) 1 6 (adA w.1)) ∧ Q (some (.int 1)) τ)) :
    Met l yy (Cond.codeWith yy cc 4 (some .int) [(0, 8, 11, 13)] :: lw_good) rmF (fPre w [.ref (w.1 0), .int x, .ref (w.1 101)] τ) (pPost w Q) 1 6 (adA w.1) := by
  refine va_MetW hy rfl ?_
  intro p e s m args below meth c s₁ B hml hv
  obtain ⟨rfl, ⟨hP, hK, hI, hsp, hnw⟩, hxw⟩ := hv
  obtain ⟨d0, d1, d2, d3, d4, d7, d8, d11, d12, d13, d14, d15⟩ := hd
  have hx := B.exec
  have hb := B.bytes
  have hr := B.returns
  have hts := atoms_spec (ws := Cond.codeWith yy cc 4 (some .int) [(0, 8, 11, 13)] :: lw_good) B.pre
  have htg : ∀ q ∈ lw_good, q.before (List.toArray [Value.ref (w.1 0), .int x, .ref (w.1 101)]) s = true := fun q hq => hts q (List.mem_cons_of_mem _ hq)
  have hown : s.vm.findClass R_law = some m.cls := by rw [← hcl]; exact findClass_of_methodNamed B.named
  have hlocks := B.notSynchronized
  have htab : c.exceptionTable.toList = tableOf [(0, 8, 11, 13)] := vx_table (x := yy) B (hts _ List.mem_cons_self)
  have hS : va_S (adA w.1) s.heap s.heap [] := va_S.rf
  obtain ⟨c1, c2, c3, c4, c5, c6, c7, c8⟩ := hc
  have hl := lv_entry ([.ref (w.1 0), .int x, .ref (w.1 101)]) (n := 4) (Nat.le_of_ble_eq_true rfl)
  rw [lg_entry_eq]
  generalize (lg_sl ([.ref (w.1 0), .int x, .ref (w.1 101)]) ++ List.replicate (4 - (lg_sl ([.ref (w.1 0), .int x, .ref (w.1 101)])).length) Slot.unset).toArray = ls at hl ⊢
  have hl : lv_has ls 4 [(0, .ref (w.1 0)), (1, .int x), (2, .ref (w.1 101))] := hl
  refine lv_aload_n hx hb d0 rfl (lv_at hl 2 rfl) ?_
  refine lv_iconst (v := 0) hx hb d1 rfl ?_
  refine lv_aload_n hx hb d2 rfl (lv_at hl 0 rfl) ?_
  refine lv_iload_n hx hb d3 rfl (lv_at hl 1 rfl) ?_
  have hrecv : ∃ cell : Cell, s.heap[w.1 0]? = some cell ∧ cell.vm.isStatics = false ∧ s.vm.findClass M.1.cls = some cell.cls := by
    rw [e1]
    exact va_recv hK hP fk_11.2.1 (eW_obj (k := 0) (by decide) (by decide) fk_11.1)
  rcases h with h | ⟨hM, hq⟩
  · have hMet := Cl_met l w h
    rw [hF] at hMet
    refine hcall (rest := [.int 0, .ref (w.1 101)]) (va_runV (As := [.int x]) (b := w.1 0) (C := M.1.cls) (ws := wsU M) (rm := rmD 900) (n := 1) (index := idx) (own := R_law) (Ts := lw_good) ⟨hx, hb, hml, hown, htg⟩ hMet
      (cwV 1 htg (lf_good (yy := yy) c1 c2 c3 c4 hw) rfl rfl rfl ⟨rfl, c5, c6, c7⟩ ⟨Nat.le_of_ble_eq_true rfl, by show 8 + (M.2.2.1 + 11) + 60 * 900 ≤ 54100; omega⟩)
      ⟨blindP w _ _, hrecv, fun U hU hW => ⟨rfl, HW.of hP hK hI hsp hnw hS hU hW⟩⟩ rfl rfl hl.1 rfl (lv_room (Nat.le_of_ble_eq_true rfl)) d4 ⟨Nat.zero_le _, Nat.zero_le _⟩) hS (fun v τ1 H1 locs1 hq hP1 hS1 => ?_)
    obtain ⟨r, rfl, hq⟩ := hq
    refine va_last (i := 0) (x := r) hx hb hK hP1 (eW_D hI) hS1 101 2 (by rw [eW_arr (by decide) (show shp 101 = 15 by decide) (by decide), pay_l (by decide)]) rfl (show vp_in (nI 0) (len 101) from vp_in_nI (by decide) (by decide)) d7 (fun H2 locs2 hP2 hD2 hS2 => ?_)
    rw [eW_stL (show shp 101 = 15 by decide)] at hP2
    have hP2 : va_P w.2.2.1 hcls (eW w.1 w.2.2.2 (sL τ1 101 0 r)) H2 := hP2
    refine lv_goto (tgt := 14) hx hb d8 rfl ?_
    refine lv_iconst (v := 0) hx hb d14 rfl ?_
    refine W.widen (k := 1) (n := 6) (by omega) (by omega) ?_
    exact W.iret (v := 0) hx hb hr (fun t ht hW => ⟨⟨some (.int 0), _, rfl, hq, HW.of hP2 hK hI hsp hnw hS2 ht hW⟩, hS2.F ht⟩) hS2.2.2 d15
  · refine vx_calll (S := Unit) (SX := Unit) (post := fun _ _ => False) (B := fun _ _ => True) (A1 := adA w.1) (rest := [.int 0, .ref (w.1 101)]) (vx_runV (As := [.int x]) (b := w.1 0) (C := M.1.cls) (ws := wsU M) (rm := rmX) (n := 1) (index := idx) (own := R_law) (Ts := lw_good) ⟨hx, hb, hml, hown, htg⟩ (hM (va_Ql (fun _ (_ : Unit) => False) (fun _ _ => True) (adA w.1)))
      (cwV 1 htg (lf_good (yy := yy) c1 c2 c3 c4 hw) rfl rfl rfl ⟨rfl, c5, c6, c7⟩ ⟨Nat.le_of_ble_eq_true rfl, by show 8 + (M.2.2.1 + 11) + 54000 ≤ 54100; omega⟩)
      ⟨blindX w _ _, hrecv, fun U hU hW => ⟨rfl, HW.of hP hK hI hsp hnw hS hU hW, hxw.step hS hU hW⟩⟩ rfl rfl hl.1 rfl (lv_room (Nat.le_of_ble_eq_true rfl)) d4 ⟨Nat.le_of_ble_eq_true rfl, Nat.le_of_ble_eq_true rfl⟩) hS (fun _ _ z => z) (fun _ z => z) (fun _ _ z => z) (fun E ce q9 u t H1 locs1 ht hal hu hBX hz hk hS1 hce hcv hcl => ?_) (fun _ _ _ _ _ _ _ hf => hf.elim)
    obtain ⟨rfl, hP1⟩ := hBX
    rw [ht] at hP1
    refine vx_catch (own := R_law) (name := nsE) hown [] ⟨0, 8, 11, 13⟩ [] htab (fun z hz => absurd hz List.not_mem_nil) (by decide) (by decide) (htg _ wl_c13) (ns_cast hxw) hce hcv hcl ?_
    refine lv_astore_n (lv' := [(3, .ref q9), (0, .ref (w.1 0)), (1, .int x), (2, .ref (w.1 101))]) hx hb d11 rfl hl (by decide) rfl (fun ls hl => ?_)
    refine lv_iconst (v := 1) hx hb d12 rfl ?_
    exact W.iret (v := 1) hx hb hr (fun t ht hW => ⟨⟨some (.int 1), τ, rfl, hq, HW.of hP1 hK hI hsp hnw hS1 ht hW⟩, hS1.F ht⟩) hS1.2.2 d13
