/-! THE LAW: the cases of field, ship and row -/
/-- what the law's own field (ship) leaves for the reference -/
def Fq (t m2 : Nat) (as : List Value) : Qt := fun v τ1 => ∃ k : Int32, v = some (.int k) ∧ Cl 900 m2 (.ref 69 :: as) τ1 (fun b τ2 => ∃ r : Int32, b = some (.int r) ∧ τ2.1 69 0 = k ∧ (k = 0 → τ2.2 101 0 = r.toInt64) ∧ Inv (t + 1) τ2)
def Fl (t m2 : Nat) (as : List Value) : Qt := fun v τ1 => ∃ k : Int32, v = some (.int k) ∧ Cl 900 m2 (.ref 69 :: as) τ1 (fun b τ2 => ∃ r : Int64, b = some (.long r) ∧ τ2.1 69 0 = k ∧ (k = 0 → τ2.2 101 0 = r) ∧ Inv (t + 1) τ2)
theorem rmF_fits {k n : Nat} (h : n ≤ 20) : rmF.frames + 1 ≤ room_1.frames ∧ 8 + (n + 11) + rmF.locals ≤ room_1.locals := ⟨by decide, by show 8 + (n + 11) + 54100 ≤ 84000; omega⟩
theorem ls_good {yy : MethodName} {idx maxL : Nat} {bt : ByteArray} {hh : List (Nat × Nat × Nat × Nat)} (h1 : Cond.methodLink R_law idx yy ∈ lw_good) (h2 : Cond.static yy ∈ lw_good) (h3 : Cond.initialized yy.cls ∈ lw_good) (h4 : Cond.codeWith yy bt maxL (some .int) hh ∈ lw_good) : GoodIn lw_good (va_wsS R_law idx yy (Cond.codeWith yy bt maxL (some .int) hh :: lw_good)) := lw_gi (fun x hx => by
  simp only [va_wsS, List.mem_append, List.mem_cons, List.not_mem_nil, or_false] at hx
  rcases hx with (rfl | rfl | rfl) | rfl | hx
  · exact h1
  · exact h2
  · exact h3
  · exact h4
  · exact hx)
section LAW
variable {w : WP} {p : Program} {l : Launch} {e : Env} {s : State} {m : MethodId} {below : List Frame} {meth : Method} {c : Code} {b L : Nat} {xs : Nat → Int32} {τ : St} {H : Heap} {cells slots : Nat} {Z : State → Prop} {ls : Array Slot}
/-- a call of the law's own field, ship, row -/
theorem lcs (hC : LwC w p s m meth c b L xs) (hXW : XW w s) (hL : LwS w s τ H) {yy : MethodName} {bt : ByteArray} {maxL idx pc : Nat} {hh : List (Nat × Nat × Nat × Nat)} {As rest : List Value} {Q' : Qt} (hm : maxL ≤ 20) (hM : Met l yy (Cond.codeWith yy bt maxL (some .int) hh :: lw_good) rmF (fPre w As τ) (pPost w Q') 1 6 (adA w.1)) (hdg : decode code pc = .ok (.invokestatic idx, 3)) (hg : GoodIn lw_good (va_wsS R_law idx yy (Cond.codeWith yy bt maxL (some .int) hh :: lw_good)))
    (hy : yy.cls ≠ "java/lang/invoke/MethodHandle" ∧ yy.cls ≠ "java/lang/invoke/VarHandle" ∧ (parseMethodDescriptor yy.desc).map (fun d => d.parameters.length) = some As.length) (hrc : (rest.map fun v => v.category).sum ≤ 8) (hz : ls.size = 8) (hcs : cells + 1 ≤ 601024 ∧ slots + 6 ≤ 7293034)
    (kk : ∀ (v : Option Value) (τ' : St) (H1 : Heap), Q' v τ' → LwS w s τ' H1 → W p l e room_1 s m #[Value.ref b] below meth c H1 [] (cells + 1) (slots + 6) Z (F0 m (pc + 3) ls ((v.map (mv w.1)).toList ++ rest))) :
    W p l e room_1 s m #[Value.ref b] below meth c H [] cells slots Z (F0 m pc ls (As.reverse ++ rest)) := by
  obtain ⟨⟨hx, hb, hr, hml, hown, hts, hX, hbl, hlocks, hgv⟩, hLL, hK, hI, hsp, hnw, hA⟩ := hC
  obtain ⟨hP, hS⟩ := hL
  intro T hT X
  have hr := vx_runSW (As := As) (rest := rest) (H := H) (locs := []) (cells := cells) (slots := slots) (R := room_1) (e := e) (below := below) (meth := meth) (g := F0 m pc ls (As.reverse ++ rest)) (ws := Cond.codeWith yy bt maxL (some .int) hh :: lw_good) (rm := rmF) (mc := 1) (ms := 6) (n := As.length) (index := idx) (own := R_law) (Ts := lw_good) (bytes := bt) (maxL := maxL) (ret := some .int) (hh := hh) ⟨hx, hb, hml, hown, fun w hw => hts w (lw_goodT hw)⟩ hM
    (vx_cwSW As.length (fun w hw => hts w (lw_goodT hw)) hg rfl rfl rfl hy (rmF_fits (k := 0) hm))
    ⟨blindF w _ _, fun U hU hW => ⟨rfl, HW.of hP hK hI hsp hnw (AL_S hA hS) hU hW, hXW.step (AL_S hA hS) hU hW⟩⟩ rfl rfl hz rfl (lv_room hrc) hdg hcs T hT X
  obtain ⟨v, st₀, t, T', L1, h0, X', hL1, e1, e2, ⟨⟨v', τ', hv, hq, hw'⟩, hz', hk'⟩, st⟩ := hr
  cases hv
  rw [h0] at hz' hk'
  have hS1 : va_S (AL s) s.heap T'.heap [] := ⟨Nat.le_trans hS.1 (by rw [e1]; exact hz'), fun q h1 h2 => by rw [e1, hk' q (Nat.lt_of_lt_of_le h1 hS.1) (fun z => h2 (hA q z))]; exact hS.2.1 q h1 h2, fun q hq => absurd hq List.not_mem_nil⟩
  have K := va_forget (locs := [] ++ L1) (fun q hq => by rw [List.nil_append] at hq; exact hA _ (hL1 q hq)) (kk v' τ' T'.heap hq ⟨by rw [e1]; exact hw'.1, hS1⟩)
  obtain ⟨t2, a1, b1⟩ := K T' rfl X'
  exact ⟨t2, st t2 a1, b1⟩
abbrev cB (pc idx iM : Nat) (off : Int) : Prop := decode code pc = .ok (.aload_n 1, 1) ∧ (∀ j, j < 2 → pA (pc + 1 + 6 * j) (0 + j + 1)) ∧ decode code (pc + 13) = .ok (.aload_n 3, 1) ∧ decode code (pc + 14) = .ok (.invokestatic idx, 3) ∧ decode code (pc + 17) = .ok (.istore 5, 2) ∧ decode code (pc + 19) = .ok (.aload_n 2, 1) ∧ (∀ j, j < 2 → pA (pc + 20 + 6 * j) (0 + j + 1)) ∧ decode code (pc + 32) = .ok (.invokevirtual iM, 3) ∧ decode code (pc + 35) = .ok (.istore 6, 2) ∧ decode code (pc + 37) = .ok (.aload_n 2, 1) ∧ decode code (pc + 38) = .ok (.invokevirtual 55, 3) ∧ decode code (pc + 41) = .ok (.iload 5, 2) ∧ decode code (pc + 43) = .ok (.if_icmp .eq 5, 3) ∧ decode code (pc + 48) = .ok (.iload 5, 2) ∧ decode code (pc + 50) = .ok (.ifCond .ne 15, 3) ∧ decode code (pc + 53) = .ok (.aload_n 3, 1) ∧ decode code (pc + 54) = .ok (.iconst 0, 1) ∧ decode code (pc + 55) = .ok (.laload, 1) ∧ decode code (pc + 56) = .ok (.iload 6, 2) ∧ decode code (pc + 58) = .ok (.i2l, 1) ∧ decode code (pc + 59) = .ok (.lcmp, 1) ∧ decode code (pc + 60) = .ok (.ifCond .eq 5, 3) ∧ decode code (pc + 65) = .ok (.goto off, 3) ∧ ((pc + 65 : Nat) : Int) + off = (1542 : Nat)
theorem lg_cmp_self (x : Int64) : lg_cmp x x = 0 := by
  unfold lg_cmp
  rw [if_neg (fun h => by rw [gt_iff_lt, Int64.lt_iff_toInt_lt] at h; omega), if_pos rfl]
theorem s_thr {τ : St} {Q : Qt} (hQ : Q (some (.int (τ.1 69 0))) τ) : Cl 900 m_M_thrown [.ref 69] τ Q := s_thrown hQ
set_option maxHeartbeats 2000000 in
theorem lcaseF (hC : LwC w p s m meth c b L xs) (hXW : XW w s) (hL : LwS w s τ H) {i t : Nat} (hv : LwV w b (nI i) ls) (hi : i + 5 ≤ L) (hcs : cells + 1 ≤ 601024 ∧ slots + 6 ≤ 7293034) {pc idx iM m2 : Nat} {off : Int} {M2 : MT} {yy : MethodName} {bt : ByteArray} (hd : cB pc idx iM off) (hg : GoodIn lw_good (va_wsS R_law idx yy (Cond.codeWith yy bt 5 (some .int) [(0, 10, 13, 13)] :: lw_good)))
    (hy : yy.cls ≠ "java/lang/invoke/MethodHandle" ∧ yy.cls ≠ "java/lang/invoke/VarHandle" ∧ (parseMethodDescriptor yy.desc).map (fun d => d.parameters.length) = some 4)
    (hM : Met l yy (Cond.codeWith yy bt 5 (some .int) [(0, 10, 13, 13)] :: lw_good) rmF (fPre w [.ref (w.1 0), .int (xs (i + (0 + 1))), .int (xs (i + (0 + 1 + 1))), .ref (w.1 101)] τ) (pPost w (Fq t m2 (ag xs i 2 0))) 1 6 (adA w.1))
    (hF2 : mtb m2 = M2) (hc2 : CalV M2 2) (e2 : M2.1.cls = RX12) (hw2 : Cond.methodLink R_law iM M2.1 ∈ lw_good)
    (next : ∀ (τ' : St) (H' : Heap) (ls' : Array Slot), Inv (t + 1) τ' → LwS w s τ' H' → LwV w b (nI i) ls' → W p l e room_1 s m #[Value.ref b] below meth c H' [] (cells + 1) (slots + 6) Z (F0 m 1542 ls' [])) :
    W p l e room_1 s m #[Value.ref b] below meth c H [] cells slots Z (F0 m pc ls []) := by
  have ⟨⟨hx, hb, hr, hml, hown, hts, hX, hbl, hlocks, hgv⟩, hLL, hK, hIn, hsp, hnw, hA⟩ := hC
  obtain ⟨d0, dp, d13, d14, d17, d19, dq, d32, d35, d37, d38, d41, d43, d48, d50, d53, d54, d55, d56, d58, d59, d60, d65, d66⟩ := hd
  refine lv_aload_n hx hb d0 rfl (lv_at hv 3 rfl) ?_
  refine lpush hC hL.2 hv hi 2 0 (pc + 1) _ (by omega) dp ?_
  refine lv_aload_n hx hb d13 rfl (lv_at hv 1 rfl) ?_
  refine lcs hC hXW hL (rest := []) (As := [.ref (w.1 0), .int (xs (i + (0 + 1))), .int (xs (i + (0 + 1 + 1))), .ref (w.1 101)]) (Nat.le_of_ble_eq_true rfl) hM d14 hg hy (Nat.zero_le _) hv.1 hcs (fun v τ1 H1 hq hL1 => ?_)
  obtain ⟨k, rfl, hq⟩ := hq
  refine lv_istore (x := k) (lv' := [(5, .int k), (4, .int (nI i)), (3, .ref (w.1 101)), (2, .ref (w.1 69)), (1, .ref (w.1 0)), (0, .ref b)]) hx hb d17 hv (by decide) rfl (fun ls1 hl1 => ?_)
  have hv1 : LwV w b (nI i) ls1 := lv_sub hl1 [1, 2, 3, 4, 5] rfl
  refine lv_aload_n hx hb d19 rfl (lv_at hl1 3 rfl) ?_
  refine lpush hC hL1.2 hv1 hi 2 0 (pc + 20) _ (by omega) dq ?_
  refine lcv hC hL1 (rest := []) hF2 hc2 fk_12 e2 ⟨by decide, by decide⟩ d32 hw2 (ag_len xs i 2 0) (ag_mv w.1 xs i 2 0) (Nat.zero_le _) hv1.1 hcs hq (fun v2 τ2 H2 hq2 hL2 => ?_)
  obtain ⟨r, rfl, h69, h101, hI2⟩ := hq2
  refine lv_istore (x := r) (lv' := [(6, .int r), (5, .int k), (4, .int (nI i)), (3, .ref (w.1 101)), (2, .ref (w.1 69)), (1, .ref (w.1 0)), (0, .ref b)]) hx hb d35 hl1 (by decide) rfl (fun ls2 hl2 => ?_)
  have hv2 : LwV w b (nI i) ls2 := lv_sub hl2 [2, 3, 4, 5, 6] rfl
  refine lv_aload_n hx hb d37 rfl (lv_at hl2 4 rfl) ?_
  refine lcv hC hL2 (as := []) (rest := []) (Q' := fun v τ' => v = some (.int k) ∧ τ' = τ2) mt_M_thrown cal_M_thrown fk_12 rfl ⟨by decide, by decide⟩ d38 wl_55 rfl rfl (Nat.zero_le _) hv2.1 hcs (s_thr ⟨by rw [h69], rfl⟩) (fun v3 τ3 H3 hq3 hL3 => ?_)
  obtain ⟨rfl, rfl⟩ := hq3
  refine lv_iload (x := k) hx hb d41 (lv_at hl2 1 rfl) ?_
  refine lv_icmp_eq (tgt := pc + 48) hx hb d43 (by omega) (fun _ => ?_) (fun z => absurd rfl z)
  refine lv_iload (x := k) hx hb d48 (lv_at hl2 1 rfl) ?_
  have fin : W p l e room_1 s m #[Value.ref b] below meth c H3 [] (cells + 1) (slots + 6) Z (F0 m (pc + 65) ls2 []) := lv_goto (tgt := 1542) hx hb d65 d66 (next _ H3 ls2 hI2 hL3 hv2)
  refine lv_if_ne (tgt := pc + 65) hx hb d50 (by omega) (fun _ => fin) (fun hk => ?_)
  refine lv_aload_n hx hb d53 rfl (lv_at hl2 3 rfl) ?_
  refine lv_iconst (v := 0) hx hb d54 rfl ?_
  refine va_lald (i := 0) hx hb hK hL3.1 101 2 (by rw [eW_arr (by decide) (show shp 101 = 15 by decide) (by decide), pay_l (by decide)]) rfl (show vp_in (nI 0) (len 101) from vp_in_nI (by decide) (by decide)) d55 ?_
  refine lv_iload (x := r) hx hb d56 (lv_at hl2 0 rfl) ?_
  refine lv_i2l (v := r.toInt64) hx hb d58 rfl ?_
  refine W.lcmp hx hb d59 ?_
  refine lv_if_eq (tgt := pc + 65) hx hb d60 (by omega) (fun _ => fin) (fun z => absurd ?_ z)
  have e101 : τ3.2 101 (Int32.toNatClampNeg 0) = r.toInt64 := h101 hk
  rw [e101]
  exact lg_cmp_self _
abbrev cBr (pc idx iM : Nat) (off : Int) : Prop := decode code pc = .ok (.aload_n 1, 1) ∧ (∀ j, j < 1 → pA (pc + 1 + 6 * j) (0 + j + 1)) ∧ decode code (pc + 7) = .ok (.aload_n 3, 1) ∧ decode code (pc + 8) = .ok (.invokestatic idx, 3) ∧ decode code (pc + 11) = .ok (.istore 5, 2) ∧ decode code (pc + 13) = .ok (.aload_n 2, 1) ∧ (∀ j, j < 1 → pA (pc + 14 + 6 * j) (0 + j + 1)) ∧ decode code (pc + 20) = .ok (.invokevirtual iM, 3) ∧ decode code (pc + 23) = .ok (.lstore 6, 2) ∧ decode code (pc + 25) = .ok (.aload_n 2, 1) ∧ decode code (pc + 26) = .ok (.invokevirtual 55, 3) ∧ decode code (pc + 29) = .ok (.iload 5, 2) ∧ decode code (pc + 31) = .ok (.if_icmp .eq 5, 3) ∧ decode code (pc + 36) = .ok (.iload 5, 2) ∧ decode code (pc + 38) = .ok (.ifCond .ne 14, 3) ∧ decode code (pc + 41) = .ok (.aload_n 3, 1) ∧ decode code (pc + 42) = .ok (.iconst 0, 1) ∧ decode code (pc + 43) = .ok (.laload, 1) ∧ decode code (pc + 44) = .ok (.lload 6, 2) ∧ decode code (pc + 46) = .ok (.lcmp, 1) ∧ decode code (pc + 47) = .ok (.ifCond .eq 5, 3) ∧ decode code (pc + 52) = .ok (.goto off, 3) ∧ ((pc + 52 : Nat) : Int) + off = (1542 : Nat)
set_option maxHeartbeats 2000000 in
theorem lcaseR (hC : LwC w p s m meth c b L xs) (hXW : XW w s) (hL : LwS w s τ H) {i t : Nat} (hv : LwV w b (nI i) ls) (hi : i + 5 ≤ L) (hcs : cells + 1 ≤ 601024 ∧ slots + 6 ≤ 7293034) {pc idx iM m2 : Nat} {off : Int} {M2 : MT} {yy : MethodName} {bt : ByteArray} (hd : cBr pc idx iM off) (hg : GoodIn lw_good (va_wsS R_law idx yy (Cond.codeWith yy bt 4 (some .int) [(0, 8, 11, 13)] :: lw_good)))
    (hy : yy.cls ≠ "java/lang/invoke/MethodHandle" ∧ yy.cls ≠ "java/lang/invoke/VarHandle" ∧ (parseMethodDescriptor yy.desc).map (fun d => d.parameters.length) = some 3)
    (hM : Met l yy (Cond.codeWith yy bt 4 (some .int) [(0, 8, 11, 13)] :: lw_good) rmF (fPre w [.ref (w.1 0), .int (xs (i + (0 + 1))), .ref (w.1 101)] τ) (pPost w (Fl t m2 (ag xs i 1 0))) 1 6 (adA w.1))
    (hF2 : mtb m2 = M2) (hc2 : CalV M2 1) (e2 : M2.1.cls = RX12) (hw2 : Cond.methodLink R_law iM M2.1 ∈ lw_good)
    (next : ∀ (τ' : St) (H' : Heap) (ls' : Array Slot), Inv (t + 1) τ' → LwS w s τ' H' → LwV w b (nI i) ls' → W p l e room_1 s m #[Value.ref b] below meth c H' [] (cells + 1) (slots + 6) Z (F0 m 1542 ls' [])) :
    W p l e room_1 s m #[Value.ref b] below meth c H [] cells slots Z (F0 m pc ls []) := by
  have ⟨⟨hx, hb, hr, hml, hown, hts, hX, hbl, hlocks, hgv⟩, hLL, hK, hIn, hsp, hnw, hA⟩ := hC
  obtain ⟨d0, dp, d7, d8, d11, d13, dq, d20, d23, d25, d26, d29, d31, d36, d38, d41, d42, d43, d44, d46, d47, d52, d53⟩ := hd
  refine lv_aload_n hx hb d0 rfl (lv_at hv 3 rfl) ?_
  refine lpush hC hL.2 hv hi 1 0 (pc + 1) _ (by omega) dp ?_
  refine lv_aload_n hx hb d7 rfl (lv_at hv 1 rfl) ?_
  refine lcs hC hXW hL (rest := []) (As := [.ref (w.1 0), .int (xs (i + (0 + 1))), .ref (w.1 101)]) (Nat.le_of_ble_eq_true rfl) hM d8 hg hy (Nat.zero_le _) hv.1 hcs (fun v τ1 H1 hq hL1 => ?_)
  obtain ⟨k, rfl, hq⟩ := hq
  refine lv_istore (x := k) (lv' := [(5, .int k), (4, .int (nI i)), (3, .ref (w.1 101)), (2, .ref (w.1 69)), (1, .ref (w.1 0)), (0, .ref b)]) hx hb d11 hv (by decide) rfl (fun ls1 hl1 => ?_)
  have hv1 : LwV w b (nI i) ls1 := lv_sub hl1 [1, 2, 3, 4, 5] rfl
  refine lv_aload_n hx hb d13 rfl (lv_at hl1 3 rfl) ?_
  refine lpush hC hL1.2 hv1 hi 1 0 (pc + 14) _ (by omega) dq ?_
  refine lcv hC hL1 (rest := []) hF2 hc2 fk_12 e2 ⟨by decide, by decide⟩ d20 hw2 (ag_len xs i 1 0) (ag_mv w.1 xs i 1 0) (Nat.zero_le _) hv1.1 hcs hq (fun v2 τ2 H2 hq2 hL2 => ?_)
  obtain ⟨r, rfl, h69, h101, hI2⟩ := hq2
  refine lv_lstore (x := r) (lv' := [(6, .long r), (5, .int k), (4, .int (nI i)), (3, .ref (w.1 101)), (2, .ref (w.1 69)), (1, .ref (w.1 0)), (0, .ref b)]) hx hb d23 hl1 (by decide) rfl (fun ls2 hl2 => ?_)
  have hv2 : LwV w b (nI i) ls2 := lv_sub hl2 [2, 3, 4, 5, 6] rfl
  refine lv_aload_n hx hb d25 rfl (lv_at hl2 4 rfl) ?_
  refine lcv hC hL2 (as := []) (rest := []) (Q' := fun v τ' => v = some (.int k) ∧ τ' = τ2) mt_M_thrown cal_M_thrown fk_12 rfl ⟨by decide, by decide⟩ d26 wl_55 rfl rfl (Nat.zero_le _) hv2.1 hcs (s_thr ⟨by rw [h69], rfl⟩) (fun v3 τ3 H3 hq3 hL3 => ?_)
  obtain ⟨rfl, rfl⟩ := hq3
  refine lv_iload (x := k) hx hb d29 (lv_at hl2 1 rfl) ?_
  refine lv_icmp_eq (tgt := pc + 36) hx hb d31 (by omega) (fun _ => ?_) (fun z => absurd rfl z)
  refine lv_iload (x := k) hx hb d36 (lv_at hl2 1 rfl) ?_
  have fin : W p l e room_1 s m #[Value.ref b] below meth c H3 [] (cells + 1) (slots + 6) Z (F0 m (pc + 52) ls2 []) := lv_goto (tgt := 1542) hx hb d52 d53 (next _ H3 ls2 hI2 hL3 hv2)
  refine lv_if_ne (tgt := pc + 52) hx hb d38 (by omega) (fun _ => fin) (fun hk => ?_)
  refine lv_aload_n hx hb d41 rfl (lv_at hl2 3 rfl) ?_
  refine lv_iconst (v := 0) hx hb d42 rfl ?_
  refine va_lald (i := 0) hx hb hK hL3.1 101 2 (by rw [eW_arr (by decide) (show shp 101 = 15 by decide) (by decide), pay_l (by decide)]) rfl (show vp_in (nI 0) (len 101) from vp_in_nI (by decide) (by decide)) d43 ?_
  refine lv_lload (x := r) hx hb d44 (lv_at hl2 0 rfl) ?_
  refine W.lcmp hx hb d46 ?_
  refine lv_if_eq (tgt := pc + 52) hx hb d47 (by omega) (fun _ => fin) (fun z => absurd ?_ z)
  have e101 : τ3.2 101 (Int32.toNatClampNeg 0) = r := h101 hk
  rw [e101]
  exact lg_cmp_self _
end LAW
