/-! THE CLASS'S FIELD, SHIP, ROW WHERE THEY THROW: the abstract machine up to the throw, the machine behind it -/
def nsS : List (Nat × String × Nat) := [(188, "no such field", 4000), (202, "a field is not asked so", 4001), (207, "no such ship", 4002), (218, "a ship is not asked so", 4003), (488, "the row has no such number", 4004)]
def XW (w : WP) (U : State) : Prop := (∀ q ∈ nsS, vk_R RX11 q.1 q.2.1 (w.1 q.2.2) U) ∧ vx_Zq Bundle.tN "UNASSIGNED_STACK" Bundle.steD (adA w.1) U U.heap ∧ vx_Zq Bundle.tN "SUPPRESSED_SENTINEL" Bundle.listD (adA w.1) U U.heap ∧ ∀ x ∈ nsBad, va_Nw x U
theorem ns_warm {s U : State} (hW : s.WarmedH U.vm) (h : ∀ x ∈ nsBad, va_Nw x s) : ∀ x ∈ nsBad, va_Nw x U := by
  intro x hx
  have h' := h x hx
  simp only [nsBad, List.mem_cons, List.not_mem_nil, or_false] at hx
  rcases hx with rfl | rfl | rfl | rfl
  · exact va_Nw.warmC hW h'
  · exact va_Nw.warmD hW h'
  · exact va_Nw.warmD hW h'
  · exact va_Nw.warmD hW h'
theorem ns_on : ∀ x ∈ nsBad, x.onTables = true := by decide +kernel
theorem XW.step {w : WP} {s U : State} {H : Heap} {locs : List Loc} (h : XW w s) (hS : va_S (adA w.1) s.heap H locs) (hU : U.heap = H) (hW : s.WarmedH U.vm) : XW w U := by
  obtain ⟨h1, h2, h3, h4⟩ := h
  subst hU
  exact ⟨fun q hq => (h1 q hq).warm hW, vx_Zq.moved hW.alike (h2.kept hS.2.1), vx_Zq.moved hW.alike (h3.kept hS.2.1), ns_warm hW h4⟩
theorem XW.calling {w : WP} {U : State} (h : XW w U) (g : JFrame) (mk : MethodId) (a : Array Value) : XW w (U.calling g mk a) := by
  obtain ⟨h1, h2, h3, h4⟩ := h
  exact ⟨fun q hq => (h1 q hq).same rfl, vx_Zq.moved (u := U) (U := U.calling g mk a) (Vm.Alike.refl U.vm) h2, vx_Zq.moved (u := U) (U := U.calling g mk a) (Vm.Alike.refl U.vm) h3, fun x hx => va_Nw.same (ns_on x hx) (u := U) (U := U.calling g mk a) rfl (h4 x hx)⟩
theorem ns_hat {w : WP} {args : Array Value} {s : State} (hts : ∀ x ∈ lw_good, x.before args s = true) (h : XW w s) : ∀ x ∈ nsN, x.before args s = true :=
  vx_hat (fun x hx => hts x (nsN_in x hx)) nsN_bad (fun x hx => va_tabs (ns_on x hx) rfl (h.2.2.2 x hx))
def xPre (w : WP) (As : List Value) (τ : St) : Array Value → State → Prop := va_Pc (As.map (mv w.1)) (fun U => HW w τ U ∧ XW w U)
theorem blindX (w : WP) (As : List Value) (τ : St) : FrameBlind (xPre w As τ) := fun _ _ g mk h => ⟨h.1, h.2.1.calling g mk _, h.2.2.calling g mk _⟩
def xX (w : WP) (τ : St) : String → State → State → Prop := vx_X (fun _ : Unit => True) (fun E _ t => E = nsE ∧ va_P w.2.2.1 hcls (eW w.1 w.2.2.2 τ) t.heap) (adA w.1)
def rmX : Room := { frames := 900, cells := 1, slots := 6, locals := 54000 }
def Rch (M : MT) (τ : St) (As : List Value) (sites : List Nat) : Prop := ∀ K : Kt, (∀ pc T, M.2.2.2.2 pc = some T → ∀ L st τ', T K (Clo mtb 899) (fun _ _ => False) L st τ' → K pc L st τ') → (∀ k ∈ sites, ∀ L, K k L [] τ) → K 0 (ent M.2.2.1 As) [] τ
def siteS (M : MT) (k : Nat) : Prop := ∃ q ∈ nsS, decode M.2.1 k = .ok (.new 186, 3) ∧ decode M.2.1 (k + 3) = .ok (.dup, 1) ∧ decode M.2.1 (k + 6) = .ok (.invokespecial 190, 3) ∧ decode M.2.1 (k + 9) = .ok (.athrow, 1) ∧ decode M.2.1 (k + 4) = .ok (.ldc q.1, 2)
def siteW (M : MT) (k : Nat) : Prop := ∃ q ∈ nsS, decode M.2.1 k = .ok (.new 186, 3) ∧ decode M.2.1 (k + 3) = .ok (.dup, 1) ∧ decode M.2.1 (k + 7) = .ok (.invokespecial 190, 3) ∧ decode M.2.1 (k + 10) = .ok (.athrow, 1) ∧ decode M.2.1 (k + 4) = .ok (.ldc_w q.1, 3)
set_option maxHeartbeats 1000000 in
theorem x_met {Qc : Array Value → State → Outcome → State → Prop} {l : Launch} (hfl : l.stackTraces = false) (w : WP) {M : MT} {τ : St} {As : List Value} {sites : List Nat} (hpl : plainName M.1.cls = true) (hc : M.1.cls = RX11) (hlay : (lay As).length ≤ M.2.2.1) (hr : Rch M τ As sites) (hok : AllOk mtb M M.2.2.2.2) (hs : ∀ k ∈ sites, siteS M k ∨ siteW M k) :
    vx_Met l M.1 (wsU M) rmX (xPre w As τ) Qc (xX w τ) 1 6 (adA w.1) := by
  refine vx_ofW (cc := M.2.1) (maxL := M.2.2.1) (ret := M.2.2.2.1) hpl rfl ?_
  intro p e s m args below meth c s₁ B hml hnt hv
  obtain ⟨rfl, ⟨hP, hK, hI, hsp, hnw⟩, hxw⟩ := hv
  have hx := B.exec
  have hb := B.bytes
  have hr0 := B.returns
  have hts := atoms_spec (ws := wsU M) B.pre
  have htg : ∀ x ∈ lw_good, x.before (As.map (mv w.1)).toArray s = true := fun x hx => hts x (List.mem_cons_of_mem _ hx)
  have hown : s.vm.findClass M.1.cls = some m.cls := findClass_of_methodNamed B.named
  have hlocks := B.notSynchronized
  have hcx : Cx M w p l e (headSpec (wsU M) rmX).room s m (As.map (mv w.1)).toArray below meth c 899 :=
    ⟨hx, hb, hml, hr0, hown, htg, hK, hI, hlocks, hsp, hnw, Nat.le_refl _, Nat.le_refl _⟩
  rw [lg_entry_eq]
  have hrun := hr (Wj M w p l e (headSpec (wsU M) rmX).room s m (As.map (mv w.1)).toArray below meth c (vx_MQ below Qc (xX w τ) (As.map (mv w.1)).toArray s 1 6 (adA w.1)))
    (fun pc T hT L st τ' q => (hok pc T hT).2 w p l e _ s m _ below meth c 899 _ (Clo mtb 899) (fun _ _ => False) hcx (fun μ As' τ2 Q2 h2 => Cl_met l w h2) (fun H locs g k T hT X => by
      obtain ⟨t, a1, o, b1, b2, b3, b4⟩ := k T hT X
      obtain ⟨⟨v, τ2, -, f, -⟩, -⟩ := b3
      exact f.elim) L st τ' q)
    (fun k hk L => ?_)
  · exact hrun s.heap [] _ (lvP_ent hlay) hP va_S.rf
  · intro H locs ls hl hP' hS
    have fin : ∀ (pc : Nat) (q9 : Nat) (ce : Cell) (H1 : Heap), H1[q9]? = some ce → ce.vm = .none → s.vm.findClass nsE = some ce.cls → H.size ≤ H1.size → (∀ q : Nat, q < H.size → H1[q]? = H[q]?) → vx_W p l e (headSpec (wsU M) rmX).room s m (As.map (mv w.1)).toArray below meth c H1 locs 1 6 (vx_MQ below Qc (xX w τ) (As.map (mv w.1)).toArray s 1 6 (adA w.1)) (F0 m pc ls []) q9 := fun pc q9 ce H1 e1 e2 e3 e4 e5 =>
      vx_out (E := nsE) (fun x hx => (hnt x hx).elim) hlocks e1 e2 e3 (fun t ht hv => ⟨(), trivial, ⟨rfl, by rw [ht]; exact hP'.kept (fun k x hx => e5 x.1 ((hP' k x hx).lt))⟩, ⟨by rw [ht]; exact Nat.le_trans hS.1 e4, fun q h1 h2 => by rw [ht, e5 q (Nat.lt_of_lt_of_le h1 hS.1)]; exact hS.2.1 q h1 h2⟩⟩) hS.2.2 (Nat.le_refl _) (Nat.le_refl _)
    rcases hs k hk with ⟨q, hq, d0, d3, d6, d9, d4⟩ | ⟨q, hq, d0, d3, d6, d9, d4⟩
    · refine ns_throw hx hb hfl (by rw [← hc]; exact hown) (htg _ ns_186) (htg _ ns_ini) (hxw.1 q hq) (ns_hat htg hxw) hxw.2.1 hxw.2.2.1 hS (hl.2.1.trans hml.symm) d0 d3 d4 d6 (Nat.le_of_ble_eq_true rfl) (Nat.le_of_ble_eq_true rfl) (Nat.le_refl _) (Nat.le_refl _) (fun q9 ce H1 e1 e2 e3 e4 e5 => ?_)
      exact vx_athrow hx hb d9 (fin _ q9 ce H1 e1 e2 e3 e4 e5)
    · refine ns_throwW hx hb hfl (by rw [← hc]; exact hown) (htg _ ns_186) (htg _ ns_ini) (hxw.1 q hq) (ns_hat htg hxw) hxw.2.1 hxw.2.2.1 hS (hl.2.1.trans hml.symm) d0 d3 d4 d6 (Nat.le_of_ble_eq_true rfl) (Nat.le_of_ble_eq_true rfl) (Nat.le_refl _) (Nat.le_refl _) (fun q9 ce H1 e1 e2 e3 e4 e5 => ?_)
      exact vx_athrow hx hb d9 (fin _ q9 ce H1 e1 e2 e3 e4 e5)
theorem r_field {t : Nat} {x y : Int32} {τ : St} (h : Inv t τ) (hP : ¬ ((0 ≤ x ∧ x < τ.1 5 2) ∧ in4 y)) : Rch M_H_field τ [.ref 0, .int x, .int y] [11, 88] := by
  intro K hK hs
  obtain ⟨R, C, kd, ht, ns, n, hA, hT, hR⟩ := h
  have a := hA.1
  have hn36 := a.n36.1
  rw [a.2.1.2.2.1] at hP
  refine hK 0 (t_ald 0 1) rfl _ _ _ ?_
  rw [e_ald (x := 0) rfl]
  refine hK 1 (t_gR 11 2 4) rfl _ _ _ ?_
  rw [e_gR]
  refine ⟨⟨by decide, by decide⟩, ?_⟩
  refine hK 4 (t_ild 1 5) rfl _ _ _ ?_
  rw [e_ild (x := x) rfl]
  refine hK 5 (t_cv m_Ground_has 1 0 8) rfl _ _ _ ?_
  refine ⟨5, [.int x], [], rfl, rfl, rfl, ⟨by decide, by decide⟩, ?_⟩
  refine s_Ghas a (fun f' hf' ef => ?_) (fun z => ?_)
  · refine hK 8 (t_ifn (fun x => x = 0) 21 11) rfl _ _ _ ?_
    rw [oT, e_ifn]
    refine ⟨fun _ => ?_, fun z => absurd z (by decide)⟩
    refine hK 21 (t_ild 2 22) rfl _ _ _ ?_
    rw [e_ild (x := y) rfl]
    refine hK 22 (t_sw [(0, 52), (1, 61), (2, 70), (3, 79)] 88) rfl _ _ _ ?_
    rw [e_sw]
    have hy : ¬ in4 y := fun z => hP ⟨⟨by rw [ef]; exact nI_pos' (by omega), by rw [ef]; exact nI_lt hf' (by omega)⟩, z⟩
    refine ⟨fun q hq e => ?_, fun _ => hs 88 (by decide) _⟩
    simp only [List.mem_cons, List.not_mem_nil, or_false] at hq
    rcases hq with rfl | rfl | rfl | rfl
    · exact absurd (Or.inl e) hy
    · exact absurd (Or.inr (Or.inl e)) hy
    · exact absurd (Or.inr (Or.inr (Or.inl e))) hy
    · exact absurd (Or.inr (Or.inr (Or.inr e))) hy
  · refine hK 8 (t_ifn (fun x => x = 0) 21 11) rfl _ _ _ ?_
    rw [oT, e_ifn]
    exact ⟨fun z => absurd rfl z, fun _ => hs 11 (by decide) _⟩
theorem r_ship {t : Nat} {x y : Int32} {τ : St} (h : Inv t τ) (hP : ¬ ((0 ≤ x ∧ x < τ.1 9 1) ∧ in4 y)) : Rch M_H_ship τ [.ref 0, .int x, .int y] [8, 95] := by
  intro K hK hs
  obtain ⟨R, C, kd, ht, ns, n, hA, hT, hR⟩ := h
  have b := hA.2.1
  have h8 := b.1
  rw [b.2.2.1] at hP
  refine hK 0 (t_ald 0 1) rfl _ _ _ ?_
  rw [e_ald (x := 0) rfl]
  refine hK 1 (t_ild 1 2) rfl _ _ _ ?_
  rw [e_ild (x := x) rfl]
  refine hK 2 (t_cv m_H_hasShip 1 11 5) rfl _ _ _ ?_
  refine ⟨0, [.int x], [], rfl, rfl, rfl, ⟨by decide, by decide⟩, ?_⟩
  refine s_HhasShip b (fun f' hf' ef => ?_) (fun z => ?_)
  · refine hK 5 (t_ifn (fun x => x = 0) 18 8) rfl _ _ _ ?_
    rw [oT, e_ifn]
    refine ⟨fun _ => ?_, fun z => absurd z (by decide)⟩
    refine hK 18 (t_ild 2 19) rfl _ _ _ ?_
    rw [e_ild (x := y) rfl]
    refine hK 19 (t_sw [(0, 48), (1, 55), (2, 64), (3, 81)] 95) rfl _ _ _ ?_
    rw [e_sw]
    have hy : ¬ in4 y := fun z => hP ⟨⟨by rw [ef]; exact nI_pos' (by omega), by rw [ef]; exact nI_lt hf' (by omega)⟩, z⟩
    refine ⟨fun q hq e => ?_, fun _ => hs 95 (by decide) _⟩
    simp only [List.mem_cons, List.not_mem_nil, or_false] at hq
    rcases hq with rfl | rfl | rfl | rfl
    · exact absurd (Or.inl e) hy
    · exact absurd (Or.inr (Or.inl e)) hy
    · exact absurd (Or.inr (Or.inr (Or.inl e))) hy
    · exact absurd (Or.inr (Or.inr (Or.inr e))) hy
  · refine hK 5 (t_ifn (fun x => x = 0) 18 8) rfl _ _ _ ?_
    rw [oT, e_ifn]
    exact ⟨fun z => absurd rfl z, fun _ => hs 8 (by decide) _⟩
theorem r_row {t : Nat} {x : Int32} {τ : St} (h : Inv t τ) (hP : ¬ (0 ≤ x ∧ x < τ.1 3 1)) : Rch M_H_row τ [.ref 0, .int x] [11] := by
  intro K hK hs
  obtain ⟨R, C, kd, ht, ns, n, hA, hT, hR⟩ := h
  obtain ⟨rn, r1, r2, r3, r4⟩ := hR
  rw [r2] at hP
  have rh : ∀ (D : Nat) (Q : Qt), Q (some (.int 0)) τ → Cl (D + 1) m_Row_has [.ref 3, .int x] τ Q := fun D Q q => by
    rw [N_Row_has]
    simp only [E_Row_has, fIsA, fRt, fLen, fLit, fBool, r2]
    exact ⟨fun _ => q, fun z => ⟨fun _ => q, fun z2 => absurd ⟨Int32.not_lt.mp z, Int32.not_le.mp z2⟩ hP⟩⟩
  refine hK 0 (t_ald 0 1) rfl _ _ _ ?_
  rw [e_ald (x := 0) rfl]
  refine hK 1 (t_gR 11 1 4) rfl _ _ _ ?_
  rw [e_gR]
  refine ⟨⟨by decide, by decide⟩, ?_⟩
  refine hK 4 (t_ild 1 5) rfl _ _ _ ?_
  rw [e_ild (x := x) rfl]
  refine hK 5 (t_cv m_Row_has 1 4 8) rfl _ _ _ ?_
  refine ⟨3, [.int x], [], rfl, rfl, rfl, ⟨by decide, by decide⟩, ?_⟩
  refine rh _ _ ?_
  refine hK 8 (t_ifn (fun x => x = 0) 22 11) rfl _ _ _ ?_
  rw [oT, e_ifn]
  exact ⟨fun z => absurd rfl z, fun _ => hs 11 (by decide) _⟩
theorem x_field {Qc : Array Value → State → Outcome → State → Prop} {l : Launch} (hfl : l.stackTraces = false) (w : WP) {t : Nat} {x y : Int32} {τ : St} (h : Inv t τ) (hP : ¬ ((0 ≤ x ∧ x < τ.1 5 2) ∧ in4 y)) : vx_Met l M_H_field.1 (wsU M_H_field) rmX (xPre w [.ref 0, .int x, .int y] τ) Qc (xX w τ) 1 6 (adA w.1) :=
  x_met hfl w (sites := [11, 88]) (by decide +kernel) rfl (Nat.le_of_ble_eq_true rfl) (r_field h hP) ok_H_field (fun k hk => by
    rcases (show k = 11 ∨ k = 88 by simpa using hk) with rfl | rfl
    · exact Or.inl ⟨(188, "no such field", 4000), by decide, by decide +kernel, by decide +kernel, by decide +kernel, by decide +kernel, by decide +kernel⟩
    · exact Or.inl ⟨(202, "a field is not asked so", 4001), by decide, by decide +kernel, by decide +kernel, by decide +kernel, by decide +kernel, by decide +kernel⟩)
theorem x_ship {Qc : Array Value → State → Outcome → State → Prop} {l : Launch} (hfl : l.stackTraces = false) (w : WP) {t : Nat} {x y : Int32} {τ : St} (h : Inv t τ) (hP : ¬ ((0 ≤ x ∧ x < τ.1 9 1) ∧ in4 y)) : vx_Met l M_H_ship.1 (wsU M_H_ship) rmX (xPre w [.ref 0, .int x, .int y] τ) Qc (xX w τ) 1 6 (adA w.1) :=
  x_met hfl w (sites := [8, 95]) (by decide +kernel) rfl (Nat.le_of_ble_eq_true rfl) (r_ship h hP) ok_H_ship (fun k hk => by
    rcases (show k = 8 ∨ k = 95 by simpa using hk) with rfl | rfl
    · exact Or.inl ⟨(207, "no such ship", 4002), by decide, by decide +kernel, by decide +kernel, by decide +kernel, by decide +kernel, by decide +kernel⟩
    · exact Or.inl ⟨(218, "a ship is not asked so", 4003), by decide, by decide +kernel, by decide +kernel, by decide +kernel, by decide +kernel, by decide +kernel⟩)
theorem x_row {Qc : Array Value → State → Outcome → State → Prop} {l : Launch} (hfl : l.stackTraces = false) (w : WP) {t : Nat} {x : Int32} {τ : St} (h : Inv t τ) (hP : ¬ (0 ≤ x ∧ x < τ.1 3 1)) : vx_Met l M_H_row.1 (wsU M_H_row) rmX (xPre w [.ref 0, .int x] τ) Qc (xX w τ) 1 6 (adA w.1) :=
  x_met hfl w (sites := [11]) (by decide +kernel) rfl (Nat.le_of_ble_eq_true rfl) (r_row h hP) ok_H_row (fun k hk => by
    obtain rfl : k = 11 := by simpa using hk
    exact Or.inr ⟨(488, "the row has no such number", 4004), by decide, by decide +kernel, by decide +kernel, by decide +kernel, by decide +kernel, by decide +kernel⟩)
