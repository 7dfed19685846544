/-! texts' literals, wide constants, what the JDK's own methods of texts need -/
def t_two (v u : Value) (nx : Nat) : Tr := fun K _ _ L st τ => K nx L (v :: st) τ ∧ K nx L (u :: st) τ
def t_scod (nx : Nat) : Tr := fun K _ _ L st τ => ∃ (i : Nat) (r : List Value), st = .ref (1000 + i) :: r ∧ i < 6 ∧ K nx L (.int 0 :: r) τ
def t_sval (nx : Nat) : Tr := fun K _ _ L st τ => ∃ (i : Nat) (r : List Value), st = .ref (1000 + i) :: r ∧ i < 6 ∧ K nx L (.ref (2000 + i) :: r) τ
def t_sbl (nx : Nat) : Tr := fun K _ _ L st τ => ∃ (i : Nat) (x : Int32) (r : List Value), st = .int x :: .ref (2000 + i) :: r ∧ i < 6 ∧ vp_in x (sLn.getD i 0) ∧ K nx L (.int ((sBy.getD i []).getD x.toNatClampNeg 0) :: r) τ
def t_slen (nx : Nat) : Tr := fun K _ _ L st τ => ∃ (i : Nat) (r : List Value), st = .ref (2000 + i) :: r ∧ i < 6 ∧ K nx L (.int (Int32.ofNat (sLn.getD i 0)) :: r) τ
/-- a method of a text: as t_cv, but the receiver is a literal -/
def t_scv (μ n nx : Nat) : Tr := fun K C _ L st τ => ∃ (i : Nat) (as r : List Value), st = as.reverse ++ .ref (1000 + i) :: r ∧ as.length = n ∧ ctsB r = true ∧ i < 6 ∧ C μ (.ref (1000 + i) :: as) τ (fun v τ' => K nx L (v.toList ++ r) τ')
def t_nret (ty : FieldType) : Tr := fun _ _ Q _ st τ => ∃ x : Int32, st = [.int x] ∧ narrow ty (.int x) = .int x ∧ Q (some (.int x)) τ
theorem m_two {v u : Value} {nx : Nat} : MonT (t_two v u nx) := fun _ _ _ _ _ _ _ _ _ _ h k => ⟨h _ _ _ _ k.1, h _ _ _ _ k.2⟩
theorem m_scod {nx : Nat} : MonT (t_scod nx) := fun _ _ _ _ _ _ _ _ _ _ h ⟨i, r, q, z, k⟩ => ⟨i, r, q, z, h _ _ _ _ k⟩
theorem m_sval {nx : Nat} : MonT (t_sval nx) := fun _ _ _ _ _ _ _ _ _ _ h ⟨i, r, q, z, k⟩ => ⟨i, r, q, z, h _ _ _ _ k⟩
theorem m_sbl {nx : Nat} : MonT (t_sbl nx) := fun _ _ _ _ _ _ _ _ _ _ h ⟨i, x, r, q, z, z2, k⟩ => ⟨i, x, r, q, z, z2, h _ _ _ _ k⟩
theorem m_slen {nx : Nat} : MonT (t_slen nx) := fun _ _ _ _ _ _ _ _ _ _ h ⟨i, r, q, z, k⟩ => ⟨i, r, q, z, h _ _ _ _ k⟩
theorem m_scv {μ n nx : Nat} : MonT (t_scv μ n nx) := fun _ _ _ _ _ _ _ _ hC _ h ⟨a, b, r, q, z, z2, z3, k⟩ => ⟨a, b, r, q, z, z2, z3, hC _ _ _ _ _ (fun _ _ y => h _ _ _ _ y) k⟩
theorem m_nret {ty : FieldType} : MonT (t_nret ty) := fun _ _ _ _ _ _ _ _ _ hQ _ ⟨x, q, z, k⟩ => ⟨x, q, z, hQ _ _ k⟩
section EQ
variable {K : Kt} {C : Ct} {Q : Qt} {L : Lc} {st r : List Value} {τ : St} {nx tg i : Nat}
theorem e_two {v u : Value} : t_two v u nx K C Q L st τ = (K nx L (v :: st) τ ∧ K nx L (u :: st) τ) := rfl
theorem ref_add {a i j : Nat} (h : Value.ref (a + i) = .ref (a + j)) : i = j := by injection h with h; exact Nat.add_left_cancel h
theorem e_scod : t_scod nx K C Q L (.ref (1000 + i) :: r) τ = (i < 6 ∧ K nx L (.int 0 :: r) τ) := propext ⟨fun ⟨j, _, q, k⟩ => by
  injection q with q1 q2
  have e := ref_add q1
  subst e; subst q2; exact k, fun k => ⟨i, r, rfl, k⟩⟩
theorem e_sval : t_sval nx K C Q L (.ref (1000 + i) :: r) τ = (i < 6 ∧ K nx L (.ref (2000 + i) :: r) τ) := propext ⟨fun ⟨j, _, q, k⟩ => by
  injection q with q1 q2
  have e := ref_add q1
  subst e; subst q2; exact k, fun k => ⟨i, r, rfl, k⟩⟩
theorem e_sbl {x : Int32} : t_sbl nx K C Q L (.int x :: .ref (2000 + i) :: r) τ = (i < 6 ∧ vp_in x (sLn.getD i 0) ∧ K nx L (.int ((sBy.getD i []).getD x.toNatClampNeg 0) :: r) τ) := propext ⟨fun ⟨j, y, _, q, k⟩ => by
  injection q with q0 q
  injection q0 with q0
  injection q with q1 q2
  have e := ref_add q1
  subst e; subst q2; subst q0; exact k, fun k => ⟨i, x, r, rfl, k⟩⟩
theorem e_slen : t_slen nx K C Q L (.ref (2000 + i) :: r) τ = (i < 6 ∧ K nx L (.int (Int32.ofNat (sLn.getD i 0)) :: r) τ) := propext ⟨fun ⟨j, _, q, k⟩ => by
  injection q with q1 q2
  have e := ref_add q1
  subst e; subst q2; exact k, fun k => ⟨i, r, rfl, k⟩⟩
theorem e_scv {μ n : Nat} (as : List Value) (hst : st = as.reverse ++ .ref (1000 + i) :: r) (hn : as.length = n) (hc : ctsB r = true) : t_scv μ n nx K C Q L st τ = (i < 6 ∧ C μ (.ref (1000 + i) :: as) τ (fun v τ' => K nx L (v.toList ++ r) τ')) := propext ⟨fun ⟨k', as', r', q, ql, _, h⟩ => by
  rw [hst] at q
  obtain ⟨h1, h2⟩ := rev_inj q (hn.trans ql.symm)
  injection h2 with q1 q2
  have e := ref_add q1
  subst e; subst q2; subst h1
  exact h, fun h => ⟨i, as, r, hst, hn, hc, h⟩⟩
theorem e_nret {ty : FieldType} {x : Int32} : t_nret ty K C Q L [.int x] τ = (narrow ty (.int x) = .int x ∧ Q (some (.int x)) τ) := propext ⟨fun ⟨_, q, k⟩ => by cases q; exact k, fun k => ⟨x, rfl, k⟩⟩
end EQ
section STR
variable {F : Nat → MT} {M : MT} {pc : Nat}
theorem sd_ldcw {index : Nat} {v : Int32} (hdg : decode M.2.1 pc = .ok (.ldc_w index, 3)) (hw : Cond.constant M.1.cls index v ∈ lw_good) : Sound F M pc (t_push (.int v) (pc + 3)) := by
  intro w p l e R s m args below meth c d Z C Q hC hM hZ L st τ h H locs ls hl hP hS
  obtain ⟨hx, hb, hml, hr, hown, hts, hK, hI, hlk, hsp, hnw, hf, hlo⟩ := hC
  exact lv_ldcw hx hb hown (hts _ hw) hdg (h _ _ _ hl hP hS)
theorem sd_ldcS {index i : Nat} (hcls : M.1.cls = "OverTheHillModel") (hi : i < 6) (hx : sIx.getD i 0 = index) (hdg : decode M.2.1 pc = .ok (.ldc index, 2)) : Sound F M pc (t_push (.ref (1000 + i)) (pc + 2)) := by
  intro w p l e R s m args below meth c d Z C Q hC hM hZ L st τ h H locs ls hl hP hS
  obtain ⟨hx2, hb, hml, hr, hown, hts, hK, hI, hlk, hsp, hnw, hf, hlo⟩ := hC
  have hR := hsp.2.1 i hi
  rw [hx, ← hcls] at hR
  exact va_ldcS hx2 hb hown hR hdg (h _ _ _ hl hP hS)
theorem va_ldcSW {p : Program} {l : Launch} {e : Env} {R : Room} {s : State} {m : MethodId} {args : Array Value} {below : List Frame} {meth : Method} {c : Code} {H : Heap} {locs : List Loc} {cells slots : Nat} {Q : State → Prop} {ls : Array Slot} {rest : List Value} {cc : ByteArray} (hexec : p.tables.exec = Jvm.exec) (hb : c.code = cc) {own tx : String} {index q : Nat} (hown : s.vm.findClass own = some m.cls) (hZ : vk_R own index tx q s) (hdg : decode cc pc = .ok (.ldc_w index, 3))
    (k : W p l e R s m args below meth c H locs cells slots Q (F0 m (pc + 3) ls (.ref q :: rest))) : W p l e R s m args below meth c H locs cells slots Q (F0 m pc ls rest) := by
  intro T hT X
  obtain ⟨t, a1, b1⟩ := k T hT X
  exact ⟨t, X.ldcStringW hexec hown (text := tx) (a := q) hZ.1 hZ.2 (g := F0 m pc ls rest) rfl (by rw [hb]; exact hdg) t a1, b1⟩
theorem sd_ldcSW {index i : Nat} (hcls : M.1.cls = "OverTheHillModel") (hi : i < 6) (hx : sIx.getD i 0 = index) (hdg : decode M.2.1 pc = .ok (.ldc_w index, 3)) : Sound F M pc (t_push (.ref (1000 + i)) (pc + 3)) := by
  intro w p l e R s m args below meth c d Z C Q hC hM hZ L st τ h H locs ls hl hP hS
  obtain ⟨hx2, hb, hml, hr, hown, hts, hK, hI, hlk, hsp, hnw, hf, hlo⟩ := hC
  have hR := hsp.2.1 i hi
  rw [hx, ← hcls] at hR
  exact va_ldcSW hx2 hb hown hR hdg (h _ _ _ hl hP hS)
/-- COMPACT_STRINGS -/
theorem sd_gcomp {idx : Nat} (hdg : decode M.2.1 pc = .ok (.getstatic idx, 3)) (hw : Cond.fieldLink M.1.cls idx "java/lang/String" "COMPACT_STRINGS" "Z" ∈ lw_good) : Sound F M pc (t_push (.int 1) (pc + 3)) := by
  intro w p l e R s m args below meth c d Z C Q hC hM hZ L st τ h H locs ls hl hP hS
  obtain ⟨hx, hb, hml, hr, hown, hts, hK, hI, hlk, hsp, hnw, hf, hlo⟩ := hC
  exact va_gets hx hb hsp.2.2.1 hS hown (hts _ hw) (fun _ z => z) hdg (h _ _ _ hl hP hS)
theorem sd_gfmt {idx : Nat} (hdg : decode M.2.1 pc = .ok (.getstatic idx, 3)) (hw : Cond.fieldLink M.1.cls idx "jdk/internal/util/Preconditions" "SIOOBE_FORMATTER" "Ljava/util/function/BiFunction;" ∈ lw_good) : Sound F M pc (t_two .null (.ref 3000) (pc + 3)) := by
  intro w p l e R s m args below meth c d Z C Q hC hM hZ L st τ h H locs ls hl hP hS
  obtain ⟨hx, hb, hml, hr, hown, hts, hK, hI, hlk, hsp, hnw, hf, hlo⟩ := hC
  rcases hsp.2.2.2 with q | q
  · exact va_gets hx hb q hS hown (hts _ hw) (fun _ z => z) hdg (h.1 _ _ _ hl hP hS)
  · exact va_gets hx hb q hS hown (hts _ hw) (fun _ z => z) hdg (h.2 _ _ _ hl hP hS)
theorem sd_scod {idx : Nat} (hdg : decode M.2.1 pc = .ok (.getfield idx, 3)) (hw : Cond.fieldLink M.1.cls idx "java/lang/String" "coder" "B" ∈ lw_good) : Sound F M pc (t_scod (pc + 3)) := by
  intro w p l e R s m args below meth c d Z C Q hC hM hZ L st τ h H locs ls hl hP hS
  obtain ⟨hx, hb, hml, hr, hown, hts, hK, hI, hlk, hsp, hnw, hf, hlo⟩ := hC
  obtain ⟨i, r, rfl, hi, h⟩ := h
  exact vk_getf hx hb (hsp.1.1 i hi).2.1 hS hown (hts _ hw) (fun _ z => z) hdg (h _ _ _ hl hP hS)
theorem sd_sval {idx : Nat} (hdg : decode M.2.1 pc = .ok (.getfield idx, 3)) (hw : Cond.fieldLink M.1.cls idx "java/lang/String" "value" "[B" ∈ lw_good) : Sound F M pc (t_sval (pc + 3)) := by
  intro w p l e R s m args below meth c d Z C Q hC hM hZ L st τ h H locs ls hl hP hS
  obtain ⟨hx, hb, hml, hr, hown, hts, hK, hI, hlk, hsp, hnw, hf, hlo⟩ := hC
  obtain ⟨i, r, rfl, hi, h⟩ := h
  exact vk_getf hx hb (hsp.1.1 i hi).2.2.1 hS hown (hts _ hw) (fun _ z => z) hdg (h _ _ _ hl hP hS)
theorem sd_sbl (hdg : decode M.2.1 pc = .ok (.baload, 1)) : Sound F M pc (t_sbl (pc + 1)) := by
  intro w p l e R s m args below meth c d Z C Q hC hM hZ L st τ h H locs ls hl hP hS
  obtain ⟨hx, hb, hml, hr, hown, hts, hK, hI, hlk, hsp, hnw, hf, hlo⟩ := hC
  obtain ⟨i, x, r, rfl, hi, hv, h⟩ := h
  exact va_tb hx hb (hsp.1.1 i hi).2.2.2 hS hv rfl hdg (h _ _ _ hl hP hS)
theorem sd_slen (hdg : decode M.2.1 pc = .ok (.arraylength, 1)) : Sound F M pc (t_slen (pc + 1)) := by
  intro w p l e R s m args below meth c d Z C Q hC hM hZ L st τ h H locs ls hl hP hS
  obtain ⟨hx, hb, hml, hr, hown, hts, hK, hI, hlk, hsp, hnw, hf, hlo⟩ := hC
  obtain ⟨i, r, rfl, hi, h⟩ := h
  exact va_tlen hx hb (hsp.1.1 i hi).2.2.2 hS rfl hdg (h _ _ _ hl hP hS)
theorem sd_nret {ty : FieldType} (hret : M.2.2.2.1 = some ty) (hdg : decode M.2.1 pc = .ok (.ireturn, 1)) : Sound F M pc (t_nret ty) := by
  intro w p l e R s m args below meth c d Z C Q hC hM hZ L st τ h H locs ls hl hP hS
  obtain ⟨hx, hb, hml, hr, hown, hts, hK, hI, hlk, hsp, hnw, hf, hlo⟩ := hC
  obtain ⟨x, rfl, hz, h⟩ := h
  exact hZ _ _ _ (W.zret hx hb (hr.trans hret) hz (fun t ht hW => ⟨⟨some (.int x), τ, rfl, h, HW.of hP hK hI hsp hnw hS ht hW⟩, hS.F ht⟩) hS.2.2 hdg hlk)
theorem sd_scv {μ n idx : Nat} {Mc : MT} (hF : F μ = Mc) (hc : CalV Mc n) (hcc : Mc.1.cls = "java/lang/String") (hdg : decode M.2.1 pc = .ok (.invokevirtual idx, 3)) (hw : Cond.methodLink M.1.cls idx Mc.1 ∈ lw_good) : Sound F M pc (t_scv μ n (pc + 3)) := by
  intro w p l e R s m args below meth c d Z C Q hC hM hZ L st τ h H locs ls hl hP hS
  obtain ⟨hx, hb, hml, hr, hown, hts, hK, hI, hlk, hsp, hnw, hf, hlo⟩ := hC
  obtain ⟨i, as, r, rfl, hn, hcr, hi, h⟩ := h
  have hMet := hM μ _ _ _ h
  rw [hF] at hMet
  obtain ⟨c1, c2, c3, c4, c5, c6, c7, c8⟩ := hc
  refine hcall (rest := r.map (mv w.1)) (va_runV (As := as.map (mv w.1)) (b := w.1 (1000 + i)) (C := Mc.1.cls) (ws := wsU Mc) (rm := rmD d) (n := n) (index := idx) (own := M.1.cls) (Ts := lw_good) ⟨hx, hb, hml, hown, hts⟩ hMet
    (cwV n hts (lw_gi (fun x hx => ?_)) rfl rfl rfl ⟨rfl, c5, c6, c7⟩ ⟨hf, by show 8 + (Mc.2.2.1 + 11) + 60 * d ≤ R.locals; omega⟩)
    ⟨blindP w _ _, by rw [hcc]; exact vk_recv (i := i) hsp.1 hi hS, fun U hU hW => ⟨rfl, HW.of hP hK hI hsp hnw hS hU hW⟩⟩ rfl (by simpa using hn) hl.2.1 (by simp [List.map_append, List.map_reverse]; rfl) (lv_room (cts_le hcr)) hdg ⟨Nat.zero_le _, Nat.zero_le _⟩) hS (fun v τ' H1 locs1 hq hP1 hS1 => ?_)
  · simp only [wsV, List.mem_append, List.mem_cons, List.not_mem_nil, or_false] at hx
    rcases hx with (rfl | rfl | rfl | rfl) | hx
    · exact hw
    · exact c1
    · exact c2
    · exact c3
    · exact good_ws c4 x hx
  · have := hq H1 locs1 ls hl hP1 hS1
    rw [List.map_append] at this
    cases v <;> exact this
end STR
