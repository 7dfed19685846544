/-! THE START: what the tables and the premises give of it (made by a program) -/
theorem wi_0 : (.instantiable RX0 9 : Cond) ∈ lw_good := lw_mem (mm_1 (List.mem_of_getElem? (i := 204) (by decide +kernel))) (by decide +kernel)
theorem wi_1 : (.instantiable RX1 9 : Cond) ∈ lw_good := lw_mem (mm_1 (List.mem_of_getElem? (i := 73) (by decide +kernel))) (by decide +kernel)
theorem wi_2 : (.instantiable RX2 3 : Cond) ∈ lw_good := lw_mem (mm_1 (List.mem_of_getElem? (i := 116) (by decide +kernel))) (by decide +kernel)
theorem wi_3 : (.instantiable RX3 4 : Cond) ∈ lw_good := lw_mem (mm_2 (List.mem_of_getElem? (i := 16) (by decide +kernel))) (by decide +kernel)
theorem wi_4 : (.instantiable RX4 2 : Cond) ∈ lw_good := lw_mem (mm_1 (List.mem_of_getElem? (i := 58) (by decide +kernel))) (by decide +kernel)
theorem wi_5 : (.instantiable RX5 4 : Cond) ∈ lw_good := lw_mem (mm_1 (List.mem_of_getElem? (i := 136) (by decide +kernel))) (by decide +kernel)
theorem wi_6 : (.instantiable RX6 4 : Cond) ∈ lw_good := lw_mem (mm_1 (List.mem_of_getElem? (i := 36) (by decide +kernel))) (by decide +kernel)
theorem wi_7 : (.instantiable RX7 3 : Cond) ∈ lw_good := lw_mem (mm_1 (List.mem_of_getElem? (i := 185) (by decide +kernel))) (by decide +kernel)
theorem wi_8 : (.instantiable RX8 3 : Cond) ∈ lw_good := lw_mem (mm_1 (List.mem_of_getElem? (i := 155) (by decide +kernel))) (by decide +kernel)
theorem wi_9 : (.instantiable RX9 2 : Cond) ∈ lw_good := lw_mem (mm_1 (List.mem_of_getElem? (i := 172) (by decide +kernel))) (by decide +kernel)
theorem wi_10 : (.instantiable RX10 8 : Cond) ∈ lw_good := lw_mem (mm_2 (List.mem_of_getElem? (i := 10) (by decide +kernel))) (by decide +kernel)
theorem wi_11 : (.instantiable RX11 16 : Cond) ∈ lw_good := lw_mem (mm_1 (List.mem_of_getElem? (i := 28) (by decide +kernel))) (by decide +kernel)
theorem wi_12 : (.instantiable RX12 53 : Cond) ∈ lw_good := lw_mem (mm_5 (List.mem_of_getElem? (i := 177) (by decide +kernel))) (by decide +kernel)
theorem wa_13 : (.arrayClass .char : Cond) ∈ lw_good := lw_mem (mm_1 (List.mem_of_getElem? (i := 56) (by decide +kernel))) (by decide +kernel)
theorem wa_14 : (.arrayClass .int : Cond) ∈ lw_good := lw_mem (mm_1 (List.mem_of_getElem? (i := 114) (by decide +kernel))) (by decide +kernel)
theorem wa_15 : (.arrayClass .long : Cond) ∈ lw_good := lw_mem (mm_1 (List.mem_of_getElem? (i := 71) (by decide +kernel))) (by decide +kernel)
theorem wa_16 : (.arrayClass .boolean : Cond) ∈ lw_good := lw_mem (mm_6 (List.mem_of_getElem? (i := 102) (by decide +kernel))) (by decide +kernel)
theorem wt_ao : (.arrayOver (.object "OverTheHill$Moment") : Cond) ∈ lw_tbl := mm_1 (List.mem_of_getElem? (i := 122) (by decide +kernel))
theorem wn_11 : (.methodLink R_law 22 yX11_init : Cond) ∈ lw_good := lw_mem (mm_1 (List.mem_of_getElem? (i := 29) (by decide +kernel))) (by decide +kernel)
theorem wn_12 : (.methodLink R_law 25 yX12_init : Cond) ∈ lw_good := lw_mem (mm_5 (List.mem_of_getElem? (i := 178) (by decide +kernel))) (by decide +kernel)
theorem wo_11 : (.instanceMethod yX11_init : Cond) ∈ lw_good := lw_mem (mm_1 (List.mem_of_getElem? (i := 30) (by decide +kernel))) (by decide +kernel)
theorem wo_12 : (.instanceMethod yX12_init : Cond) ∈ lw_good := lw_mem (mm_5 (List.mem_of_getElem? (i := 179) (by decide +kernel))) (by decide +kernel)
theorem wk_11 : (.code yX11_init cX11_init 3 none : Cond) ∈ lw_good := lw_mem (mm_1 (List.mem_of_getElem? (i := 31) (rfl))) (by decide +kernel)
theorem wk_12 : (.code yX12_init cX12_init 1 none : Cond) ∈ lw_good := lw_mem (mm_5 (List.mem_of_getElem? (i := 180) (rfl))) (by decide +kernel)
theorem wz_11 : (.initialized RX11 : Cond) ∈ lw_good := lw_mem (mm_1 (List.mem_of_getElem? (i := 1) (by decide +kernel))) (by decide +kernel)
theorem wz_12 : (.initialized RX12 : Cond) ∈ lw_good := lw_mem (mm_1 (List.mem_of_getElem? (i := 14) (by decide +kernel))) (by decide +kernel)
theorem nest_in : ∀ a i x, (a, i, x) ∈ nestL → Cond.methodLinkNest a i x "OverTheHill" ∈ lw_tbl := by
  intro a i x h
  simp only [nestL, List.mem_cons, Prod.mk.injEq, List.not_mem_nil, or_false] at h
  rcases h with ⟨rfl, rfl, rfl⟩ | ⟨rfl, rfl, rfl⟩ | ⟨rfl, rfl, rfl⟩ | ⟨rfl, rfl, rfl⟩ | ⟨rfl, rfl, rfl⟩ | ⟨rfl, rfl, rfl⟩ | ⟨rfl, rfl, rfl⟩ | ⟨rfl, rfl, rfl⟩ | ⟨rfl, rfl, rfl⟩
  · exact mm_1 (List.mem_of_getElem? (i := 37) (by decide +kernel))
  · exact mm_1 (List.mem_of_getElem? (i := 59) (by decide +kernel))
  · exact mm_1 (List.mem_of_getElem? (i := 74) (by decide +kernel))
  · exact mm_1 (List.mem_of_getElem? (i := 123) (by decide +kernel))
  · exact mm_1 (List.mem_of_getElem? (i := 137) (by decide +kernel))
  · exact mm_1 (List.mem_of_getElem? (i := 156) (by decide +kernel))
  · exact mm_1 (List.mem_of_getElem? (i := 173) (by decide +kernel))
  · exact mm_1 (List.mem_of_getElem? (i := 186) (by decide +kernel))
  · exact mm_2 (List.mem_of_getElem? (i := 17) (by decide +kernel))
theorem nw1_in : Cond.methodLinkNest "OverTheHill$Pulls" 31 ⟨"OverTheHill", "pullBy", "(II)I"⟩ "OverTheHill" ∈ lw_tbl := mm_4 (List.mem_of_getElem? (i := 52) (by decide +kernel))
theorem nw2_in : Cond.methodLinkNest "OverTheHill$Ways" 125 ⟨"OverTheHill", "noiseOf", "(II)I"⟩ "OverTheHill" ∈ lw_tbl := mm_4 (List.mem_of_getElem? (i := 168) (by decide +kernel))
theorem sr_in : ∀ i, i < 6 → Cond.stringRef "OverTheHillModel" (sIx.getD i 0) (sTx.getD i "") ∈ lw_tbl := by
  intro i hi
  rcases (show i = 0 ∨ i = 1 ∨ i = 2 ∨ i = 3 ∨ i = 4 ∨ i = 5 by omega) with rfl | rfl | rfl | rfl | rfl | rfl
  · exact mm_6 (List.mem_of_getElem? (i := 127) (by decide +kernel))
  · exact mm_7 (List.mem_of_getElem? (i := 1) (by decide +kernel))
  · exact mm_7 (List.mem_of_getElem? (i := 6) (by decide +kernel))
  · exact mm_7 (List.mem_of_getElem? (i := 7) (by decide +kernel))
  · exact mm_7 (List.mem_of_getElem? (i := 8) (by decide +kernel))
  · exact mm_7 (List.mem_of_getElem? (i := 138) (by decide +kernel))
theorem sx_in : ∀ q ∈ nsS, Cond.stringRef RX11 q.1 q.2.1 ∈ lw_tbl := by
  intro q hq
  simp only [nsS, List.mem_cons, List.not_mem_nil, or_false] at hq
  rcases hq with rfl | rfl | rfl | rfl | rfl
  · exact mm_5 (List.mem_of_getElem? (i := 118) (by decide +kernel))
  · exact mm_5 (List.mem_of_getElem? (i := 145) (by decide +kernel))
  · exact mm_5 (List.mem_of_getElem? (i := 153) (by decide +kernel))
  · exact mm_5 (List.mem_of_getElem? (i := 154) (by decide +kernel))
  · exact mm_5 (List.mem_of_getElem? (i := 166) (by decide +kernel))
theorem ly_cs : Cond.laysStatic "java/lang/String" "COMPACT_STRINGS" "Z" ∈ lw_tbl := mm_6 (List.mem_of_getElem? (i := 141) (by decide +kernel))
theorem li_cs : Cond.initialized "java/lang/String" ∈ lw_tbl := mm_1 (List.mem_of_getElem? (i := 16) (by decide +kernel))
theorem ly_pf : Cond.laysStatic "jdk/internal/util/Preconditions" "SIOOBE_FORMATTER" "Ljava/util/function/BiFunction;" ∈ lw_tbl := mm_6 (List.mem_of_getElem? (i := 157) (by decide +kernel))
theorem li_pf : Cond.initialized "jdk/internal/util/Preconditions" ∈ lw_tbl := mm_1 (List.mem_of_getElem? (i := 18) (by decide +kernel))
theorem ly_us : Cond.laysStatic Bundle.tN "UNASSIGNED_STACK" Bundle.steD ∈ lw_tbl := mm_5 (List.mem_of_getElem? (i := 106) (by decide +kernel))
theorem ly_ss : Cond.laysStatic Bundle.tN "SUPPRESSED_SENTINEL" Bundle.listD ∈ lw_tbl := mm_5 (List.mem_of_getElem? (i := 108) (by decide +kernel))
theorem li_th : Cond.initialized Bundle.tN ∈ lw_tbl := mm_1 (List.mem_of_getElem? (i := 21) (by decide +kernel))
def flG : List Cond := flatC (Jvm.Cond.and given_1 narrow_1)
def tmM (i : Nat) : Term := .string "OverTheHillModel" (sIx.getD i 0)
theorem fl_ex : ∀ i, i < 6 → Cond.exactly (tmM i) "java/lang/String" ∈ flG := by decide +kernel
theorem fl_co : ∀ i, i < 6 → Cond.eq (.field (tmM i) "java/lang/String" "coder" "B") (.int 0) ∈ flG := by decide +kernel
theorem fl_ar : ∀ i, i < 6 → Cond.arrayOf (.field (tmM i) "java/lang/String" "value" "[B") .byte ∈ flG := by decide +kernel
theorem fl_le : ∀ i, i < 6 → Cond.eq (.length (.field (tmM i) "java/lang/String" "value" "[B")) (.int (Int32.ofNat (sLn.getD i 0))) ∈ flG := by decide +kernel
theorem fl_el : ∀ i, i < 6 → ∀ j, j < sLn.getD i 0 → Cond.eq (.elem (.field (tmM i) "java/lang/String" "value" "[B") (.int (Int32.ofNat j))) (.int ((sBy.getD i []).getD j 0)) ∈ flG := by decide +kernel
theorem fl_ne : ∀ i, i < 6 → ∀ j, j < 6 → i ≠ j → (Cond.not (Cond.eq (tmM i) (tmM j)) ∈ flG ∨ Cond.not (Cond.eq (tmM j) (tmM i)) ∈ flG) := by decide +kernel
theorem fl_x : ∀ q ∈ nsS, Cond.exactly (.string RX11 q.1) "java/lang/String" ∈ flG := by decide +kernel
theorem fl_cs : Cond.eq (.static "java/lang/String" "COMPACT_STRINGS" "Z") (.int 1) ∈ flG := by decide +kernel
theorem fl_pf : Cond.isRef (.static "jdk/internal/util/Preconditions" "SIOOBE_FORMATTER" "Ljava/util/function/BiFunction;") ∈ flG := by decide +kernel
theorem fl_us : Cond.isRef (.static Bundle.tN "UNASSIGNED_STACK" Bundle.steD) ∈ flG := by decide +kernel
theorem fl_ss : Cond.isRef (.static Bundle.tN "SUPPRESSED_SENTINEL" Bundle.listD) ∈ flG := by decide +kernel
theorem st_arr {s : State} {args : Array Value} {ty : FieldType} (hra : ∀ c, s.vm.findClass ("[" ++ ty.toString) = some c → va_RA s c ty) (h : (Cond.arrayClass ty).before args s = true) : ∃ c, ArrOfT s c ty ∧ va_RA s c ty := by
  obtain ⟨c, k, comp, h1, h2, h3⟩ := Cond.arrayClass_spec h
  exact ⟨c, fun n z => ⟨fun k h => (by cases h), k, h2, comp, h3⟩, hra c h1⟩
theorem st_obj {s : State} {C : String} (h : va_AO C s) : ∃ c, ArrOfT s c (.object C) ∧ va_RA s c (.object C) := by
  obtain ⟨comp, c, k, h1, h2, h3, h4, h5⟩ := Cond.arrayOver_spec h
  exact ⟨c, fun n z => ⟨fun k h => (by cases h), k, h3, comp, h4⟩, k, comp, h3, h4, h1, h5⟩
theorem st_K {s : State} {args : Array Value} (hts : ∀ w ∈ lw_good, w.before args s = true) (hao : va_AO "OverTheHill$Moment" s) : ∃ (dC : Nat → ClassId) (dI : Nat → Nat → Nat) (cA : Nat → ClassId), va_K (dC, dI) hcls (tysA cA) s := by
  have hc : ∀ c : Nat, ∃ p : ClassId × (Nat → Nat), ∀ q, hcls[c]? = some q → u_Kn s q.1 q.2.1 q.2.2 p.1 p.2 := by
    intro c
    match c with
    | 0 =>
      obtain ⟨x, y, h⟩ := u_known (C := RX0) (T := TX0) (N := 9) (n := 9) hts fk_0.2.2.1 (hts _ wi_0)
      exact ⟨(x, y), fun q hq => by cases hq; exact h⟩
    | 1 =>
      obtain ⟨x, y, h⟩ := u_known (C := RX1) (T := TX1) (N := 9) (n := 9) hts fk_1.2.2.1 (hts _ wi_1)
      exact ⟨(x, y), fun q hq => by cases hq; exact h⟩
    | 2 =>
      obtain ⟨x, y, h⟩ := u_known (C := RX2) (T := TX2) (N := 3) (n := 3) hts fk_2.2.2.1 (hts _ wi_2)
      exact ⟨(x, y), fun q hq => by cases hq; exact h⟩
    | 3 =>
      obtain ⟨x, y, h⟩ := u_known (C := RX3) (T := TX3) (N := 4) (n := 4) hts fk_3.2.2.1 (hts _ wi_3)
      exact ⟨(x, y), fun q hq => by cases hq; exact h⟩
    | 4 =>
      obtain ⟨x, y, h⟩ := u_known (C := RX4) (T := TX4) (N := 2) (n := 2) hts fk_4.2.2.1 (hts _ wi_4)
      exact ⟨(x, y), fun q hq => by cases hq; exact h⟩
    | 5 =>
      obtain ⟨x, y, h⟩ := u_known (C := RX5) (T := TX5) (N := 4) (n := 4) hts fk_5.2.2.1 (hts _ wi_5)
      exact ⟨(x, y), fun q hq => by cases hq; exact h⟩
    | 6 =>
      obtain ⟨x, y, h⟩ := u_known (C := RX6) (T := TX6) (N := 4) (n := 4) hts fk_6.2.2.1 (hts _ wi_6)
      exact ⟨(x, y), fun q hq => by cases hq; exact h⟩
    | 7 =>
      obtain ⟨x, y, h⟩ := u_known (C := RX7) (T := TX7) (N := 3) (n := 3) hts fk_7.2.2.1 (hts _ wi_7)
      exact ⟨(x, y), fun q hq => by cases hq; exact h⟩
    | 8 =>
      obtain ⟨x, y, h⟩ := u_known (C := RX8) (T := TX8) (N := 3) (n := 3) hts fk_8.2.2.1 (hts _ wi_8)
      exact ⟨(x, y), fun q hq => by cases hq; exact h⟩
    | 9 =>
      obtain ⟨x, y, h⟩ := u_known (C := RX9) (T := TX9) (N := 2) (n := 2) hts fk_9.2.2.1 (hts _ wi_9)
      exact ⟨(x, y), fun q hq => by cases hq; exact h⟩
    | 10 =>
      obtain ⟨x, y, h⟩ := u_known (C := RX10) (T := TX10) (N := 8) (n := 8) hts fk_10.2.2.1 (hts _ wi_10)
      exact ⟨(x, y), fun q hq => by cases hq; exact h⟩
    | 11 =>
      obtain ⟨x, y, h⟩ := u_known (C := RX11) (T := TX11) (N := 16) (n := 16) hts fk_11.2.2.1 (hts _ wi_11)
      exact ⟨(x, y), fun q hq => by cases hq; exact h⟩
    | 12 =>
      obtain ⟨x, y, h⟩ := u_known (C := RX12) (T := TX12) (N := 53) (n := 53) hts fk_12.2.2.1 (hts _ wi_12)
      exact ⟨(x, y), fun q hq => by cases hq; exact h⟩
    | k + 13 =>
      obtain ⟨x, y, h⟩ := u_known (C := RX0) (T := TX0) (N := 9) (n := 9) hts fk_0.2.2.1 (hts _ wi_0)
      exact ⟨(x, y), fun q hq => by simp [hcls] at hq⟩
  obtain ⟨f, hf⟩ := Classical.axiomOfChoice hc
  obtain ⟨c13, a13⟩ := st_arr (ty := .char) (fun c h => h) (hts _ wa_13)
  obtain ⟨c14, a14⟩ := st_arr (ty := .int) (fun c h => h) (hts _ wa_14)
  obtain ⟨c15, a15⟩ := st_arr (ty := .long) (fun c h => h) (hts _ wa_15)
  obtain ⟨c16, a16⟩ := st_arr (ty := .boolean) (fun c h => h) (hts _ wa_16)
  obtain ⟨c17, a17⟩ := st_obj hao
  refine ⟨fun c => (f c).1, fun c => (f c).2, fun k => bif Nat.beq k 13 then c13 else bif Nat.beq k 14 then c14 else bif Nat.beq k 15 then c15 else bif Nat.beq k 16 then c16 else c17, fun c q hq => hf c q hq, fun k q hk => ?_⟩
  match k, hk with
  | 0, hk => cases hk; exact a13
  | 1, hk => cases hk; exact a14
  | 2, hk => cases hk; exact a15
  | 3, hk => cases hk; exact a16
  | 4, hk => cases hk; exact a17
  | k + 5, hk => simp [tysA] at hk
theorem st_N {s : State} {args : Array Value} (ht : ∀ w ∈ lw_tbl, w.before args s = true) : NI s ∧ NW s :=
  ⟨⟨va_AO.of (ht _ wt_ao), fun a i x h => va_Nw.of rfl (ht _ (nest_in a i x h))⟩, va_Nw.of rfl (ht _ nw1_in), va_Nw.of rfl (ht _ nw2_in)⟩
def stT (fx : Nat → Nat) (s : State) : Prop :=
  ((∃ adK adV : Nat → Nat, (∀ i, i < 6 → adK i = fx (1000 + i) ∧ adV i = fx (2000 + i)) ∧ vk_S 6 sLn sBy adK adV (AL s) s s.heap) ∧ (∀ i, i < 6 → vk_R "OverTheHillModel" (sIx.getD i 0) (sTx.getD i "") (fx (1000 + i)) s) ∧ va_Z "java/lang/String" "COMPACT_STRINGS" "Z" (.int 1) (AL s) s s.heap ∧ (va_Z "jdk/internal/util/Preconditions" "SIOOBE_FORMATTER" "Ljava/util/function/BiFunction;" .null (AL s) s s.heap ∨ va_Z "jdk/internal/util/Preconditions" "SIOOBE_FORMATTER" "Ljava/util/function/BiFunction;" (.ref (fx 3000)) (AL s) s s.heap)) ∧
  (∀ q ∈ nsS, vk_R RX11 q.1 q.2.1 (fx q.2.2) s) ∧ vx_Zq Bundle.tN "UNASSIGNED_STACK" Bundle.steD (AL s) s s.heap ∧ vx_Zq Bundle.tN "SUPPRESSED_SENTINEL" Bundle.listD (AL s) s s.heap ∧ ∀ x ∈ nsBad, va_Nw x s
theorem st_x {s : State} {args : Array Value} (ht : ∀ w ∈ lw_tbl, w.before args s = true) (hs : ∀ w ∈ flG, w.before args s = true) {q : Nat × String × Nat} (hq : q ∈ nsS) : ∃ a, vk_R RX11 q.1 q.2.1 a s := by
  obtain ⟨a, c, cA, kA, q1, -⟩ := Cond.exactly_spec (args := args) (first := s) (o := none) (s := s) (idx := []) (t := .string RX11 q.1) (cls := "java/lang/String") (hs _ (fl_x q hq))
  exact ⟨a, vk_R.of (ht _ (sx_in q hq)) q1⟩
theorem st_T {s : State} {args : Array Value} (ht : ∀ w ∈ lw_tbl, w.before args s = true) (hs : ∀ w ∈ flG, w.before args s = true) : ∃ fx, stT fx s := by
  have hA : ∀ a : Nat, a < s.heap.size → ¬ AL s a := fun a h z => absurd h (Nat.not_lt.mpr z)
  obtain ⟨adK, adV, hS, hE⟩ := vk_Sof (N := 6) (tm := tmM) (len := sLn) (byt := sBy) (A := AL s) (s := s) (args := args) (by decide) (fun i hi => hs _ (fl_ex i hi)) (fun i hi => hs _ (fl_co i hi)) (fun i hi => hs _ (fl_ar i hi)) (fun i hi => hs _ (fl_le i hi)) (fun i hi j hj => hs _ (fl_el i hi j hj)) (fun i j hi hj hn => (fl_ne i hi j hj hn).elim (fun z => Or.inl (hs _ z)) (fun z => Or.inr (hs _ z))) hA
  obtain ⟨a0, x0⟩ := st_x ht hs (q := (188, "no such field", 4000)) (by decide)
  obtain ⟨a1, x1⟩ := st_x ht hs (q := (202, "a field is not asked so", 4001)) (by decide)
  obtain ⟨a2, x2⟩ := st_x ht hs (q := (207, "no such ship", 4002)) (by decide)
  obtain ⟨a3, x3⟩ := st_x ht hs (q := (218, "a ship is not asked so", 4003)) (by decide)
  obtain ⟨a4, x4⟩ := st_x ht hs (q := (488, "the row has no such number", 4004)) (by decide)
  have hpf : ∃ t : Nat, va_Z "jdk/internal/util/Preconditions" "SIOOBE_FORMATTER" "Ljava/util/function/BiFunction;" .null (AL s) s s.heap ∨ va_Z "jdk/internal/util/Preconditions" "SIOOBE_FORMATTER" "Ljava/util/function/BiFunction;" (.ref t) (AL s) s s.heap := by
    rcases va_Zqof (A := AL s) (ht _ ly_pf) (ht _ li_pf) (hs _ fl_pf) hA with h | ⟨t, h⟩
    · exact ⟨0, Or.inl h⟩
    · exact ⟨t, Or.inr h⟩
  obtain ⟨tf, hpf⟩ := hpf
  obtain ⟨fx, f1, f2, f3, f4⟩ : ∃ fx : Nat → Nat, (∀ i, i < 6 → fx (1000 + i) = adK i) ∧ (∀ i, i < 6 → fx (2000 + i) = adV i) ∧ fx 3000 = tf ∧ (fx 4000 = a0 ∧ fx 4001 = a1 ∧ fx 4002 = a2 ∧ fx 4003 = a3 ∧ fx 4004 = a4) := by
    refine ⟨fun k => if k = 3000 then tf else if k = 4000 then a0 else if k = 4001 then a1 else if k = 4002 then a2 else if k = 4003 then a3 else if k = 4004 then a4 else if 2000 ≤ k then adV (k - 2000) else adK (k - 1000), fun i hi => ?_, fun i hi => ?_, rfl, rfl, rfl, rfl, rfl, rfl⟩
    · show (if 1000 + i = 3000 then tf else _) = _
      rw [if_neg (by omega), if_neg (by omega), if_neg (by omega), if_neg (by omega), if_neg (by omega), if_neg (by omega), if_neg (by omega), show 1000 + i - 1000 = i by omega]
    · show (if 2000 + i = 3000 then tf else _) = _
      rw [if_neg (by omega), if_neg (by omega), if_neg (by omega), if_neg (by omega), if_neg (by omega), if_neg (by omega), if_pos (by omega), show 2000 + i - 2000 = i by omega]
  obtain ⟨g0, g1, g2, g3, g4⟩ := f4
  refine ⟨fx, ⟨⟨adK, adV, fun i hi => ⟨(f1 i hi).symm, (f2 i hi).symm⟩, hS⟩, fun i hi => ?_, va_Zof (ht _ ly_cs) (ht _ li_cs) (va_eqi (hs _ fl_cs)) hA, ?_⟩, fun q hq => ?_, vx_Zqof (ht _ ly_us) (ht _ li_th) (hs _ fl_us) hA, vx_Zqof (ht _ ly_ss) (ht _ li_th) (hs _ fl_ss) hA, fun x hx => va_Nw.of (ns_on x hx) (ht _ (nsBad_in x hx))⟩
  · rw [f1 i hi]
    exact vk_R.of (ht _ (sr_in i hi)) (hE i hi)
  · rw [f3]
    exact hpf
  · simp only [nsS, List.mem_cons, List.not_mem_nil, or_false] at hq
    rcases hq with rfl | rfl | rfl | rfl | rfl
    · show vk_R RX11 188 _ (fx 4000) s
      rw [g0]; exact x0
    · show vk_R RX11 202 _ (fx 4001) s
      rw [g1]; exact x1
    · show vk_R RX11 207 _ (fx 4002) s
      rw [g2]; exact x2
    · show vk_R RX11 218 _ (fx 4003) s
      rw [g3]; exact x3
    · show vk_R RX11 488 _ (fx 4004) s
      rw [g4]; exact x4
theorem vk_Scg {N : Nat} {len : List Nat} {byt : List (List Int32)} {a1 a2 b1 b2 : Nat → Nat} {A : Nat → Prop} {U : State} {H : Heap} (h : vk_S N len byt a1 a2 A U H) (e : ∀ i, i < N → a1 i = b1 i ∧ a2 i = b2 i) : vk_S N len byt b1 b2 A U H := by
  refine ⟨fun i hi => ?_, fun i j hi hj q => ?_⟩
  · have := h.1 i hi
    rw [(e i hi).1, (e i hi).2] at this
    exact this
  · rw [← (e i hi).1, ← (e j hj).1] at q
    exact h.2 i j hi hj q
theorem nsS_ge : ∀ q ∈ nsS, 102 ≤ q.2.2 := by decide
theorem st_SX {s : State} {fx : Nat → Nat} {vs : List Nat} {x : Nat → Nat} {D : va_G} {cA : Nat → ClassId} (h : stT fx s) (hAL : ∀ q, adA (adOf vs fx) q → AL s q) : SP (adOf vs fx, x, D, cA) s ∧ XW (adOf vs fx, x, D, cA) s := by
  obtain ⟨⟨⟨adK, adV, hk, h1⟩, h2, h3, h4⟩, x1, x2, x3, x4⟩ := h
  refine ⟨⟨?_, fun i hi => ?_, h3.narrow hAL, ?_⟩, fun q hq => ?_, x2.narrow hAL, x3.narrow hAL, x4⟩
  · refine vk_Scg (h1.narrow hAL) (fun i hi => ⟨?_, ?_⟩)
    · show adK i = adOf vs fx (1000 + i)
      rw [adOf_hi (by omega)]
      exact (hk i hi).1
    · show adV i = adOf vs fx (2000 + i)
      rw [adOf_hi (by omega)]
      exact (hk i hi).2
  · show vk_R _ _ _ (adOf vs fx (1000 + i)) s
    rw [adOf_hi (by omega)]
    exact h2 i hi
  · rcases h4 with h4 | h4
    · exact Or.inl (h4.narrow hAL)
    · refine Or.inr ?_
      show va_Z _ _ _ (.ref (adOf vs fx 3000)) _ _ _
      rw [adOf_hi (by omega)]
      exact h4.narrow hAL
  · show vk_R _ _ _ (adOf vs fx q.2.2) s
    rw [adOf_hi (nsS_ge q hq)]
    exact x1 q hq
theorem d_law_0 : decode code 0 = .ok (.new 8, 3) := by decide +kernel
theorem d_law_3 : decode code 3 = .ok (.dup, 1) := by decide +kernel
theorem d_law_4 : decode code 4 = .ok (.invokespecial 22, 3) := by decide +kernel
theorem d_law_7 : decode code 7 = .ok (.astore_n 1, 1) := by decide +kernel
theorem d_law_8 : decode code 8 = .ok (.new 23, 3) := by decide +kernel
theorem d_law_11 : decode code 11 = .ok (.dup, 1) := by decide +kernel
theorem d_law_12 : decode code 12 = .ok (.invokespecial 25, 3) := by decide +kernel
theorem d_law_15 : decode code 15 = .ok (.astore_n 2, 1) := by decide +kernel
theorem d_law_16 : decode code 16 = .ok (.iconst 1, 1) := by decide +kernel
theorem d_law_17 : decode code 17 = .ok (.newarray .long, 2) := by decide +kernel
theorem d_law_19 : decode code 19 = .ok (.astore_n 3, 1) := by decide +kernel
theorem d_law_20 : decode code 20 = .ok (.iconst 0, 1) := by decide +kernel
theorem d_law_21 : decode code 21 = .ok (.istore 4, 2) := by decide +kernel
