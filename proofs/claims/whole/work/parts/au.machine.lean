/-! THE LAW ON THE MACHINE: what holds on its way, its pushes, its calls -/
def AL (s : State) : Nat → Prop := fun q => s.heap.size ≤ q
def LwS (w : WP) (s : State) (τ : St) (H : Heap) : Prop := va_P w.2.2.1 hcls (eW w.1 w.2.2.2 τ) H ∧ va_S (AL s) s.heap H []
def LwC (w : WP) (p : Program) (s : State) (m : MethodId) (meth : Method) (c : Code) (b L : Nat) (xs : Nat → Int32) : Prop :=
  lw_At p s m meth c b L xs ∧ L ≤ 2560 ∧ va_K w.2.2.1 hcls (tysA w.2.2.2) s ∧ Inj w.1 ∧ SP w s ∧ NW s ∧ (∀ q, adA w.1 q → AL s q)
def LwV (w : WP) (b : Nat) (x : Int32) (ls : Array Slot) : Prop := lv_has ls 8 [(4, .int x), (3, .ref (w.1 101)), (2, .ref (w.1 69)), (1, .ref (w.1 0)), (0, .ref b)]
theorem AL_S {w : WP} {s : State} {H : Heap} (hA : ∀ q, adA w.1 q → AL s q) (h : va_S (AL s) s.heap H []) : va_S (adA w.1) s.heap H [] :=
  ⟨h.1, fun q h1 h2 => h.2.1 q h1 (fun z => absurd h1 (Nat.not_lt.mpr z)), fun q hq => absurd hq List.not_mem_nil⟩
theorem lw_goodT {w : Cond} (h : w ∈ lw_good) : w ∈ lw_tbl := (List.mem_filter.mp h).1
abbrev pA (pc k : Nat) : Prop := decode code pc = .ok (.aload_n 0, 1) ∧ decode code (pc + 1) = .ok (.iload 4, 2) ∧ decode code (pc + 3) = .ok (.iconst (k : Int), 1) ∧ decode code (pc + 4) = .ok (.iadd, 1) ∧ decode code (pc + 5) = .ok (.iaload, 1)
def ag (xs : Nat → Int32) (i : Nat) : Nat → Nat → List Value
  | 0, _ => []
  | n + 1, k => .int (xs (i + (k + 1))) :: ag xs i n (k + 1)
theorem ag_mv (ad : Nat → Nat) (xs : Nat → Int32) (i : Nat) : ∀ n k, (ag xs i n k).map (mv ad) = ag xs i n k
  | 0, _ => rfl
  | n + 1, k => by rw [ag, List.map_cons, ag_mv ad xs i n (k + 1)]; rfl
theorem ag_len (xs : Nat → Int32) (i : Nat) : ∀ n k, (ag xs i n k).length = n
  | 0, _ => rfl
  | n + 1, k => by rw [ag, List.length_cons, ag_len xs i n (k + 1)]
section LAW
variable {w : WP} {p : Program} {l : Launch} {e : Env} {s : State} {m : MethodId} {below : List Frame} {meth : Method} {c : Code} {b L : Nat} {xs : Nat → Int32} {τ : St} {H : Heap} {cells slots : Nat} {Z : State → Prop} {ls : Array Slot}
theorem lpush (hC : LwC w p s m meth c b L xs) (hS : va_S (AL s) s.heap H []) {i : Nat} (hv : LwV w b (nI i) ls) (hi : i + 5 ≤ L) : ∀ (n k pc : Nat) (rest : List Value), k + n ≤ 4 → (∀ j, j < n → pA (pc + 6 * j) (k + j + 1)) →
    W p l e room_1 s m #[Value.ref b] below meth c H [] cells slots Z (F0 m (pc + 6 * n) ls ((ag xs i n k).reverse ++ rest)) → W p l e room_1 s m #[Value.ref b] below meth c H [] cells slots Z (F0 m pc ls rest) := by
  obtain ⟨⟨hx, hb, hr, hml, hown, hts, hX, hbl, hlocks, hgv⟩, hLL, -⟩ := hC
  have hbA : ¬ AL s b := Nat.not_le.mpr hbl
  intro n
  induction n with
  | zero =>
    intro k pc rest _ _ kk
    exact kk
  | succ n ih =>
    intro k pc rest hk hd kk
    obtain ⟨d1, d2, d3, d4, d5⟩ := hd 0 (by omega)
    simp only [Nat.mul_zero, Nat.add_zero] at d1 d2 d3 d4 d5
    refine lv_aload_n hx hb d1 rfl (lv_at hv 4 rfl) ?_
    refine lv_iload hx hb d2 (lv_at hv 0 rfl) ?_
    refine lv_iconst (v := nI (k + 1)) hx hb d3 rfl ?_
    refine lv_iadd hx hb d4 ?_
    rw [nI_add]
    refine va_sld hx hb hX hbl hbA hS (vp_in_nI (n := i + (k + 1)) (by omega) (by omega)) d5 ?_
    rw [nI_clamp (show i + (k + 1) < 2 ^ 31 by omega)]
    refine ih (k + 1) (pc + 6) _ (by omega) (fun j hj => ?_) ?_
    · have := hd (j + 1) (by omega)
      rw [show pc + 6 + 6 * j = pc + 6 * (j + 1) by omega, show k + 1 + j + 1 = k + (j + 1) + 1 by omega]
      exact this
    · rw [ag, List.reverse_cons, List.append_assoc] at kk
      rw [show pc + 6 + 6 * n = pc + 6 * (n + 1) by omega]
      exact kk
/-- a call of a method of the class or of the reference -/
theorem lcv (hC : LwC w p s m meth c b L xs) (hL : LwS w s τ H) {μ n ci k idx pc : Nat} {Mc : MT} {CC : String} {T0 : u_T} {as rest : List Value} {Q' : Qt} (hF : mtb μ = Mc) (hc : CalV Mc n) (fk : FK ci CC T0) (hcc : Mc.1.cls = CC) (hk : isA ci k) (hdg : decode code pc = .ok (.invokevirtual idx, 3)) (hw : Cond.methodLink R_law idx Mc.1 ∈ lw_good)
    (hn : as.length = n) (hm : as.map (mv w.1) = as) (hrc : (rest.map fun v => v.category).sum ≤ 8) (hz : ls.size = 8) (hcs : cells ≤ 601024 ∧ slots ≤ 7293034) (h : Cl 900 μ (.ref k :: as) τ Q')
    (kk : ∀ (v : Option Value) (τ' : St) (H1 : Heap), Q' v τ' → LwS w s τ' H1 → W p l e room_1 s m #[Value.ref b] below meth c H1 [] cells slots Z (F0 m (pc + 3) ls ((v.map (mv w.1)).toList ++ rest))) :
    W p l e room_1 s m #[Value.ref b] below meth c H [] cells slots Z (F0 m pc ls (as.reverse ++ .ref (w.1 k) :: rest)) := by
  obtain ⟨⟨hx, hb, hr, hml, hown, hts, hX, hbl, hlocks, hgv⟩, hLL, hK, hI, hsp, hnw, hA⟩ := hC
  obtain ⟨hP, hS⟩ := hL
  have hMet := Cl_met l w h
  rw [hF] at hMet
  obtain ⟨c1, c2, c3, c4, c5, c6, c7, c8⟩ := hc
  subst hcc
  have hci := fk.2.1
  obtain ⟨hk0, hs0⟩ := hk
  intro T hT X
  have hr := va_runV (As := as.map (mv w.1)) (b := w.1 k) (rest := rest) (H := H) (locs := []) (cells := cells) (slots := slots) (R := room_1) (e := e) (below := below) (meth := meth) (g := F0 m pc ls (as.reverse ++ .ref (w.1 k) :: rest)) (C := Mc.1.cls) (ws := wsU Mc) (rm := rmD 900) (n := n) (index := idx) (own := R_law) (Ts := lw_good) ⟨hx, hb, hml, hown, fun w hw => hts w (lw_goodT hw)⟩ hMet
    (cwV n (fun w hw => hts w (lw_goodT hw)) (lw_gi (fun x hx => by
      simp only [wsV, List.mem_append, List.mem_cons, List.not_mem_nil, or_false] at hx
      rcases hx with (rfl | rfl | rfl | rfl) | hx
      · exact hw
      · exact c1
      · exact c2
      · exact c3
      · exact good_ws c4 x hx)) rfl rfl rfl ⟨rfl, c5, c6, c7⟩ ⟨by decide, by show 8 + (Mc.2.2.1 + 11) + 60 * 900 ≤ 84000; omega⟩)
    ⟨blindP w _ _, va_recv hK hP hci (eW_obj hk0 hs0 fk.1), fun U hU hW => ⟨rfl, HW.of hP hK hI hsp hnw (AL_S hA hS) hU hW⟩⟩ rfl (by simpa using hn) hz (by rw [hm]) (lv_room hrc) hdg ⟨hcs.1, hcs.2⟩ T hT X
  obtain ⟨v, st₀, t, T', L1, h0, X', hL1, e1, e2, ⟨⟨v', τ', hv, hq, hw'⟩, hz', hk'⟩, st⟩ := hr
  cases hv
  rw [h0] at hz' hk'
  have hS1 : va_S (AL s) s.heap T'.heap [] := ⟨Nat.le_trans hS.1 (by rw [e1]; exact hz'), fun q h1 h2 => by rw [e1, hk' q (Nat.lt_of_lt_of_le h1 hS.1) (fun z => h2 (hA q z))]; exact hS.2.1 q h1 h2, fun q hq => absurd hq List.not_mem_nil⟩
  have K := va_forget (locs := [] ++ L1) (fun q hq => by rw [List.nil_append] at hq; exact hA _ (hL1 q hq)) (kk v' τ' T'.heap hq ⟨by rw [e1]; exact hw'.1, hS1⟩)
  obtain ⟨t2, a1, b1⟩ := K T' rfl X'
  exact ⟨t2, st t2 a1, b1⟩
end LAW
