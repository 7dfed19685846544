/-! CALLS AND ENDS of the abstract machine, done by the machine -/
theorem hcall {w : WP} {Q' : Qt} {p : Program} {l : Launch} {e : Env} {R : Room} {s : State} {m : MethodId} {args : Array Value} {below : List Frame} {meth : Method} {c : Code} {H : Heap} {locs : List Loc} {Z : State → Prop} {pc : Nat} {ls : Array Slot} {st0 rest : List Value} {a : Array Value} {H0 : Heap}
    (hr : va_Run p l e R s m args below meth c H locs 0 0 0 0 (F0 m pc ls st0) rest (pPost w Q' a) (adA w.1)) (hS : va_S (adA w.1) H0 H locs)
    (kk : ∀ (v : Option Value) (τ' : St) (H1 : Heap) (locs1 : List Loc), Q' v τ' → va_P w.2.2.1 hcls (eW w.1 w.2.2.2 τ') H1 → va_S (adA w.1) H0 H1 locs1 → W p l e R s m args below meth c H1 locs1 0 0 Z (F0 m (pc + 3) ls ((v.map (mv w.1)).toList ++ rest))) : W p l e R s m args below meth c H locs 0 0 Z (F0 m pc ls st0) := by
  intro T hT X
  obtain ⟨v, st₀, t, T', L, h0, X', hL, e1, e2, ⟨⟨v', τ', hv, hq, hw⟩, hz, hk⟩, st⟩ := hr T hT X
  cases hv
  rw [h0] at hz hk
  obtain ⟨t2, a1, b1⟩ := kk v' τ' T'.heap (locs ++ L) hq (by rw [e1]; exact hw.1)
    ⟨Nat.le_trans hS.1 (by rw [e1]; exact hz), fun q h1 h2 => by rw [e1, hk q (Nat.lt_of_lt_of_le h1 hS.1) h2]; exact hS.2.1 q h1 h2, fun q hq => by
      rcases List.mem_append.mp hq with h | h
      · exact hS.2.2 q h
      · exact hL q h⟩ T' rfl X'
  exact ⟨t2, st t2 a1, b1⟩
theorem cts_le {ad : Nat → Nat} {r : List Value} (h : ctsB r = true) : ((r.map (mv ad)).map fun v => v.category).sum ≤ 8 := by
  rw [mv_cats]
  exact Nat.le_of_ble_eq_true h
/-- what a caller needs of a callee -/
def CalV (M : MT) (n : Nat) : Prop := Cond.instanceMethod M.1 ∈ lw_good ∧ Cond.selects M.1.cls M.1 M.1 ∈ lw_good ∧ Cond.initialized M.1.cls ∈ lw_good ∧ Cond.code M.1 M.2.1 M.2.2.1 M.2.2.2.1 ∈ lw_good ∧ M.1.cls ≠ "java/lang/invoke/MethodHandle" ∧ M.1.cls ≠ "java/lang/invoke/VarHandle" ∧ (parseMethodDescriptor M.1.desc).map (fun d => d.parameters.length) = some n ∧ M.2.2.1 ≤ 40
def CalS (M : MT) (n : Nat) : Prop := Cond.static M.1 ∈ lw_good ∧ Cond.initialized M.1.cls ∈ lw_good ∧ Cond.code M.1 M.2.1 M.2.2.1 M.2.2.2.1 ∈ lw_good ∧ M.1.cls ≠ "java/lang/invoke/MethodHandle" ∧ M.1.cls ≠ "java/lang/invoke/VarHandle" ∧ (parseMethodDescriptor M.1.desc).map (fun d => d.parameters.length) = some n ∧ M.2.2.1 ≤ 40
theorem good_ws {M : MT} (h : Cond.code M.1 M.2.1 M.2.2.1 M.2.2.2.1 ∈ lw_good) : ∀ x ∈ wsU M, x ∈ lw_good := fun x hx => (List.mem_cons.mp hx).elim (fun z => by rw [z]; exact h) id
section CLL
variable {F : Nat → MT} {M : MT} {pc : Nat}
theorem sd_cv {μ n ci idx : Nat} {Mc : MT} {CC : String} {T : u_T} (hF : F μ = Mc) (hc : CalV Mc n) (fk : FK ci CC T) (hcc : Mc.1.cls = CC) (hdg : decode M.2.1 pc = .ok (.invokevirtual idx, 3)) (hw : Cond.methodLink M.1.cls idx Mc.1 ∈ lw_good) : Sound F M pc (t_cv μ n ci (pc + 3)) := by
  intro w p l e R s m args below meth c d Z C Q hC hM hZ L st τ h H locs ls hl hP hS
  obtain ⟨hx, hb, hml, hr, hown, hts, hK, hI, hlk, hsp, hnw, hf, hlo⟩ := hC
  obtain ⟨k, as, r, rfl, hn, hcr, ⟨hk, hs⟩, h⟩ := h
  have hMet := hM μ _ _ _ h
  rw [hF] at hMet
  obtain ⟨c1, c2, c3, c4, c5, c6, c7, c8⟩ := hc
  subst hcc
  have hci := fk.2.1
  refine hcall (rest := r.map (mv w.1)) (va_runV (As := as.map (mv w.1)) (b := w.1 k) (C := Mc.1.cls) (ws := wsU Mc) (rm := rmD d) (n := n) (index := idx) (own := M.1.cls) (Ts := lw_good) ⟨hx, hb, hml, hown, hts⟩ hMet
    (cwV n hts (lw_gi (fun x hx => ?_)) rfl rfl rfl ⟨rfl, c5, c6, c7⟩ ⟨hf, by show 8 + (Mc.2.2.1 + 11) + 60 * d ≤ R.locals; omega⟩)
    ⟨blindP w _ _, va_recv hK hP hci (eW_obj hk hs fk.1), fun U hU hW => ⟨rfl, HW.of hP hK hI hsp hnw hS hU hW⟩⟩ rfl (by simpa using hn) hl.2.1 (by simp [List.map_append, List.map_reverse]; rfl) (lv_room (cts_le hcr)) hdg ⟨Nat.zero_le _, Nat.zero_le _⟩) hS (fun v τ' H1 locs1 hq hP1 hS1 => ?_)
  · simp only [wsV, List.mem_append, List.mem_cons, List.not_mem_nil, or_false] at hx
    rcases hx with (rfl | rfl | rfl | rfl) | hx
    · exact hw
    · exact c1
    · exact c2
    · exact c3
    · exact good_ws c4 x hx
  · have := hq H1 locs1 ls hl hP1 hS1
    rw [List.map_append] at this
    cases v <;> exact this
theorem sd_cs {μ n idx : Nat} {Mc : MT} (hF : F μ = Mc) (hc : CalS Mc n) (hdg : decode M.2.1 pc = .ok (.invokestatic idx, 3)) (hw : Cond.methodLink M.1.cls idx Mc.1 ∈ lw_good) : Sound F M pc (t_cs μ n (pc + 3)) := by
  intro w p l e R s m args below meth c d Z C Q hC hM hZ L st τ h H locs ls hl hP hS
  obtain ⟨hx, hb, hml, hr, hown, hts, hK, hI, hlk, hsp, hnw, hf, hlo⟩ := hC
  obtain ⟨as, r, rfl, hn, hcr, h⟩ := h
  have hMet := hM μ _ _ _ h
  rw [hF] at hMet
  obtain ⟨c1, c3, c4, c5, c6, c7, c8⟩ := hc
  refine hcall (rest := r.map (mv w.1)) (va_runS (As := as.map (mv w.1)) (ws := wsU Mc) (rm := rmD d) (n := n) (index := idx) (own := M.1.cls) (Ts := lw_good) ⟨hx, hb, hml, hown, hts⟩ hMet
    (va_cwS n hts (lw_gi (fun x hx => ?_)) rfl rfl rfl ⟨c5, c6, c7⟩ ⟨hf, by show 8 + (Mc.2.2.1 + 11) + 60 * d ≤ R.locals; omega⟩)
    ⟨blindP w _ _, fun U hU hW => ⟨rfl, HW.of hP hK hI hsp hnw hS hU hW⟩⟩ rfl (by simpa using hn) hl.2.1 (by simp [List.map_append, List.map_reverse]) (lv_room (cts_le hcr)) hdg ⟨Nat.zero_le _, Nat.zero_le _⟩) hS (fun v τ' H1 locs1 hq hP1 hS1 => ?_)
  · simp only [va_wsS, List.mem_append, List.mem_cons, List.not_mem_nil, or_false] at hx
    rcases hx with (rfl | rfl | rfl) | hx
    · exact hw
    · exact c1
    · exact c3
    · exact good_ws c4 x hx
  · have := hq H1 locs1 ls hl hP1 hS1
    rw [List.map_append] at this
    cases v <;> exact this
/-- a nest mate's private static -/
theorem sd_csN {μ n idx : Nat} {host : String} {Mc : MT} (hF : F μ = Mc) (hc : CalS Mc n) (hdg : decode M.2.1 pc = .ok (.invokestatic idx, 3)) (hw : ∀ s, NW s → va_Nw (.methodLinkNest M.1.cls idx Mc.1 host) s) : Sound F M pc (t_cs μ n (pc + 3)) := by
  intro w p l e R s m args below meth c d Z C Q hC hM hZ L st τ h H locs ls hl hP hS
  obtain ⟨hx, hb, hml, hr, hown, hts, hK, hI, hlk, hsp, hnw, hf, hlo⟩ := hC
  obtain ⟨as, r, rfl, hn, hcr, h⟩ := h
  have hMet := hM μ _ _ _ h
  rw [hF] at hMet
  obtain ⟨c1, c3, c4, c5, c6, c7, c8⟩ := hc
  refine hcall (rest := r.map (mv w.1)) (va_runSN (As := as.map (mv w.1)) (ws := wsU Mc) (rm := rmD d) (n := n) (index := idx) (own := M.1.cls) (host := host) (Ts := lw_good) ⟨hx, hb, hml, hown, hts⟩ hMet
    ⟨va_cnB n hts (lw_gi (good_ws c4)) rfl rfl rfl (hw s hnw) (hts _ c3) ⟨c5, c6, c7⟩ ⟨hf, by show 8 + (Mc.2.2.1 + 11) + 60 * d ≤ R.locals; omega⟩, hts _ c1, trivial⟩
    ⟨blindP w _ _, fun U hU hW => ⟨rfl, HW.of hP hK hI hsp hnw hS hU hW⟩⟩ rfl (by simpa using hn) hl.2.1 (by simp [List.map_append, List.map_reverse]) (lv_room (cts_le hcr)) hdg ⟨Nat.zero_le _, Nat.zero_le _⟩) hS (fun v τ' H1 locs1 hq hP1 hS1 => ?_)
  have := hq H1 locs1 ls hl hP1 hS1
  rw [List.map_append] at this
  cases v <;> exact this
theorem sd_mmax {idx : Nat} (h1 : Cond.methodLink M.1.cls idx Lib.Math.max.name ∈ lw_good) (h2 : Cond.static Lib.Math.max.name ∈ lw_good) (h3 : Cond.initialized "java/lang/Math" ∈ lw_good) (h4 : Cond.code Lib.Math.max.name Lib.Math.max.code 2 (some .int) ∈ lw_good) (hdg : decode M.2.1 pc = .ok (.invokestatic idx, 3)) : Sound F M pc (t_mm (fun x y => if x < y then y else x) (pc + 3)) := by
  intro w p l e R s m args below meth c d Z C Q hC hM hZ L st τ h H locs ls hl hP hS
  obtain ⟨hx, hb, hml, hr, hown, hts, hK, hI, hlk, hsp, hnw, hf, hlo⟩ := hC
  obtain ⟨x, y, r, rfl, hcr, h⟩ := h
  have hq := cts_le (ad := w.1) hcr
  exact va_mmax hx hb (by rw [hml, hl.2.1]) hown (hts _ h1) (hts _ h2) (hts _ h3) (hts _ h4) (by omega) (by omega) (Nat.zero_le _) (Nat.zero_le _) hdg (h _ _ _ hl hP hS)
theorem sd_mmin {idx : Nat} (h1 : Cond.methodLink M.1.cls idx Lib.Math.min.name ∈ lw_good) (h2 : Cond.static Lib.Math.min.name ∈ lw_good) (h3 : Cond.initialized "java/lang/Math" ∈ lw_good) (h4 : Cond.code Lib.Math.min.name Lib.Math.min.code 2 (some .int) ∈ lw_good) (hdg : decode M.2.1 pc = .ok (.invokestatic idx, 3)) : Sound F M pc (t_mm (fun x y => if y < x then y else x) (pc + 3)) := by
  intro w p l e R s m args below meth c d Z C Q hC hM hZ L st τ h H locs ls hl hP hS
  obtain ⟨hx, hb, hml, hr, hown, hts, hK, hI, hlk, hsp, hnw, hf, hlo⟩ := hC
  obtain ⟨x, y, r, rfl, hcr, h⟩ := h
  have hq := cts_le (ad := w.1) hcr
  exact va_mmin hx hb (by rw [hml, hl.2.1]) hown (hts _ h1) (hts _ h2) (hts _ h3) (hts _ h4) (by omega) (by omega) (Nat.zero_le _) (Nat.zero_le _) hdg (h _ _ _ hl hP hS)
theorem eW_cpy {ad : Nat → Nat} {cA : Nat → ClassId} {τ : St} {k : Nat} {f : Nat → Int32} (hs : shp k = 14) : (eW ad cA τ).set k (ad k, .inl (cA 14, len k, .inl f)) = eW ad cA (sA τ k f) := by
  refine eW_set ?_ (fun a ha => ec_same (fun b => by simp [sA, ha]) (fun _ => rfl))
  have h1 : ¬ shp k < 13 := by omega
  unfold ec
  rw [if_neg h1, pay_i (by omega) (by omega), hs]
  congr 3
  congr 1
  funext b
  simp [sA]
theorem sd_cpy {idx : Nat} (h1 : Cond.methodLink M.1.cls idx arraycopyName ∈ lw_good) (h2 : Cond.native arraycopyName ∈ lw_good) (h3 : Cond.static arraycopyName ∈ lw_good) (h4 : Cond.initialized "java/lang/System" ∈ lw_good) (hdg : decode M.2.1 pc = .ok (.invokestatic idx, 3)) : Sound F M pc (t_cpy (pc + 3)) := by
  intro w p l e R s m args below meth c d Z C Q hC hM hZ L st τ h H locs ls hl hP hS
  obtain ⟨hx, hb, hml, hr, hown, hts, hK, hI, hlk, hsp, hnw, hf, hlo⟩ := hC
  obtain ⟨k0, k1, sp, dp, n, r, rfl, hcr, ⟨hk0, hs0⟩, ⟨hk1, hs1⟩, g1, g2, g3, g4, g5, h⟩ := h
  have hq := cts_le (ad := w.1) hcr
  have hnf : nativeFrameWords "java/lang/System" "arraycopy" 5 + 11 ≤ 40 := by decide
  refine va_copyi hx hb (by rw [hml, hl.2.1]) hown (hts _ h1) (hts _ h2) (hts _ h3) (hts _ h4) hK hP (eW_D hI) hS k0 k1 1 1 (ty := .int)
    (by rw [eW_arr hk0 hs0 (by decide), pay_i (by rw [hs0]; decide) (by rw [hs0]; decide)]) (by rw [eW_arr hk1 hs1 (by decide), pay_i (by rw [hs1]; decide) (by rw [hs1]; decide)]) rfl rfl rfl g1 g2 g3 g4 g5 (fun _ _ => rfl) (by omega) (by omega) hdg (fun H1 locs1 hP1 hD1 hS1 => ?_)
  rw [eW_cpy hs1] at hP1
  exact h _ _ _ hl hP1 hS1
theorem sd_iret (hret : M.2.2.2.1 = some .int) (hdg : decode M.2.1 pc = .ok (.ireturn, 1)) : Sound F M pc t_iret := by
  intro w p l e R s m args below meth c d Z C Q hC hM hZ L st τ h H locs ls hl hP hS
  obtain ⟨hx, hb, hml, hr, hown, hts, hK, hI, hlk, hsp, hnw, hf, hlo⟩ := hC
  obtain ⟨x, rfl, h⟩ := h
  exact hZ _ _ _ (W.iret hx hb (hr.trans hret) (fun t ht hW => ⟨⟨some (.int x), τ, rfl, h, HW.of hP hK hI hsp hnw hS ht hW⟩, hS.F ht⟩) hS.2.2 hdg hlk)
theorem sd_zret (hret : M.2.2.2.1 = some .boolean) (hdg : decode M.2.1 pc = .ok (.ireturn, 1)) : Sound F M pc t_zret := by
  intro w p l e R s m args below meth c d Z C Q hC hM hZ L st τ h H locs ls hl hP hS
  obtain ⟨hx, hb, hml, hr, hown, hts, hK, hI, hlk, hsp, hnw, hf, hlo⟩ := hC
  obtain ⟨x, rfl, hz, h⟩ := h
  exact hZ _ _ _ (W.zret hx hb (hr.trans hret) (by rcases hz with rfl | rfl <;> rfl) (fun t ht hW => ⟨⟨some (.int x), τ, rfl, h, HW.of hP hK hI hsp hnw hS ht hW⟩, hS.F ht⟩) hS.2.2 hdg hlk)
theorem sd_lret (hret : M.2.2.2.1 = some .long) (hdg : decode M.2.1 pc = .ok (.lreturn, 1)) : Sound F M pc t_lret := by
  intro w p l e R s m args below meth c d Z C Q hC hM hZ L st τ h H locs ls hl hP hS
  obtain ⟨hx, hb, hml, hr, hown, hts, hK, hI, hlk, hsp, hnw, hf, hlo⟩ := hC
  obtain ⟨x, rfl, h⟩ := h
  exact hZ _ _ _ (W.lret hx hb (hr.trans hret) (fun t ht hW => ⟨⟨some (.long x), τ, rfl, h, HW.of hP hK hI hsp hnw hS ht hW⟩, hS.F ht⟩) hS.2.2 hdg hlk)
theorem sd_vret (hret : M.2.2.2.1 = none) (hdg : decode M.2.1 pc = .ok (.return_, 1)) : Sound F M pc t_vret := by
  intro w p l e R s m args below meth c d Z C Q hC hM hZ L st τ h H locs ls hl hP hS
  obtain ⟨hx, hb, hml, hr, hown, hts, hK, hI, hlk, hsp, hnw, hf, hlo⟩ := hC
  obtain ⟨rfl, h⟩ := h
  exact hZ _ _ _ (W.vret hx hb (hr.trans hret) (fun t ht hW => ⟨⟨none, τ, rfl, h, HW.of hP hK hI hsp hnw hS ht hW⟩, hS.F ht⟩) hS.2.2 hdg hlk)
/-- where the class throws, nothing is said of the abstract machine -/
theorem sd_throw : Sound F M pc t_throw := by
  intro w p l e R s m args below meth c d Z C Q hC hM hZ L st τ h
  exact h.elim
end CLL
