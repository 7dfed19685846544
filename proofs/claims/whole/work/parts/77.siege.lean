/-! PAIRS: siege -/
theorem acC_k {g : Nat → Nat} {m : Nat} : ∀ (l : List (Nat × Nat × Nat)) (p : Nat), acC g m p l → ∀ a ∈ l, a.1 ≤ 2 ∧ (a.1 = 2 → a.2.1 ≤ 9)
  | [], _, _, a, ha => by cases ha
  | b :: l, p, h, a, ha => by
    obtain ⟨q, hac, hc⟩ := h
    rcases List.mem_cons.mp ha with rfl | ha
    · obtain ⟨_, ⟨_, _, _, rfl, _⟩ | ⟨_, _, _, rfl, _⟩ | ⟨_, z, rfl, _⟩⟩ := acF_inv hac
      · exact ⟨by simp, fun w => by simp at w⟩
      · exact ⟨by simp, fun w => by simp at w⟩
      · exact ⟨by simp, fun _ => by simp only; omega⟩
    · exact acC_k l q hc a ha
theorem negA : ∀ e, e < 81 → ¬ (0 : Int32) ≤ -1 - nI e := by decide +kernel
theorem p_siege (t : Nat) : PrI t m_H_siege m_M_siege [] := by
  intro ht0 τ h
  obtain ⟨R, C, kd, ht, ns, n, hA, hT, hR⟩ := h
  have ⟨a, b, c, d, e, f, g, i, j⟩ := hA
  have hn := b.1
  obtain ⟨o, ee, m, E⟩ := hA.env
  obtain ⟨fi, un, u1, u2, u3, u4, u5, u6⟩ := d
  have hn80 := hT.1
  obtain ⟨gg, hg⟩ := hT.bytes
  have AC := acL_acC (g := gg) (m := min n 60) 60 0 (by omega) (by omega)
  obtain ⟨l, bb, en, hL⟩ : ∃ l bb en, acL gg (min n 60) 60 0 = (l, bb, en) := ⟨_, _, _, rfl⟩
  rw [hL] at AC
  obtain ⟨⟨AC1, AC2⟩, AC3⟩ := AC
  have AC1 : en ≤ min n 60 := AC1
  have AC2 : 2 * l.length ≤ min n 60 - 0 := AC2
  have AC3 : bb = true → acC gg (min n 60) 0 l ∧ en = min n 60 := AC3
  rw [N_H_siege]
  simp only [E_H_siege, fIsA, fRt, fLen, fLit, fBool]
  rw [N_H_canReadActs]
  simp only [E_H_canReadActs, fIsA, fRt, fLen, fLit, fBool]
  refine s_open (n := n) (b := 60) hT.2.1 hn80 (by omega) ?_
  simp only [oN, E_H_canReadActs, fIsA, fRt, fLen, fLit, fBool]
  generalize hτa : sI (sI τ 1 3 (nI (min n 60))) 1 2 0 = τa
  have fa : Fr [] [(1, 2), (1, 3)] τ τa := by rw [← hτa]; exact (Fr.rf.i rfl).i rfl
  have Ta : TT τa gg n 0 (min n 60) := by
    rw [← hτa]
    exact ⟨hT.2.1, rfl, rfl, by omega, by omega, hn80, fun j hj => ⟨(hg j hj).1, (hg j hj).2.2⟩⟩
  rw [← Ta.can]
  refine s_acts_loop Ta rfl 60 0 0 none (by omega) (by omega) (by omega) ?_
  rw [hL]
  -- what the reference does first
  have begin : ∀ (τ5 : St) (Q : Qt), Fr (9 :: 10 :: 11 :: 12 :: 55 :: 4 :: 13 :: pmL) [(53, 3), (1, 1), (1, 2), (1, 3), (3, 1)] τ τ5 → (∀ τ7, Fr [85, 86, 87] [(69, 0), (69, 14), (69, 15), (69, 16), (69, 17), (69, 33)] τ5 τ7 → τ7.1 69 14 = 0 → τ7.1 69 15 = nI en → τ7.1 69 16 = nI (min n 60) → (bb = true → τ7.1 69 33 = nI l.length ∧ acA τ7 0 l) → Rs M_M_siege 899 Q 19 [some (.ref 69), some (.int (nI n)), some (.int (if bb = true then 1 else 0)), none, none] [] τ7) → Cl 900 m_M_siege [.ref 69] τ5 Q := fun τ5 Q f5 hQ => by
    rw [N_M_siege]
    simp only [E_M_siege, fIsA, fRt, fLen, fLit, fBool]
    refine s_begins (n := n) (mx := 60) (by show τ5.1 69 14 = _; rw [f5.u1 69 14 rfl]; exact hT.2.2.1) hn80 (by omega) ?_
    simp only [oT, E_M_siege, fIsA, fRt, fLen, fLit, fBool]
    generalize hτ6 : sI (sI (sI (sI (sI (sI τ5 69 0 0) 69 14 0) 69 15 0) 69 17 0) 69 16 (nI (min n 60))) 69 33 0 = τ6
    have f56 : Fr [] [(69, 0), (69, 14), (69, 15), (69, 16), (69, 17), (69, 33)] τ5 τ6 := by rw [← hτ6]; exact (((((Fr.rf.i rfl).i rfl).i rfl).i rfl).i rfl).i rfl
    have M6 : MR τ6 gg n 0 (min n 60) := ⟨by rw [← hτ6]; rfl, by rw [← hτ6]; rfl, by omega, by omega, hn80, fun j hj => ⟨by rw [f56.c1 77 rfl, f5.c1 77 rfl]; exact (hg j hj).2.1, (hg j hj).2.2⟩⟩
    refine s_Macts_loop (d := 892) (n := n) (g := gg) (m := min n 60) (by omega) 60 0 0 τ6 M6 (by rw [← hτ6]; rfl) (by omega) (by omega) (by omega) (fun τ7 f7 e15 y7 => ?_)
    rw [hL] at e15 y7 ⊢
    refine hQ τ7 ((f56.wk rfl).tr (f7.wk rfl)) (by rw [f7.u1 69 14 rfl, ← hτ6]; rfl) e15 (by rw [f7.u1 69 16 rfl, ← hτ6]; rfl) (fun z => ?_)
    have := (y7 z).1
    rw [Nat.zero_add] at this
    exact this
  by_cases good : bb = true ∧ en = n
  case neg =>
    rw [if_neg good]
    simp only [oT, E_H_siege, fIsA, fRt, fLen, fLit, fBool]
    refine s_empty ?_
    simp only [oN, E_H_siege, fIsA, fRt, fLen, fLit, fBool, sI_1, reduceIte, Nat.reduceEqDiff]
    generalize hτ5 : sI (sI τa 1 2 (nI en)) 1 1 0 = τ5
    have f5 : Fr [] [(1, 1), (1, 2), (1, 3)] τ τ5 := by rw [← hτ5]; exact ((fa.wk rfl).i rfl).i rfl
    have l5 : τ5.1 1 1 = 0 := by rw [← hτ5]; rfl
    refine begin τ5 _ (f5.wk rfl) (fun τ7 f7 e14 e15 e16 y7 => ?_)
    have fin : Inv (t + 1) τ7 := hA.inv (cs := [85, 86, 87]) (fs := [(1, 1), (1, 2), (1, 3), (69, 0), (69, 14), (69, 15), (69, 16), (69, 17), (69, 33)]) ((f5.wk rfl).tr (f7.wk rfl)) rfl (n := 0) ⟨by omega, by rw [f7.u1 1 1 rfl]; exact l5, e14, fun j hj => absurd hj (Nat.not_lt_zero j)⟩ (hR.fr (cs := [85, 86, 87]) (fs := [(1, 1), (1, 2), (1, 3), (69, 0), (69, 14), (69, 15), (69, 16), (69, 17), (69, 33)]) ((f5.wk rfl).tr (f7.wk rfl)) rfl)
    rw [Rs_eq]
    cases bb with
    | false =>
      simp only [E_M_siege, fIsA, fRt, fLen, fLit, fBool, Bool.false_eq_true, if_false]
      refine s_faultOf (p := en) (mx := 60) (Or.inl rfl) e15 e16 AC1 hn80 (by omega) ?_
      rw [if_neg (fun z => absurd z.1 (by decide))]
      simp only [oT, E_M_siege, fIsA, fRt, fLen, fLit, fBool]
      exact ⟨fun z => absurd z (negA en (by omega)), fun _ => ok rfl fin⟩
    | true =>
      have een := (AC3 rfl).2
      simp only [E_M_siege, fIsA, fRt, fLen, fLit, fBool, if_true, e15, e16, een]
      refine ⟨fun _ => ?_, fun z => absurd (Int32.le_refl _) z⟩
      refine s_faultOf (p := en) (mx := 60) (Or.inr rfl) e15 e16 AC1 hn80 (by omega) ?_
      rw [if_neg (fun z => good ⟨rfl, z.2⟩)]
      simp only [oT, E_M_siege, fIsA, fRt, fLen, fLit, fBool]
      exact ⟨fun z => absurd z (negA en (by omega)), fun _ => ok (by rw [← een]) fin⟩
  case pos =>
    obtain ⟨rfl, een⟩ := good
    obtain ⟨hcc, en2⟩ := AC3 rfl
    have hmin : min n 60 = n := by omega
    have hn60 : n ≤ 60 := by omega
    rw [hmin] at hcc AC2
    rw [if_pos ⟨rfl, een⟩]
    simp only [oT, E_H_siege, fIsA, fRt, fLen, fLit, fBool]
    generalize hτb : sI τa 1 2 (nI en) = τb
    have fbb : Fr [] [(1, 2), (1, 3)] τ τb := by rw [← hτb]; exact fa.i rfl
    refine s_copy (a := 11) (b := 9) (by decide) (by decide) (by omega) (fun τ1 f1 m1 => ?_)
    simp only [oN, E_H_siege, fIsA, fRt, fLen, fLit, fBool]
    have F1 : Fr [11, 12] [(1, 2), (1, 3)] τ τ1 := (fbb.wk rfl).tr (f1.wk rfl)
    have m1 : MoE 11 9 τ τ1 := m1.tr (fun j => fbb.c1 9 rfl j) (fun j => fbb.c2 9 rfl j) (fun j => fbb.c1 10 rfl j)
    refine s_open (n := n) (b := 60) (by rw [F1.u1 1 1 rfl]; exact hT.2.1) hn80 (by omega) ?_
    simp only [oN, E_H_siege, fIsA, fRt, fLen, fLit, fBool]
    rw [hmin]
    generalize hτ2 : sI (sI τ1 1 3 (nI n)) 1 2 0 = τ2
    have F2 : Fr [11, 12] [(1, 2), (1, 3)] τ τ2 := by rw [← hτ2]; exact (F1.i rfl).i rfl
    have T2 : TT τ2 gg n 0 n := ⟨by rw [F2.u1 1 1 rfl]; exact hT.2.1, by rw [← hτ2]; rfl, by rw [← hτ2]; rfl, by omega, by omega, hn80, fun j hj => ⟨by rw [F2.c1 2 rfl]; exact (hg j hj).1, (hg j hj).2.2⟩⟩
    have E2 : EnvI R C kd ht ns o ee m (τ.1 73) (τ.1 80) τ2 := E.fr F2 rfl (F2.c1 9 rfl 1)
    have mo2 : MoI τ2 9 ns (R * C) (300 * t) kd (τ.1 75) := c.same (fun j => F2.c1 9 rfl j) (fun j => F2.c2 9 rfl j) (fun j => F2.c1 10 rfl j) (fun _ _ => rfl) (Nat.le_refl _) hn
    have m2 : MoE 11 9 τ τ2 := by
      have f12 : Fr [] [(1, 2), (1, 3)] τ1 τ2 := by rw [← hτ2]; exact (Fr.rf.i rfl).i rfl
      exact m1.fr (fun j => f12.c1 11 rfl j) (fun j => f12.c2 11 rfl j) (fun j => f12.c1 12 rfl j)
    obtain ⟨dn, ok', rr, d1, d2, rowF, hc, hm⟩ := run_both (e := ee) (m := m) (o := o) (ht := ht) (W := τ.1 73) (S := τ.1 80) E.2.1.1 a.n36.1 hn l (τ.1 75) (300 * t) c.row (by omega) (acC_k l 0 hcc)
    generalize hW : (bI (fb (ovR kd rr) ns 0 0)).toInt64 = W
    -- the reference, behind the class
    have refP : ∀ (τ5 : St), Fr (9 :: 10 :: 11 :: 12 :: 55 :: 4 :: 13 :: pmL) [(53, 3), (1, 1), (1, 2), (1, 3), (3, 1)] τ τ5 → τ5.1 1 1 = 0 → τ5.1 9 1 = τ.1 9 1 → MoI τ5 9 ns (R * C) (300 * t + 9 * l.length) kd rr → τ5.1 3 1 = 2 → τ5.2 4 0 = (if ok' = true then 0 else 1) → τ5.2 4 1 = W →
        (dn = 0 → ∀ k, (13 :: pmL).contains k = true → ∀ j, τ5.1 k j = τ.1 k j ∧ τ5.2 k j = τ.2 k j) →
        (dn ≠ 0 → ∃ τ2 τ3 : St, MoE 11 9 τ τ2 ∧ (∀ k, pmL.contains k = true → ∀ j, τ2.1 k j = τ.1 k j ∧ τ2.2 k j = τ.2 k j) ∧ τ3.1 13 1 = nI (if un = 15 then (fi + 1) % 15 else fi) ∧ τ3.1 13 2 = nI (if un = 15 then 15 else un + 1) ∧ MoE (pm fi un) 11 τ2 τ3 ∧ (∀ i, i < 15 → i ≠ (fi + un) % 15 → MoE (15 + 2 * i) (15 + 2 * i) τ2 τ3) ∧ ∀ k, (13 :: pmL).contains k = true → ∀ j, τ5.1 k j = τ3.1 k j ∧ τ5.2 k j = τ3.2 k j) →
        Cl 900 m_M_siege [.ref 69] τ5 (fun b τ2 => (∃ x : Int32, some (Value.int (nI (0 + dn))) = some (.int x) ∧ b = some (.int x)) ∧ Inv (t + 1) τ2) := fun τ5 f5 l5 s5 mo5 r1 r2 r3 hU0 hU1 => by
      refine begin τ5 _ f5 (fun τ7 f7 e14 e15 e16 y7 => ?_)
      obtain ⟨e33, hA7⟩ := y7 rfl
      have E5 : EnvI R C kd ht ns o ee m (τ.1 73) (τ.1 80) τ5 := E.fr f5 rfl s5
      have s57 : τ7.1 9 1 = τ5.1 9 1 := f7.c1 9 rfl 1
      have E7 := E5.fr f7 rfl s57
      have r75 : ∀ j, τ7.1 75 j = τ.1 75 j := fun j => by rw [f7.c1 75 rfl, f5.c1 75 rfl]
      rw [Rs_eq]
      simp only [E_M_siege, fIsA, fRt, fLen, fLit, fBool, if_true, e15, e16, en2]
      refine ⟨fun _ => ?_, fun z => absurd (Int32.le_refl _) z⟩
      refine s_faultOf (p := en) (mx := 60) (Or.inr rfl) e15 e16 AC1 hn80 (by omega) ?_
      rw [if_pos ⟨rfl, een⟩]
      simp only [oT, E_M_siege, fIsA, fRt, fLen, fLit, fBool]
      refine s_MputsBy (un := un) u2 (by rw [f7.u1 69 28 rfl, f5.u1 69 28 rfl]; exact u5) (fun τ8 f8 q1 q2 => ?_)
      simp only [oN, E_M_siege, fIsA, fRt, fLen, fLit, fBool]
      have E8 := E7.fr f8 rfl (f8.c1 9 rfl 1)
      refine hm 837 τ8 _ 0 _ _ _ (by omega) E8 (fun j _ => by rw [f8.c1 75 rfl]; exact r75 j) (acA.cg (fun j => ⟨f8.c1 85 rfl j, f8.c1 86 rfl j, f8.c1 87 rfl j⟩) l 0 hA7) (by rw [f8.u1 69 33 rfl, e33, Nat.zero_add]) (fun τ9 f9 r9 => ?_)
      have e33' : τ9.1 69 33 = nI l.length := by rw [f9.u1 69 33 rfl, f8.u1 69 33 rfl]; exact e33
      have E9 := E8.fr f9 rfl (f9.c1 9 rfl 1)
      have Ex := E9.fr (τ' := sI τ9 69 1 0) (cs := []) (fs := [(69, 1)]) (Fr.rf.i rfl) rfl rfl
      have f59 : Fr [75, 82, 83, 84, 85, 86, 87] [(69, 0), (69, 14), (69, 15), (69, 16), (69, 17), (69, 33)] τ5 τ9 := (f7.wk rfl).tr ((f8.wk rfl).tr (f9.wk rfl))
      -- the end, with what the flag is
      have last : ∀ V0 : Int64, V0 = (if ok' = true then 0 else 1) → ∀ (τA τB : St), sI (sL (sI (sL (sI τ9 69 1 0) 70 0 V0) 69 1 (nI (0 + 1))) 70 1 W) 69 1 (nI (1 + 1)) = τA → (dn = 0 → τB = τA) → (dn ≠ 0 → Fr [84] [(69, 28)] τA τB ∧ τB.1 69 28 = nI (if un = 15 then 15 else un + 1) ∧ ∀ i j, i ≤ (if un = 15 then 14 else un) → j < 50 → τB.1 84 (50 * i + j) = τA.1 84 (50 * (if un = 15 then i + 1 else i) + j)) → Inv (t + 1) τB := fun V0 hV0 τA τB hτA hB0 hB1 => by
        have fA : Fr [70] [(69, 1)] τ9 τA := by rw [← hτA]; exact ((((Fr.rf.i rfl).lc rfl).i rfl).lc rfl).i rfl
        have fB : Fr [84] [(69, 28)] τA τB := by
          by_cases z : dn = 0
          · rw [hB0 z]; exact Fr.rf
          · exact (hB1 z).1
        have F5 : Fr [70, 75, 82, 83, 84, 85, 86, 87] [(69, 0), (69, 1), (69, 14), (69, 15), (69, 16), (69, 17), (69, 28), (69, 33)] τ5 τB := (f59.wk rfl).tr ((fA.wk rfl).tr (fB.wk rfl))
        have F : Fr (70 :: 75 :: 82 :: 83 :: 84 :: 85 :: 86 :: 87 :: 9 :: 10 :: 11 :: 12 :: 55 :: 4 :: 13 :: pmL) [(53, 3), (1, 1), (1, 2), (1, 3), (3, 1), (69, 0), (69, 1), (69, 14), (69, 15), (69, 16), (69, 17), (69, 28), (69, 33)] τ τB := (f5.wk rfl).tr (F5.wk rfl)
        have b' : ShI τB ns := by
          refine ⟨hn, by rw [F.u1 69 5 rfl]; exact b.2.1, ?_, fun s hs => ?_⟩
          · rw [F5.c1 9 rfl, s5]; exact b.2.2.1
          · rw [F.c1 52 rfl, F.c1 73 rfl]; exact b.2.2.2 s hs
        have c' : MoI τB 9 ns (R * C) (300 * (t + 1)) kd (τB.1 75) := mo5.same (fun j => F5.c1 9 rfl j) (fun j => F5.c2 9 rfl j) (fun j => F5.c1 10 rfl j) (fun j hj => by rw [fB.c1 75 rfl, fA.c1 75 rfl]; exact r9 j hj) (by omega) hn
        have d' : UnI τB ns (R * C) (300 * (t + 1)) kd := by
          by_cases z : dn = 0
          · have w0 := hU0 z
            refine UnI.put u1 u2 u3 u4 ?_ u6 (fun k hk j => ?_) (fun j hj => ?_) (by omega) hn
            · rw [hB0 z, fA.u1 69 28 rfl, f9.u1 69 28 rfl, f8.u1 69 28 rfl, f7.u1 69 28 rfl, f5.u1 69 28 rfl]; exact u5
            · have w1 := F5.D (D := 13 :: pmL) (E := []) rfl k j hk
              exact ⟨w1.1.trans (w0 k hk j).1, w1.2.trans (w0 k hk j).2⟩
            · rw [hB0 z, fA.c1 84 rfl, f9.c1 84 rfl, q2 j hj, f7.c1 84 rfl]; exact f5.c1 84 rfl j
          · obtain ⟨τ2', τ3', g1, g2, g3, g4, g5, g6, g7⟩ := hU1 z
            have w1 := hB1 z
            refine UnI.rem (τ2 := τ2') (τ3 := τ3') (τ5 := τ8) (τ7 := τA) u1 u2 u6 b.2.2.1 c g1 g2 g3 g4 g5 g6 (fun k hk j => ?_) (fun j hj => ?_) (fun j hj => ?_) (fun j => by rw [fA.c1 84 rfl, f9.c1 84 rfl]) w1.2.1 w1.2.2 (by omega) hn
            · have w2 := F5.D (D := 13 :: pmL) (E := []) rfl k j hk
              exact ⟨w2.1.trans (g7 k hk j).1, w2.2.trans (g7 k hk j).2⟩
            · rw [q1 j hj]; exact r75 j
            · rw [q2 j hj, f7.c1 84 rfl]; exact f5.c1 84 rfl j
        have hrow : RoI τB := by
          refine RoI.two (v := V0) (w := W) ?_ ?_ ?_ ?_ ?_ ?_
          · rw [F5.u1 3 1 rfl]; exact r1
          · rw [fB.u1 69 1 rfl, ← hτA]; rfl
          · rw [F5.c2 4 rfl, hV0]; exact r2
          · rw [fB.c2 70 rfl, ← hτA]; rfl
          · rw [F5.c2 4 rfl]; exact r3
          · rw [fB.c2 70 rfl, ← hτA]; rfl
        have hT' : TxI τB 0 := ⟨by omega, by rw [F5.u1 1 1 rfl]; exact l5, by rw [fB.u1 69 14 rfl, fA.u1 69 14 rfl, f9.u1 69 14 rfl, f8.u1 69 14 rfl]; exact e14, fun j hj => absurd hj (Nat.not_lt_zero j)⟩
        exact ⟨R, C, kd, ht, ns, 0, ⟨a.fr F rfl, b', c', d', e.fr F rfl (by omega) (by omega) hn, f.fr F rfl, g.fr F rfl, i.fr F rfl, j.fr F rfl⟩, hT', hrow⟩
      rw [Rs_eq]
      simp only [E_M_siege, fIsA, fRt, fLen, fLit, fBool, sI_1, reduceIte, Nat.reduceEqDiff, e33']
      refine ⟨fun w => ?_, fun w => ?_⟩
      · have w := (nI_leI (by omega) (by omega)).mp w
        have hok : ok' = true := d2.mpr (by omega)
        refine s_flag (Or.inl rfl) ?_
        simp only [oT, E_M_siege, fIsA, fRt, fLen, fLit, fBool]
        refine s_Menters (n := 0) rfl (by omega) ?_
        simp only [oN, E_M_siege, fIsA, fRt, fLen, fLit, fBool]
        have Ey := Ex.fr (cs := [70]) (fs := [(69, 1)]) (τ' := sI (sL (sI τ9 69 1 0) 70 0 ((0 : Int32).toInt64)) 69 1 (nI (0 + 1))) ((Fr.rf.lc rfl).i rfl) rfl rfl
        refine s_MinHarbourR Ey.1.1 Ey.1.2.1 rowF r9 ?_
        simp only [oT, E_M_siege, fIsA, fRt, fLen, fLit, fBool]
        refine s_bitsI ?_
        simp only [oT, E_M_siege, fIsA, fRt, fLen, fLit, fBool, hW]
        refine s_Menters (n := 1) rfl (by omega) ?_
        simp only [oN, E_M_siege, fIsA, fRt, fLen, fLit, fBool]
        refine ⟨fun w2 => ?_, fun w2 => ?_⟩
        · have w2 := (nI_leI (b := 0) (by omega) (by omega)).mp w2
          have z0 : dn = 0 := by omega
          exact ok (by rw [z0]; rfl) (last _ (by rw [if_pos hok]; rfl) _ _ rfl (fun _ => rfl) (fun z => absurd z0 z))
        · have z0 : dn ≠ 0 := fun z => w2 (by rw [z]; exact Int32.le_refl _)
          refine s_Madds (un := un) u2 (by show τ9.1 69 28 = _; rw [f9.u1 69 28 rfl, f8.u1 69 28 rfl, f7.u1 69 28 rfl, f5.u1 69 28 rfl]; exact u5) (fun τB fB a1 a2 => ?_)
          simp only [oT, E_M_siege, fIsA, fRt, fLen, fLit, fBool]
          exact ok rfl (last _ (by rw [if_pos hok]; rfl) _ τB rfl (fun z => absurd z z0) (fun _ => ⟨fB, a1, a2⟩))
      · have hok : ¬ ok' = true := fun z => w (by rw [d2.mp z, Nat.zero_add]; exact Int32.le_refl _)
        refine s_flag (Or.inr rfl) ?_
        simp only [oT, E_M_siege, fIsA, fRt, fLen, fLit, fBool]
        refine s_Menters (n := 0) rfl (by omega) ?_
        simp only [oN, E_M_siege, fIsA, fRt, fLen, fLit, fBool]
        have Ey := Ex.fr (cs := [70]) (fs := [(69, 1)]) (τ' := sI (sL (sI τ9 69 1 0) 70 0 ((1 : Int32).toInt64)) 69 1 (nI (0 + 1))) ((Fr.rf.lc rfl).i rfl) rfl rfl
        refine s_MinHarbourR Ey.1.1 Ey.1.2.1 rowF r9 ?_
        simp only [oT, E_M_siege, fIsA, fRt, fLen, fLit, fBool]
        refine s_bitsI ?_
        simp only [oT, E_M_siege, fIsA, fRt, fLen, fLit, fBool, hW]
        refine s_Menters (n := 1) rfl (by omega) ?_
        simp only [oN, E_M_siege, fIsA, fRt, fLen, fLit, fBool]
        refine ⟨fun w2 => ?_, fun w2 => ?_⟩
        · have w2 := (nI_leI (b := 0) (by omega) (by omega)).mp w2
          have z0 : dn = 0 := by omega
          exact ok (by rw [z0]; rfl) (last _ (by rw [if_neg hok]; rfl) _ _ rfl (fun _ => rfl) (fun z => absurd z0 z))
        · have z0 : dn ≠ 0 := fun z => w2 (by rw [z]; exact Int32.le_refl _)
          refine s_Madds (un := un) u2 (by show τ9.1 69 28 = _; rw [f9.u1 69 28 rfl, f8.u1 69 28 rfl, f7.u1 69 28 rfl, f5.u1 69 28 rfl]; exact u5) (fun τB fB a1 a2 => ?_)
          simp only [oT, E_M_siege, fIsA, fRt, fLen, fLit, fBool]
          exact ok rfl (last _ (by rw [if_neg hok]; rfl) _ τB rfl (fun z => absurd z z0) (fun _ => ⟨fB, a1, a2⟩))
    refine hc 837 τ2 _ gg n 0 0 0 hn60 (by omega) (by omega) E2 mo2 T2 hcc (fun τ3 i' f3 s3 mo3 => ?_)
    have F3 : Fr [9, 10, 11, 12, 55] [(53, 3), (1, 2), (1, 3)] τ τ3 := (F2.wk rfl).tr (f3.wk rfl)
    have s3' : τ3.1 9 1 = τ.1 9 1 := s3.trans (F2.c1 9 rfl 1)
    rw [Rs_eq]
    simp only [E_H_siege, fIsA, fRt, fLen, fLit, fBool]
    refine s_empty ?_
    simp only [oN, E_H_siege, fIsA, fRt, fLen, fLit, fBool]
    generalize hτ4 : sI τ3 1 1 0 = τ4
    have f34 : Fr [] [(1, 1)] τ3 τ4 := by rw [← hτ4]; exact Fr.rf.i rfl
    have F4 : Fr [9, 10, 11, 12, 55] [(53, 3), (1, 1), (1, 2), (1, 3)] τ τ4 := (F3.wk rfl).tr (f34.wk rfl)
    have s4 : τ4.1 9 1 = τ.1 9 1 := (f34.c1 9 rfl 1).trans s3'
    have l4 : τ4.1 1 1 = 0 := by rw [← hτ4]; rfl
    have mo4 : MoI τ4 9 ns (R * C) (300 * t + 9 * l.length) kd rr := mo3.same (fun j => f34.c1 9 rfl j) (fun j => f34.c2 9 rfl j) (fun j => f34.c1 10 rfl j) (fun _ _ => rfl) (Nat.le_refl _) hn
    have E4 := E.fr F4 rfl s4
    have m4 : MoE 11 9 τ τ4 := m2.fr (fun j => by rw [f34.c1 11 rfl, f3.c1 11 rfl]) (fun j => by rw [f34.c2 11 rfl, f3.c2 11 rfl]) (fun j => by rw [f34.c1 12 rfl, f3.c1 12 rfl])
    refine ⟨fun w => ?_, fun w => ?_⟩
    · have w := (nI_leI (b := 0) (by omega) (by omega)).mp w
      have z0 : dn = 0 := by omega
      have sv : ∀ (v : Int64), v = (if ok' = true then 0 else 1) → ∀ τ5, sI (sL (sI (sL (sI τ4 3 1 0) 4 0 v) 3 1 1) 4 1 W) 3 1 2 = τ5 → Cl 900 m_M_siege [.ref 69] τ5 (fun b τ2 => (∃ x : Int32, some (Value.int (nI (0 + dn))) = some (.int x) ∧ b = some (.int x)) ∧ Inv (t + 1) τ2) := fun v hv τ5 h5 => by
        have f45 : Fr [4] [(3, 1)] τ4 τ5 := by rw [← h5]; exact ((((Fr.rf.i rfl).lc rfl).i rfl).lc rfl).i rfl
        have f05 : Fr [4, 9, 10, 11, 12, 55] [(53, 3), (1, 1), (1, 2), (1, 3), (3, 1)] τ τ5 := (F4.wk rfl).tr (f45.wk rfl)
        refine refP τ5 (f05.wk rfl) (by rw [f45.u1 1 1 rfl]; exact l4) (by rw [f45.c1 9 rfl]; exact s4) (mo4.same (fun j => f45.c1 9 rfl j) (fun j => f45.c2 9 rfl j) (fun j => f45.c1 10 rfl j) (fun _ _ => rfl) (Nat.le_refl _) hn) (by rw [← h5]; rfl) (by rw [← h5, ← hv]; rfl) (by rw [← h5]; rfl) (fun _ k hk j => f05.D (D := 13 :: pmL) (E := []) rfl k j hk) (fun z => absurd z0 z)
      cases ok' with
      | false =>
        simp only [E_H_siege, fIsA, fRt, fLen, fLit, fBool, Bool.false_eq_true, if_false]
        refine s_shipsOverR E4.1.1 E4.1.2.1 mo4 ?_
        simp only [oT, E_H_siege, fIsA, fRt, fLen, fLit, fBool]
        refine s_bitsI ?_
        simp only [oT, E_H_siege, fIsA, fRt, fLen, fLit, fBool, hW]
        refine s_RowBoth ?_
        simp only [oN, E_H_siege, fIsA, fRt, fLen, fLit, fBool]
        exact sv _ rfl _ rfl
      | true =>
        simp only [E_H_siege, fIsA, fRt, fLen, fLit, fBool, if_true]
        refine s_shipsOverR E4.1.1 E4.1.2.1 mo4 ?_
        simp only [oT, E_H_siege, fIsA, fRt, fLen, fLit, fBool]
        refine s_bitsI ?_
        simp only [oT, E_H_siege, fIsA, fRt, fLen, fLit, fBool, hW]
        refine s_RowBoth ?_
        simp only [oN, E_H_siege, fIsA, fRt, fLen, fLit, fBool]
        exact sv _ rfl _ rfl
    · have z0 : dn ≠ 0 := fun z => w (by rw [z]; exact Int32.le_refl _)
      refine s_PastAdd (fi := fi) (un := un) (by rw [F4.u1 13 1 rfl]; exact u3) (by rw [F4.u1 13 2 rfl]; exact u4) u1 u2 (fun τp fp p1 p2 p3 p4 => ?_)
      simp only [oN, E_H_siege, fIsA, fRt, fLen, fLit, fBool]
      have Fp : Fr (9 :: 10 :: 11 :: 12 :: 55 :: 13 :: pmL) [(53, 3), (1, 1), (1, 2), (1, 3)] τ τp := (F4.wk rfl).tr (fp.wk rfl)
      have Ep := E4.fr fp rfl (fp.c1 9 rfl 1)
      have mop : MoI τp 9 ns (R * C) (300 * t + 9 * l.length) kd rr := mo4.same (fun j => fp.c1 9 rfl j) (fun j => fp.c2 9 rfl j) (fun j => fp.c1 10 rfl j) (fun _ _ => rfl) (Nat.le_refl _) hn
      have sv : ∀ (v : Int64), v = (if ok' = true then 0 else 1) → ∀ τ5, sI (sL (sI (sL (sI τp 3 1 0) 4 0 v) 3 1 1) 4 1 W) 3 1 2 = τ5 → Cl 900 m_M_siege [.ref 69] τ5 (fun b τ2 => (∃ x : Int32, some (Value.int (nI (0 + dn))) = some (.int x) ∧ b = some (.int x)) ∧ Inv (t + 1) τ2) := fun v hv τ5 h5 => by
        have f45 : Fr [4] [(3, 1)] τp τ5 := by rw [← h5]; exact ((((Fr.rf.i rfl).lc rfl).i rfl).lc rfl).i rfl
        have f05 : Fr (9 :: 10 :: 11 :: 12 :: 55 :: 4 :: 13 :: pmL) [(53, 3), (1, 1), (1, 2), (1, 3), (3, 1)] τ τ5 := (Fp.wk rfl).tr (f45.wk rfl)
        refine refP τ5 f05 (by rw [f45.u1 1 1 rfl, fp.u1 1 1 rfl]; exact l4) (by rw [f45.c1 9 rfl, fp.c1 9 rfl]; exact s4) (mop.same (fun j => f45.c1 9 rfl j) (fun j => f45.c2 9 rfl j) (fun j => f45.c1 10 rfl j) (fun _ _ => rfl) (Nat.le_refl _) hn) (by rw [← h5]; rfl) (by rw [← h5, ← hv]; rfl) (by rw [← h5]; rfl) (fun z => absurd z z0) (fun _ => ⟨τ4, τp, m4, fun k hk j => F4.D (D := pmL) (E := []) rfl k j hk, p1, p2, p3, p4, fun k hk j => f45.D (D := 13 :: pmL) (E := []) rfl k j hk⟩)
      cases ok' with
      | false =>
        simp only [E_H_siege, fIsA, fRt, fLen, fLit, fBool, Bool.false_eq_true, if_false]
        refine s_shipsOverR Ep.1.1 Ep.1.2.1 mop ?_
        simp only [oT, E_H_siege, fIsA, fRt, fLen, fLit, fBool]
        refine s_bitsI ?_
        simp only [oT, E_H_siege, fIsA, fRt, fLen, fLit, fBool, hW]
        refine s_RowBoth ?_
        simp only [oN, E_H_siege, fIsA, fRt, fLen, fLit, fBool]
        exact sv _ rfl _ rfl
      | true =>
        simp only [E_H_siege, fIsA, fRt, fLen, fLit, fBool, if_true]
        refine s_shipsOverR Ep.1.1 Ep.1.2.1 mop ?_
        simp only [oT, E_H_siege, fIsA, fRt, fLen, fLit, fBool]
        refine s_bitsI ?_
        simp only [oT, E_H_siege, fIsA, fRt, fLen, fLit, fBool, hW]
        refine s_RowBoth ?_
        simp only [oN, E_H_siege, fIsA, fRt, fLen, fLit, fBool]
        exact sv _ rfl _ rfl
