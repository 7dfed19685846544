/-! PAIRS: ships -/
theorem and_not : ∀ s, s < 8 → ∀ g, g < 256 → g < 2 ^ s → nI g &&& ((1 <<< (nI s &&& 31)) ^^^ (-1)) = nI g := by decide +kernel
theorem s_apply {d ns0 gq : Nat} {Q : Qt} (hg : gq < 2 ^ ns0) {a1 a2 a3 a4 : Int32} : ∀ (l : List (Nat × Nat)) (i s : Nat) (τ : St), ns0 ≤ s → s + l.length ≤ 8 → i ≤ 8 → liC (fun s => τ.1 79 (2 * s)) (fun s => τ.1 79 (2 * s + 1)) i l → τ.1 69 21 = nI (i + l.length) → i + l.length ≤ 8 → τ.1 69 5 = nI s → τ.1 75 44 = nI gq →
    (∀ τ', Fr [73, 75] [(69, 5)] τ τ' → τ'.1 69 5 = nI (s + l.length) → liC (τ'.1 73) (fun s => τ'.1 75 (36 + s)) s l → (∀ j, j < s → τ'.1 73 j = τ.1 73 j) → (∀ j, j < 36 + s ∨ 44 ≤ j → τ'.1 75 j = τ.1 75 j) → Rs M_M_ships d Q 81 [some (.ref 69), some (.int a1), some (.int a2), some (.int a3), some (.int a4), some (.int (nI (i + l.length)))] [] τ') → Rs M_M_ships d Q 81 [some (.ref 69), some (.int a1), some (.int a2), some (.int a3), some (.int a4), some (.int (nI i))] [] τ
  | [], i, s, τ, h0, hs, hi, hc, h21, hi2, h5, h44, hQ => hQ τ Fr.rf h5 trivial (fun _ _ => rfl) (fun _ _ => rfl)
  | a :: l, i, s, τ, h0, hs, hi, hc, h21, hi2, h5, h44, hQ => by
    rw [List.length_cons] at hs h21 hi2
    have hg8 : gq < 2 ^ s := Nat.lt_of_lt_of_le hg (Nat.pow_le_pow_right (by omega) h0)
    have hg256 : gq < 256 := Nat.lt_of_lt_of_le hg8 (Nat.pow_le_pow_right (i := s) (j := 8) (by omega) (by omega))
    have c1 : τ.1 79 (2 * i) = nI a.1 := hc.1.1
    have c2 : τ.1 79 (2 * i + 1) = nI a.2 := hc.1.2
    have e36 : (36 : Int32) + nI s = nI (36 + s) := nI_add 36 s
    rw [Rs_eq]
    simp only [E_M_ships, fIsA, fRt, fLen, fLit, fBool, fIx, h21, h5, i36, nI_1, nI_clamp (show 2 * i < 2 ^ 31 by omega), nI_clamp (show 2 * i + 1 < 2 ^ 31 by omega), nI_clamp (show s < 2 ^ 31 by omega), sI_1, reduceIte, Nat.reduceEqDiff, c1, c2, e36, nI_clamp (show 36 + s < 2 ^ 31 by omega), show (44 : Nat) = 36 + s ↔ False from ⟨fun z => by omega, False.elim⟩, if_false, h44, and_not s (by omega) gq hg256 hg8]
    refine ⟨fun z => absurd z (nI_ge (by omega) (by omega)), fun _ => ?_⟩
    refine ⟨vp_in_nI (by omega) (by omega), vp_in_nI (by omega) (by omega), vp_in_nI (by omega) (by omega), vp_in_nI (by omega) (by omega), ?_⟩
    generalize hA : sI (sI (sI (sI τ 73 s (nI a.1)) 75 (36 + s) (nI a.2)) 75 44 (nI gq)) 69 5 (nI (s + 1)) = A
    have fA : Fr [73, 75] [(69, 5)] τ A := by rw [← hA]; exact (((Fr.rf.ic rfl).ic rfl).ic rfl).i rfl
    refine s_apply hg l (i + 1) (s + 1) A (by omega) (by omega) (by omega) (liC_cg l (i + 1) (fun j _ _ => ⟨fA.c1 79 rfl _, fA.c1 79 rfl _⟩) hc.2) (by rw [fA.u1 69 21 rfl, h21]; congr 1; omega) (by omega) (by rw [← hA]; rfl) (by rw [← hA]; simp only [sI_1, reduceIte, Nat.reduceEqDiff]) (fun τ2 f2 e5 hl o73 o75 => ?_)
    have := hQ τ2 (fA.tr f2) (by rw [e5, List.length_cons]; congr 1; omega) ⟨⟨?_, ?_⟩, hl⟩ (fun j hj => ?_) (fun j hj => ?_)
    · rw [List.length_cons, show i + (l.length + 1) = i + 1 + l.length by omega] at this
      exact this
    · rw [o73 s (by omega), ← hA]; simp only [sI_1, reduceIte, Nat.reduceEqDiff]
    · show τ2.1 75 (36 + s) = _
      rw [o75 _ (by omega), ← hA]
      simp only [sI_1, reduceIte, Nat.reduceEqDiff]
      rw [if_neg (by omega)]
    · rw [o73 j (by omega), ← hA]; simp only [sI_1, reduceIte, Nat.reduceEqDiff]; rw [if_neg (by omega)]
    · rw [o75 j (by omega), ← hA]
      simp only [sI_1, reduceIte, Nat.reduceEqDiff]
      by_cases c : j = 44
      · rw [if_pos c, c]; exact h44.symm
      · rw [if_neg c, if_neg (by omega)]
theorem MoI.plc {τ τ' : St} {k ns n B B' : Nat} {kd : Nat → Nat} {r r' : Nat → Int32} (h : MoI τ k ns n B kd r) (h1 : ∀ j, j ≠ 1 → τ'.1 k j = τ.1 k j) (h2 : ∀ j, τ'.2 k j = τ.2 k j) (h3 : ∀ s, s < ns → τ'.1 (k + 1) s = τ.1 (k + 1) s) (hr : ∀ j, j < 50 → r' j = r j) (hB : B ≤ B') (hns : ns ≤ 8) : MoI τ' k ns n B' kd r' := by
  obtain ⟨a, b, c, d, ⟨i, e1, e2⟩, f, g, u⟩ := h
  refine ⟨fun s q => ?_, ?_, fun f q => ?_, fun f q q2 => ?_, ⟨i, by omega, ?_⟩, ?_, ?_, ?_⟩
  · rw [h3 s q, hr _ (by omega)]; exact a s q
  · rw [h1 2 (by omega), h1 4 (by omega), h1 5 (by omega), h1 6 (by omega), h1 7 (by omega), h1 8 (by omega), hr _ (by omega), hr _ (by omega), hr _ (by omega), hr _ (by omega), hr _ (by omega), hr _ (by omega)]; exact b
  · rw [h2, hr _ (by omega)]; exact c f q
  · rw [h2]; exact d f q q2
  · rw [hr _ (by omega)]; exact e2
  · rw [hr _ (by omega)]; exact f
  · rw [hr _ (by omega)]; exact g
  · rw [hr _ (by omega)]; exact u
theorem p_ships (t : Nat) : PrI t m_H_ships m_M_ships [] := by
  intro ht0 τ h
  obtain ⟨R, C, kd, ht, ns, n, hA, hT, hR⟩ := h
  have ⟨a, b, c, d, e, f, g, i, j⟩ := hA
  have hn := b.1
  obtain ⟨fi, un, u1, u2, u3, u4, u5, u6⟩ := d
  have hn80 := hT.1
  obtain ⟨gg, hg⟩ := hT.bytes
  rw [N_H_ships]
  simp only [E_H_ships, fIsA, fRt, fLen, fLit, fBool]
  refine s_open (n := n) (b := 55) hT.2.1 hn80 (by omega) ?_
  simp only [oN, E_H_ships, fIsA, fRt, fLen, fLit, fBool]
  generalize hτa : sI (sI τ 1 3 (nI (min n 55))) 1 2 0 = τa
  have fa : Fr [] [(1, 2), (1, 3)] τ τa := by rw [← hτa]; exact (Fr.rf.i rfl).i rfl
  have Ta : TT τa gg n 0 (min n 55) := by
    rw [← hτa]
    exact ⟨hT.2.1, rfl, rfl, by omega, by omega, hn80, fun j hj => ⟨(hg j hj).1, (hg j hj).2.2⟩⟩
  -- the reference's beginning
  have begin : ∀ (τ5 : St) (Q : Qt), Fr [10, 52] [(1, 1), (1, 2), (1, 3), (9, 1), (13, 2)] τ τ5 → (∀ τ6, Fr [] [(69, 0), (69, 14), (69, 15), (69, 16), (69, 17), (69, 21)] τ5 τ6 → τ6.1 69 14 = 0 → τ6.1 69 16 = nI (min n 55) → τ6.1 69 21 = nI 0 → MR τ6 gg n 0 (min n 55) → Rs M_M_ships 899 Q 29 [some (.ref 69), some (.int (nI n)), some (.int 1), some (.int (if n = 0 then 0 else 1)), none, none] [] τ6) → Cl 900 m_M_ships [.ref 69] τ5 Q := fun τ5 Q f5 hQ => by
    rw [N_M_ships]
    simp only [E_M_ships, fIsA, fRt, fLen, fLit, fBool]
    refine s_begins (n := n) (mx := 55) (by show τ5.1 69 14 = _; rw [f5.u1 69 14 rfl]; exact hT.2.2.1) hn80 (by omega) ?_
    simp only [oT, E_M_ships, fIsA, fRt, fLen, fLit, fBool]
    generalize hτ6 : sI (sI (sI (sI (sI (sI τ5 69 0 0) 69 14 0) 69 15 0) 69 17 0) 69 16 (nI (min n 55))) 69 21 0 = τ6
    have f56 : Fr [] [(69, 0), (69, 14), (69, 15), (69, 16), (69, 17), (69, 21)] τ5 τ6 := by rw [← hτ6]; exact (((((Fr.rf.i rfl).i rfl).i rfl).i rfl).i rfl).i rfl
    have q := hQ τ6 f56 (by rw [← hτ6]; rfl) (by rw [← hτ6]; rfl) (by rw [← hτ6]; rfl) ⟨by rw [← hτ6]; rfl, by rw [← hτ6]; rfl, by omega, by omega, hn80, fun j hj => ⟨by rw [f56.c1 77 rfl, f5.c1 77 rfl]; exact (hg j hj).2.1, (hg j hj).2.2⟩⟩
    refine ⟨fun z => ?_, fun z => ?_⟩
    · rw [if_pos (by have := (nI_leI (b := 0) (by omega) (by omega)).mp z; omega)] at q
      exact q
    · rw [if_neg (fun w => z (by rw [w]; exact Int32.le_refl _))] at q
      exact q
  refine s_finished (n := n) (p := 0) Ta.1 Ta.2.1 hn80 (by omega) ?_
  by_cases n0 : n = 0
  · -- nothing is told
    rw [if_pos n0.symm]
    simp only [oT, E_H_ships, fIsA, fRt, fLen, fLit, fBool]
    rw [Rs_eq]
    simp only [E_H_ships, fIsA, fRt, fLen, fLit, fBool]
    refine s_empty ?_
    simp only [oN, E_H_ships, fIsA, fRt, fLen, fLit, fBool]
    have f5 : Fr [] [(1, 1), (1, 2), (1, 3)] τ (sI τa 1 1 0) := (fa.wk rfl).i rfl
    refine begin _ _ (f5.wk rfl) (fun τ6 f6 e14 e16 e21 M6 => ?_)
    rw [if_pos n0]
    rw [Rs_eq]
    simp only [E_M_ships, fIsA, fRt, fLen, fLit, fBool]
    refine s_faultOf (p := 0) (mx := 55) (Or.inr rfl) M6.1 e16 (Nat.zero_le _) hn80 (by omega) ?_
    rw [if_pos ⟨rfl, n0.symm⟩]
    simp only [oT, E_M_ships, fIsA, fRt, fLen, fLit, fBool]
    rw [Rs_eq]
    simp only [E_M_ships, fIsA, fRt, fLen, fLit, fBool, e21]
    refine ⟨fun _ => ⟨fun _ => ?_, fun z => absurd (Int32.le_refl _) z⟩, fun z => absurd (Int32.le_refl _) z⟩
    have F : Fr [] [(1, 1), (1, 2), (1, 3), (69, 0), (69, 14), (69, 15), (69, 16), (69, 17), (69, 21)] τ τ6 := (f5.wk rfl).tr (f6.wk rfl)
    exact ok rfl (hA.inv F rfl (n := 0) ⟨by omega, by rw [f6.u1 1 1 rfl]; rfl, e14, fun j hj => absurd hj (Nat.not_lt_zero j)⟩ (hR.fr F rfl))
  · rw [if_neg (fun z => n0 z.symm)]
    simp only [oT, E_H_ships, fIsA, fRt, fLen, fLit, fBool]
    have LO := li_ok (g := gg) (m := min n 55) (kd := kd) (F := R * C) (N := n) (8 - ns) 0 (by omega)
    obtain ⟨l, bb, en, hL⟩ : ∃ l bb en, liF gg (min n 55) kd (R * C) n (8 - ns) 0 = (l, bb, en) := ⟨_, _, _, rfl⟩
    rw [hL] at LO
    obtain ⟨LO1, LO2⟩ := LO
    have LO1 : en ≤ min n 55 := LO1
    have LO2 : bb = true → en = n ∧ (0 < l.length ∧ l.length ≤ 8 - ns) ∧ ∀ a ∈ l, (1 ≤ a.1 ∧ a.1 ≤ 99) ∧ a.2 < R * C ∧ kd a.2 = 1 := LO2
    have a91 : τa.1 9 1 = nI ns := (fa.c1 9 rfl 1).trans b.2.2.1
    rw [N_H_readLines]
    simp only [E_H_readLines, fIsA, fRt, fLen, fLit, fBool, a91]
    refine s_readLines_loop (ns := ns) (N := n) (m := min n 55) (g := gg) rfl hn80 (8 - ns) ns 0 τa (by omega) (by omega) (a.fr fa rfl) Ta a91 (fun τ1 f1 e12 o1 y1 => ?_)
    rw [hL] at e12 y1 ⊢
    have F1 : Fr [10, 52] [(1, 2), (1, 3)] τ τ1 := (fa.wk rfl).tr (f1.wk rfl)
    have oc : ∀ s, s < ns → τ1.1 52 s = τ.1 52 s ∧ τ1.1 10 s = τ.1 10 s := fun s hs => ⟨(o1 s hs).1.trans (fa.c1 52 rfl s), (o1 s hs).2.trans (fa.c1 10 rfl s)⟩
    -- the reference's reading
    have reads : ∀ (τ5 : St) (Q : Qt), Fr [10, 52] [(1, 1), (1, 2), (1, 3), (9, 1), (13, 2)] τ τ5 → (∀ τ7 y, Fr [79] [(69, 0), (69, 14), (69, 15), (69, 16), (69, 17), (69, 21)] τ5 τ7 → τ7.1 69 14 = 0 → τ7.1 69 15 = nI en → τ7.1 69 16 = nI (min n 55) → (y = 0 ∨ y = 1) → ((y = 1 ∧ en = n) ↔ bb = true) → (bb = true → τ7.1 69 21 = nI (0 + l.length) ∧ liC (fun s => τ7.1 79 (2 * s)) (fun s => τ7.1 79 (2 * s + 1)) 0 l) → Rs M_M_ships 899 Q 29 [some (.ref 69), some (.int (nI n)), some (.int y), some (.int 0), none, none] [] τ7) → Cl 900 m_M_ships [.ref 69] τ5 Q := fun τ5 Q f5 hQ => by
      refine begin τ5 Q f5 (fun τ6 f6 e14 e16 e21 M6 => ?_)
      rw [if_neg n0]
      refine s_Mships_loop (d := 894) (ns := ns) (N := n) (m := min n 55) (g := gg) (kd := kd) (R := R) (C := C) (ht := ht) rfl hn80 (8 - ns) 0 0 1 τ6 (by omega) (by omega) ((a.fr f5 rfl).fr f6 rfl) M6 (by rw [f6.u1 69 5 rfl, f5.u1 69 5 rfl]; exact b.2.1) e21 (fun τ7 y f7 e15 hy hb y7 => ?_)
      rw [hL] at e15 hb y7
      exact hQ τ7 y ((f6.wk rfl).tr (f7.wk rfl)) (by rw [f7.u1 69 14 rfl]; exact e14) e15 (by rw [f7.u1 69 16 rfl]; exact e16) hy hb (fun z => (y7 z).1)
    have neg1 : ((-1 : Int32) ≤ 0) = True := by decide
    cases bb with
    | false =>
      simp only [oT, E_H_ships, fIsA, fRt, fLen, fLit, fBool, Bool.false_eq_true, if_false]
      rw [Rs_eq]
      simp only [E_H_ships, fIsA, fRt, fLen, fLit, fBool, neg1, e12]
      refine s_empty ?_
      simp only [oN, E_H_ships, fIsA, fRt, fLen, fLit, fBool]
      have f5 : Fr [10, 52] [(1, 1), (1, 2), (1, 3)] τ (sI τ1 1 1 0) := (F1.wk rfl).i rfl
      refine reads _ _ (f5.wk rfl) (fun τ7 y f7 e14 e15 e16 hy hb y7 => ?_)
      rw [Rs_eq]
      simp only [E_M_ships, fIsA, fRt, fLen, fLit, fBool]
      refine s_faultOf (p := en) (mx := 55) hy e15 e16 LO1 hn80 (by omega) ?_
      rw [if_neg (fun z => Bool.false_ne_true (hb.mp z))]
      simp only [oT, E_M_ships, fIsA, fRt, fLen, fLit, fBool]
      refine ⟨fun z => absurd z (negA en (by omega)), fun _ => ok rfl ?_⟩
      have F : Fr [10, 52, 79] [(1, 1), (1, 2), (1, 3), (69, 0), (69, 14), (69, 15), (69, 16), (69, 17), (69, 21)] τ τ7 := (f5.wk rfl).tr (f7.wk rfl)
      have b' : ShI τ7 ns := by
        refine ⟨hn, by rw [F.u1 69 5 rfl]; exact b.2.1, by rw [F.c1 9 rfl]; exact b.2.2.1, fun s hs => ?_⟩
        rw [F.c1 73 rfl, f7.c1 52 rfl]
        show τ1.1 52 s = _ ∧ _
        rw [(oc s hs).1]
        exact b.2.2.2 s hs
      have c' : MoI τ7 9 ns (R * C) (300 * (t + 1)) kd (τ7.1 75) := c.plc (fun j _ => F.c1 9 rfl j) (fun j => F.c2 9 rfl j) (fun s hs => by rw [f7.c1 10 rfl]; exact (oc s hs).2) (fun j _ => F.c1 75 rfl j) (by omega) hn
      have d' : UnI τ7 ns (R * C) (300 * (t + 1)) kd := UnI.fr ⟨fi, un, u1, u2, u3, u4, u5, u6⟩ F rfl (by omega) hn
      exact ⟨R, C, kd, ht, ns, 0, ⟨a.fr F rfl, b', c', d', e.fr F rfl (by omega) (by omega) hn, f.fr F rfl, g.fr F rfl, i.fr F rfl, j.fr F rfl⟩, ⟨by omega, by rw [f7.u1 1 1 rfl]; rfl, e14, fun j hj => absurd hj (Nat.not_lt_zero j)⟩, hR.fr F rfl⟩
    | true =>
      obtain ⟨een, ⟨l0, l8⟩, la⟩ := LO2 rfl
      have ex : nI (ns + l.length) - nI ns = nI l.length := by
        rw [pk_sub (by omega)]; congr 1; omega
      simp only [oT, E_H_ships, fIsA, fRt, fLen, fLit, fBool, if_true, ex]
      rw [Rs_eq]
      have e91' : τ1.1 9 1 = nI ns := (F1.c1 9 rfl 1).trans b.2.2.1
      simp only [E_H_ships, fIsA, fRt, fLen, fLit, fBool, e91', nI_add]
      refine ⟨fun _ => ⟨fun z => absurd ((nI_leI (b := 0) (by omega) (by omega)).mp z) (by omega), fun _ => ?_⟩, fun z => absurd z (nIm (by omega))⟩
      rw [N_Past_clear]
      simp only [E_Past_clear, oN, E_H_ships, fIsA, fRt, fLen, fLit, fBool]
      refine s_empty ?_
      simp only [oN, E_H_ships, fIsA, fRt, fLen, fLit, fBool]
      generalize hτ5 : sI (sI (sI τ1 9 1 (nI (ns + l.length))) 13 2 0) 1 1 0 = τ5
      have f15 : Fr [] [(1, 1), (9, 1), (13, 2)] τ1 τ5 := by rw [← hτ5]; exact ((Fr.rf.i rfl).i rfl).i rfl
      have f5 : Fr [10, 52] [(1, 1), (1, 2), (1, 3), (9, 1), (13, 2)] τ τ5 := (F1.wk rfl).tr (f15.wk rfl)
      refine reads τ5 _ f5 (fun τ7 y f7 e14 e15 e16 hy hb y7 => ?_)
      obtain ⟨e21, hl7⟩ := y7 rfl
      have hyn := hb.mpr rfl
      rw [Rs_eq]
      simp only [E_M_ships, fIsA, fRt, fLen, fLit, fBool]
      refine s_faultOf (p := en) (mx := 55) hy e15 e16 LO1 hn80 (by omega) ?_
      rw [if_pos hyn]
      simp only [oT, E_M_ships, fIsA, fRt, fLen, fLit, fBool]
      obtain ⟨gq, gq1, gq2⟩ := c.row.2.2.2.2.1
      have f57 : Fr [10, 52, 79] [(1, 1), (1, 2), (1, 3), (9, 1), (13, 2), (69, 0), (69, 14), (69, 15), (69, 16), (69, 17), (69, 21)] τ τ7 := (f5.wk rfl).tr (f7.wk rfl)
      refine s_apply gq1 l 0 ns τ7 (Nat.le_refl _) (by omega) (by omega) hl7 e21 (by omega) (by rw [f57.u1 69 5 rfl]; exact b.2.1) (by rw [f57.c1 75 rfl]; exact gq2) (fun τ8 f8 e5 hl8 o73 o75 => ?_)
      have e218 : τ8.1 69 21 = nI (0 + l.length) := (f8.u1 69 21 rfl).trans e21
      rw [Rs_eq]
      simp only [E_M_ships, fIsA, fRt, fLen, fLit, fBool, e218]
      refine ⟨fun _ => ⟨fun z => absurd ((nI_leI (b := 0) (by omega) (by omega)).mp z) (by omega), fun _ => ?_⟩, fun z => absurd (Int32.le_refl _) z⟩
      simp only [sI_1, reduceIte, Nat.reduceEqDiff, e218]
      refine ok (by rw [Nat.zero_add]) ?_
      obtain ⟨ch, ch1, ch2, ch3⟩ := e
      have e86 : τ8.1 69 6 = nI ch := by rw [f8.u1 69 6 rfl, f57.u1 69 6 rfl]; exact ch2
      rw [e86, nI_1]
      generalize hτ9 : sI (sI τ8 69 28 0) 69 6 (nI (ch + 1)) = τ9
      have f89 : Fr [] [(69, 6), (69, 28)] τ8 τ9 := by rw [← hτ9]; exact (Fr.rf.i rfl).i rfl
      have f79 : Fr [73, 75] [(69, 5), (69, 6), (69, 28)] τ7 τ9 := (f8.wk rfl).tr (f89.wk rfl)
      have F : Fr [10, 52, 73, 75, 79] [(1, 1), (1, 2), (1, 3), (9, 1), (13, 2), (69, 0), (69, 5), (69, 6), (69, 14), (69, 15), (69, 16), (69, 17), (69, 21), (69, 28)] τ τ9 := (f57.wk rfl).tr (f79.wk rfl)
      have f59 : Fr [73, 75, 79] [(69, 0), (69, 5), (69, 6), (69, 14), (69, 15), (69, 16), (69, 17), (69, 21), (69, 28)] τ5 τ9 := (f7.wk rfl).tr (f79.wk rfl)
      have hc1 : ∀ j, ns ≤ j → j < ns + l.length → τ9.1 52 j = τ9.1 73 j ∧ τ9.1 10 j = τ9.1 75 (36 + j) ∧ ∃ a, a ∈ l ∧ τ9.1 73 j = nI a.1 ∧ τ9.1 75 (36 + j) = nI a.2 := fun j h1 h2 => by
        have q1 := liC_at l ns (y1 rfl) j h1 h2
        have q2 := liC_at l ns hl8 j h1 h2
        have p1 : τ9.1 52 j = τ1.1 52 j := by rw [f59.c1 52 rfl, f15.c1 52 rfl]
        have p2 : τ9.1 10 j = τ1.1 10 j := by rw [f59.c1 10 rfl, f15.c1 10 rfl]
        have p3 : τ9.1 73 j = τ8.1 73 j := f89.c1 73 rfl j
        have p4 : τ9.1 75 (36 + j) = τ8.1 75 (36 + j) := f89.c1 75 rfl _
        refine ⟨by rw [p1, p3, q1.1, q2.1], by rw [p2, p4, q1.2.1]; exact q2.2.1.symm, _, q2.2.2, by rw [p3]; exact q2.1, by rw [p4]; exact q2.2.1⟩
      have ho1 : ∀ j, j < ns → τ9.1 52 j = τ.1 52 j ∧ τ9.1 10 j = τ.1 10 j ∧ τ9.1 73 j = τ.1 73 j := fun j hj => by
        refine ⟨by rw [f59.c1 52 rfl, f15.c1 52 rfl]; exact (oc j hj).1, by rw [f59.c1 10 rfl, f15.c1 10 rfl]; exact (oc j hj).2, ?_⟩
        rw [f89.c1 73 rfl, o73 j hj]
        exact f57.c1 73 rfl j
      have ho2 : ∀ j, j < 36 + ns ∨ 44 ≤ j → τ9.1 75 j = τ.1 75 j := fun j hj => by
        rw [f89.c1 75 rfl, o75 j hj]
        exact f57.c1 75 rfl j
      have b' : ShI τ9 (ns + l.length) := by
        refine ⟨by omega, by rw [f89.u1 69 5 rfl]; exact e5, by rw [f59.c1 9 rfl, ← hτ5]; rfl, fun s hs => ?_⟩
        by_cases q : s < ns
        · rw [(ho1 s q).1, (ho1 s q).2.2]; exact b.2.2.2 s q
        · obtain ⟨q1, q2, w, q3, q4, q5⟩ := hc1 s (by omega) hs
          exact ⟨q1, w.1, (la w q3).1.1, (la w q3).1.2, q4⟩
      have c' : MoI τ9 9 (ns + l.length) (R * C) (300 * (t + 1)) kd (τ9.1 75) := by
        obtain ⟨m1, m2, m3, m4, ⟨m5, m51, m52⟩, m6, ⟨m7, m71, m72⟩, m8⟩ := c
        have p9 : ∀ j, j ≠ 1 → τ9.1 9 j = τ.1 9 j := fun j hj => (F 9 j (by decide) (by simp; omega)).1
        refine ⟨fun s hs => ?_, ?_, fun ff hf => ?_, fun ff h1 h2 => ?_, ⟨m5, by omega, ?_⟩, ?_, ⟨m7, ?_, ?_⟩, ?_⟩
        · by_cases q : s < ns
          · rw [(ho1 s q).2.1, ho2 _ (by omega)]; exact m1 s q
          · obtain ⟨q1, q2, w, q3, q4, q5⟩ := hc1 s (by omega) hs
            exact ⟨q2, w.2, (la w q3).2.1, by rw [(la w q3).2.2]; decide, q5⟩
        · rw [p9 2 (by omega), p9 4 (by omega), p9 5 (by omega), p9 6 (by omega), p9 7 (by omega), p9 8 (by omega), ho2 44 (by omega), ho2 45 (by omega), ho2 46 (by omega), ho2 47 (by omega), ho2 48 (by omega), ho2 49 (by omega)]
          exact m2
        · rw [ho2 ff (by omega), F.u2 9 3 rfl]; exact m3 ff hf
        · rw [F.u2 9 3 rfl]; exact m4 ff h1 h2
        · rw [ho2 46 (by omega)]; exact m52
        · rw [ho2 47 (by omega)]; exact m6
        · exact Nat.lt_of_lt_of_le m71 (Nat.pow_le_pow_right (by omega) (by omega))
        · rw [ho2 44 (by omega)]; exact m72
        · rw [ho2 45 (by omega)]; exact m8
      have d' : UnI τ9 (ns + l.length) (R * C) (300 * (t + 1)) kd := ⟨fi, 0, u1, by omega, by rw [F.u1 13 1 rfl]; exact u3, by rw [f59.u1 13 2 rfl, ← hτ5]; rfl, by rw [← hτ9]; rfl, fun i hi => absurd hi (Nat.not_lt_zero i)⟩
      have e' : KeI τ9 (t + 1) (ns + l.length) (R * C) (300 * (t + 1)) kd := by
        refine ⟨ch + 1, by omega, by rw [← hτ9]; rfl, fun i hi => Or.inr ?_⟩
        have k1 : τ9.1 (46 + 2 * i) 1 = τ.1 (46 + 2 * i) 1 := by rcases (show i = 0 ∨ i = 1 ∨ i = 2 by omega) with rfl | rfl | rfl <;> exact F.u1 _ _ rfl
        rw [F.c1 98 rfl, F.c1 99 rfl, k1]
        rcases ch3 i hi with ⟨w1, w2, w3, w4⟩ | ⟨w1, w2⟩
        · exact ⟨Or.inr ⟨w1, ch, by omega, w2⟩, Or.inr ⟨ns, by omega, w3⟩⟩
        · refine ⟨?_, ?_⟩
          · rcases w1 with w1 | ⟨w1, c0, w3, w4⟩
            · exact Or.inl w1
            · exact Or.inr ⟨w1, c0, by omega, w4⟩
          · rcases w2 with w2 | ⟨m0, w3, w4⟩
            · exact Or.inl w2
            · exact Or.inr ⟨m0, by omega, w4⟩
      exact ⟨R, C, kd, ht, ns + l.length, 0, ⟨a.fr F rfl, b', c', d', e', f.fr F rfl, g.fr F rfl, i.fr F rfl, j.fr F rfl⟩, ⟨by omega, by rw [f59.u1 1 1 rfl, ← hτ5]; rfl, by rw [f79.u1 69 14 rfl]; exact e14, fun j hj => absurd hj (Nat.not_lt_zero j)⟩, hR.fr F rfl⟩
