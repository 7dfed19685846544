/-! PAIRS: walls, the reference, and both -/
theorem s_Mwalls {d s m v : Nat} {y : Nat → Nat} {Q : Qt} {τ : St} (hs0 : 0 < s) (hs : s ≤ 4) (hm : m ≤ 99) (h41 : τ.1 69 41 = nI s) (hy : ∀ i, i < s → τ.1 91 i = nI (y i) ∧ y i ≤ 9) (b0 : v ≤ 100 * m) (b1 : fmW y v s 0 0 ≤ m) (b2 : m < fmW y (v + 1) s 0 0)
    (hQ : ∀ τ', Fr [70] [(69, 1)] τ τ' → τ'.1 69 1 = nI s → (∀ i, i < s → τ'.2 70 i = (enW y v s (nI m) i).toInt64) → Q (some (.int (nI v))) τ') : Rs M_M_walls (d + 2) Q 134 [some (.ref 69), some (.int (nI m)), some (.int 1), some (.int 0), none, none, none] [] τ := by
  have row : ∀ (u i : Nat) (x : Int32) (τ1 : St) (l : Option Value), i + u = s → (0 < u → x = lfW y v (nI m) i) → Fr [70] [(69, 1)] τ τ1 → τ1.1 69 1 = nI i → (∀ j, j < i → τ1.2 70 j = (enW y v s (nI m) j).toInt64) → Rs M_M_walls (d + 2) Q 162 [some (.ref 69), some (.int (nI m)), some (.int 1), some (.int (nI v)), some (.int x), some (.int (nI i)), l] [] τ1 := by
    intro u
    induction u with
    | zero =>
      intro i x τ1 l hi hx fr h3 hr
      obtain rfl : i = s := by omega
      rw [Rs_eq]
      simp only [E_M_walls, fIsA, fRt, fLen, fLit, fBool, fr.u1 69 41 rfl, h41]
      exact ⟨fun _ => hQ τ1 fr h3 hr, fun z => absurd (Int32.le_refl _) z⟩
    | succ u ih =>
      intro i x τ1 l hi hx fr h3 hr
      have hx := hx (by omega)
      subst hx
      have e : nI s - 1 = nI (s - 1) := pk_sub (b := 1) (by omega)
      have step : ∀ (w : Int32) (z : Int32) (l : Option Value), w = enW y v s (nI m) i → (0 < u → z = lfW y v (nI m) (i + 1)) → Rs M_M_walls (d + 2) Q 162 [some (.ref 69), some (.int (nI m)), some (.int 1), some (.int (nI v)), some (.int z), some (.int (nI (i + 1))), l] [] (sI (sL τ1 70 i w.toInt64) 69 1 (nI (i + 1))) := fun w z l hw hz => by
        refine ih (i + 1) z _ l (by omega) hz ((fr.lc rfl).i rfl) rfl (fun j hj => ?_)
        rw [sI_2]
        simp only [sL_2, reduceIte]
        by_cases c : j = i
        · subst c; rw [if_pos rfl, hw]
        · rw [if_neg c]; exact hr j (by omega)
      rw [Rs_eq]
      simp only [E_M_walls, fIsA, fRt, fLen, fLit, fBool, fr.u1 69 41 rfl, h41, e]
      refine ⟨fun z => absurd z (nI_ge (by omega) (by omega)), fun _ => ⟨fun z => ?_, fun z => ?_⟩⟩
      · have z : i ≠ s - 1 := fun w => z (by rw [w])
        refine s_needs (y := y) (by omega) (by omega) (hy i (by omega)).2 (by rw [fr.c1 91 rfl]; exact (hy i (by omega)).1) ?_
        simp only [oT, E_M_walls, fIsA, fRt, fLen, fLit, fBool]
        refine s_Menters h3 (by omega) ?_
        simp only [oN, E_M_walls, fIsA, fRt, fLen, fLit, fBool, nI_1]
        exact step _ _ _ (by unfold enW; rw [if_neg (by omega)]) (fun _ => rfl)
      · have z := (nI_eq (by omega) (by omega)).mp z
        refine s_Menters h3 (by omega) ?_
        simp only [oN, E_M_walls, fIsA, fRt, fLen, fLit, fBool, nI_1]
        exact step _ _ _ (by unfold enW; rw [if_pos (by omega)]) (fun w => by omega)
  have find : ∀ (u w : Nat), w + u = v → Rs M_M_walls (d + 2) Q 134 [some (.ref 69), some (.int (nI m)), some (.int 1), some (.int (nI w)), none, none, none] [] τ := by
    intro u
    induction u with
    | zero =>
      intro w hw
      obtain rfl : w = v := by omega
      rw [Rs_eq]
      simp only [E_M_walls, fIsA, fRt, fLen, fLit, fBool, nI_1]
      refine s_canHold hs (by omega) hm h41 hy ?_
      rw [if_neg (by omega)]
      simp only [oT, E_M_walls, fIsA, fRt, fLen, fLit, fBool]
      exact row s 0 (nI m) _ none (by omega) (fun _ => rfl) (Fr.rf.i rfl) rfl (fun j hj => absurd hj (Nat.not_lt_zero j))
    | succ u ih =>
      intro w hw
      rw [Rs_eq]
      simp only [E_M_walls, fIsA, fRt, fLen, fLit, fBool, nI_1]
      refine s_canHold hs (by omega) hm h41 hy ?_
      rw [if_pos ((best_le (w := w + 1) b1 b2).mpr (by omega))]
      simp only [oT, E_M_walls, fIsA, fRt, fLen, fLit, fBool, nI_1]
      exact ih (w + 1) (by omega)
  exact find v 0 (Nat.zero_add _)
theorem p_walls (t : Nat) (x : Int32) : PrI t m_H_walls m_M_walls [.int x] := by
  intro ht0 τ h
  obtain ⟨R, C, kd, ht, ns, n, hA, hT, hR⟩ := h
  have hn80 := hT.1
  obtain ⟨g, hg⟩ := hT.bytes
  -- the reference's beginning, behind the class
  have begin : ∀ (τ5 : St) (Q : Qt), τ5.1 69 14 = nI n → (∀ τ6, Fr [] [(69, 0), (69, 14), (69, 15), (69, 16), (69, 17)] τ5 τ6 → τ6.1 69 14 = 0 → τ6.1 69 15 = 0 → τ6.1 69 16 = nI n → (0 ≤ x ∧ x ≤ nI 99 → Rs M_M_walls 899 Q 34 [some (.ref 69), some (.int x), some (.int 1), none, none, none, none] [] (sI τ6 69 41 0)) ∧ (¬ (0 ≤ x ∧ x ≤ nI 99) → Q (some (.int (-100))) τ6)) → Cl 900 m_M_walls [.ref 69, .int x] τ5 Q := fun τ5 Q h14 hQ => by
    rw [N_M_walls]
    simp only [E_M_walls, fIsA, fRt, fLen, fLit, fBool]
    refine s_begins (n := n) (mx := 80) h14 hn80 (by omega) ?_
    simp only [oT, E_M_walls, fIsA, fRt, fLen, fLit, fBool]
    rw [Nat.min_eq_left hn80]
    have q := hQ (sI (sI (sI (sI (sI τ5 69 0 0) 69 14 0) 69 15 0) 69 17 0) 69 16 (nI n)) (((((Fr.rf.i rfl).i rfl).i rfl).i rfl).i rfl) rfl rfl rfl
    refine s_inI 0 rfl (nI 99) rfl (fun c1 c2 => ?_) (fun z => ?_)
    · simp only [oT, E_M_walls, fIsA, fRt, fLen, fLit, fBool]
      exact q.1 ⟨c1, c2⟩
    · simp only [oT, E_M_walls, fIsA, fRt, fLen, fLit, fBool]
      exact q.2 z
  have no : ¬ (0 ≤ x ∧ x ≤ nI 99) → Cl 900 m_M_walls [.ref 69, .int x] (sI τ 1 1 0) (fun b τ2 => (∃ z : Int32, some (Value.int (-100)) = some (.int z) ∧ b = some (.int z)) ∧ Inv (t + 1) τ2) := fun w => by
    refine begin _ _ hT.2.2.1 (fun τ6 f6 e14 e15 e16 => ⟨fun z => absurd z w, fun _ => ok rfl ?_⟩)
    have F : Fr [] [(1, 1), (69, 0), (69, 14), (69, 15), (69, 16), (69, 17)] τ τ6 := (Fr.rf.i rfl).tr (f6.wk rfl)
    exact hA.inv F rfl (n := 0) ⟨by omega, by rw [f6.u1 1 1 rfl]; rfl, e14, fun j hj => absurd hj (Nat.not_lt_zero j)⟩ (hR.fr F rfl)
  rw [N_H_walls]
  simp only [E_H_walls, fIsA, fRt, fLen, fLit, fBool]
  refine ⟨fun z => ?_, fun z => ⟨fun z2 => ?_, fun z2 => ?_⟩⟩
  · refine s_empty ?_
    simp only [oN, E_H_walls, fIsA, fRt, fLen, fLit, fBool]
    exact no (fun w => nlt w.1 z)
  · refine s_empty ?_
    simp only [oN, E_H_walls, fIsA, fRt, fLen, fLit, fBool]
    exact no (fun w => nlt w.2 z2)
  · have inR : 0 ≤ x ∧ x ≤ nI 99 := ⟨Int32.not_lt.mp z, Int32.not_lt.mp z2⟩
    obtain ⟨m, hm, rfl⟩ := of0 (n := 99) inR.1 inR.2 (by omega)
    have W := wcD_le (g := g) (n := n) 4 0 (Nat.zero_le _)
    refine s_wread (n := n) (g := g) hT.2.1 hn80 (fun j hj => ⟨(hg j hj).1, (hg j hj).2.2⟩) (fun τ1 f1 e12 e64 hy => ?_)
    by_cases good : 0 < wcD g n 4 0 ∧ wcD g n 4 0 = n
    · rw [if_pos good]
      obtain ⟨v, b0, b1, b2⟩ := best_ex (y := fun j => g j - 48) (s := wcD g n 4 0) (m := m) good.1 (by have := W.2.2 0 (by omega) (by omega); show 1 ≤ g 0 - 48; omega)
      have hyb : ∀ i, i < wcD g n 4 0 → g i - 48 ≤ 9 := fun i hi => by have := W.2.2 i (by omega) (by omega); omega
      simp only [oT, E_H_walls, fIsA, fRt, fLen, fLit, fBool]
      refine s_man (y := fun j => g j - 48) (v := v) good.1 W.1 hm e64 (fun i hi => ⟨hy i hi, hyb i hi⟩) b0 b1 b2 (fun τ2 f2 e31 hr2 => ?_)
      simp only [oT, E_H_walls, fIsA, fRt, fLen, fLit, fBool]
      refine s_empty ?_
      simp only [oN, E_H_walls, fIsA, fRt, fLen, fLit, fBool]
      have f02 : Fr [4, 65] [(3, 1), (64, 1), (1, 1), (1, 2), (1, 3)] τ (sI τ2 1 1 0) := ((f1.wk rfl).tr (f2.wk rfl)).i rfl
      refine begin _ _ ((f02.u1 69 14 rfl).trans hT.2.2.1) (fun τ6 f6 e14 e15 e16 => ⟨fun _ => ?_, fun w => absurd inR w⟩)
      have F6 : Fr [4, 65] [(3, 1), (64, 1), (1, 1), (1, 2), (1, 3), (69, 0), (69, 14), (69, 15), (69, 16), (69, 17), (69, 41)] τ (sI τ6 69 41 0) := ((f02.wk rfl).tr (f6.wk rfl)).i rfl
      refine s_Mwread (d := 896) (τ := sI τ6 69 41 0) (mm := nI m) (n := n) (g := g) e15 e16 rfl hn80 (fun j hj => ⟨by rw [F6.c1 77 rfl]; exact (hg j hj).2.1, (hg j hj).2.2⟩) (fun w => absurd good w) (fun _ τ7 f7 e41 hy7 => ?_) none
      refine s_Mwalls (y := fun j => g j - 48) (v := v) good.1 W.1 hm e41 (fun i hi => ⟨hy7 i hi, hyb i hi⟩) b0 b1 b2 (fun τ8 f8 e691 hr8 => ?_)
      refine ok rfl ?_
      have F : Fr [4, 65, 70, 91] [(3, 1), (64, 1), (1, 1), (1, 2), (1, 3), (69, 0), (69, 1), (69, 14), (69, 15), (69, 16), (69, 17), (69, 41)] τ τ8 := (F6.wk rfl).tr ((f7.wk rfl).tr (f8.wk rfl))
      have F2 : Fr [70, 91] [(1, 1), (69, 0), (69, 1), (69, 14), (69, 15), (69, 16), (69, 17), (69, 41)] τ2 τ8 := ((Fr.rf.i rfl).tr ((f6.wk rfl).tr (Fr.rf.i rfl))).tr ((f7.wk rfl).tr (f8.wk rfl))
      refine hA.inv F rfl (n := 0) ⟨by omega, ?_, ?_, fun j hj => absurd hj (Nat.not_lt_zero j)⟩ ⟨wcD g n 4 0, by omega, ?_, e691, fun j hj => ?_⟩
      · rw [f8.u1 1 1 rfl, f7.u1 1 1 rfl]
        show τ6.1 1 1 = _
        rw [f6.u1 1 1 rfl]
        rfl
      · rw [f8.u1 69 14 rfl, f7.u1 69 14 rfl]
        exact e14
      · rw [F2.u1 3 1 rfl]; exact e31
      · rw [F2.c2 4 rfl, hr2 j hj, hr8 j hj]
    · rw [if_neg good]
      simp only [oT, E_H_walls, fIsA, fRt, fLen, fLit, fBool, e12]
      refine s_empty ?_
      simp only [oN, E_H_walls, fIsA, fRt, fLen, fLit, fBool]
      have f02 : Fr [65] [(64, 1), (1, 1), (1, 2), (1, 3)] τ (sI τ1 1 1 0) := (f1.wk rfl).i rfl
      refine begin _ _ ((f02.u1 69 14 rfl).trans hT.2.2.1) (fun τ6 f6 e14 e15 e16 => ⟨fun _ => ?_, fun w => absurd inR w⟩)
      have F6 : Fr [65] [(64, 1), (1, 1), (1, 2), (1, 3), (69, 0), (69, 14), (69, 15), (69, 16), (69, 17), (69, 41)] τ (sI τ6 69 41 0) := ((f02.wk rfl).tr (f6.wk rfl)).i rfl
      refine s_Mwread (d := 896) (τ := sI τ6 69 41 0) (mm := nI m) (n := n) (g := g) e15 e16 rfl hn80 (fun j hj => ⟨by rw [F6.c1 77 rfl]; exact (hg j hj).2.1, (hg j hj).2.2⟩) (fun _ τ7 f7 => ok rfl ?_) (fun w => absurd w good) none
      have F : Fr [65, 91] [(64, 1), (1, 1), (1, 2), (1, 3), (69, 0), (69, 14), (69, 15), (69, 16), (69, 17), (69, 41)] τ τ7 := (F6.wk rfl).tr (f7.wk rfl)
      refine hA.inv F rfl (n := 0) ⟨by omega, ?_, ?_, fun j hj => absurd hj (Nat.not_lt_zero j)⟩ (hR.fr F rfl)
      · rw [f7.u1 1 1 rfl]
        show τ6.1 1 1 = _
        rw [f6.u1 1 1 rfl]
        rfl
      · rw [f7.u1 69 14 rfl]
        exact e14
