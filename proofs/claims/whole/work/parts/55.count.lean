/-! SHIPS over; PAIRS: count -/
section OV
variable {d R C ns B : Nat} {kd ht : Nat → Nat} {Q : Qt} {τ : St}
def ovS (kd : Nat → Nat) (τ : St) (s : Nat) : Prop := kd (τ.1 75 (36 + s)).toNatClampNeg = 2
theorem s_isOver (g : GI τ R C kd ht) (sh : ShI τ ns) (m : MoI τ 9 ns (R * C) B kd (τ.1 75)) {s : Nat} (hs : s < ns) (y : ovS kd τ s → Q (some (.int 1)) τ) (no : ¬ ovS kd τ s → Q (some (.int 0)) τ) : Cl (d + 3) m_H_isOver [.ref 0, .int (nI s)] τ Q := by
  have hn := g.n36
  have h8 := sh.1
  obtain ⟨e1, f, hf, hk, e2⟩ := m.1 s hs
  rw [N_H_isOver]
  simp only [E_H_isOver, fIsA, fRt, fLen, fLit, fBool]
  refine s_placeOf (by omega) ?_
  simp only [oT, E_H_isOver, fIsA, fRt, fLen, fLit, fBool]
  rw [show (10 : Nat) = 9 + 1 from rfl, e1, e2]
  refine s_Gkind g hf ?_
  simp only [oT, E_H_isOver, fIsA, fRt, fLen, fLit, fBool]
  have e3 : ovS kd τ s ↔ kd f = 2 := by unfold ovS; rw [e2, nI_clamp (by omega)]
  have k3 := (g.2.2.1 f hf).1.1
  refine ⟨fun q => no (fun z => q (by rw [e3.mp z]; rfl)), fun q => y (e3.mpr ((nI_eq (b := 2) (by omega) (by omega)).mp q))⟩
theorem s_shipsOver (g : GI τ R C kd ht) (sh : ShI τ ns) (mo : MoI τ 9 ns (R * C) B kd (τ.1 75)) (hQ : Q (some (.int (fb (ovS kd τ) ns 0 0))) τ) : Cl (d + 4) m_H_shipsOver [.ref 0] τ Q := by
  have hn := sh.1
  rw [N_H_shipsOver]
  simp only [E_H_shipsOver, fIsA, fRt, fLen, fLit, fBool]
  have loop : ∀ (m i : Nat) (a : Int32), i + m = ns → Q (some (.int (fb (ovS kd τ) m i a))) τ → Rs M_H_shipsOver (d + 3) Q 4 [some (.ref 0), some (.int a), some (.int (nI i))] [] τ := by
    intro m
    induction m with
    | zero =>
      intro i a hi hq
      obtain rfl : i = ns := by omega
      rw [Rs_eq]
      simp only [E_H_shipsOver, fIsA, fRt, fLen, fLit, fBool, sh.2.2.1]
      exact ⟨fun _ => hq, fun q => absurd (Int32.le_refl _) q⟩
    | succ m ih =>
      intro i a hi hq
      rw [fb] at hq
      rw [Rs_eq]
      simp only [E_H_shipsOver, fIsA, fRt, fLen, fLit, fBool, sh.2.2.1]
      refine ⟨fun q => absurd q (nI_ge (by omega) (by omega)), fun _ => s_isOver g sh mo (by omega) (fun q => ?_) (fun q => ?_)⟩
      · simp only [oT, E_H_shipsOver, fIsA, fRt, fLen, fLit, fBool, nI_1]
        rw [if_pos q] at hq; exact ih (i + 1) _ (by omega) hq
      · simp only [oT, E_H_shipsOver, fIsA, fRt, fLen, fLit, fBool, nI_1]
        rw [if_neg q] at hq; exact ih (i + 1) _ (by omega) hq
  exact loop ns 0 0 (by omega) hQ
theorem s_MinHarbour (g : GI τ R C kd ht) (sh : ShI τ ns) (mo : MoI τ 9 ns (R * C) B kd (τ.1 75)) (hQ : Q (some (.int (fb (ovS kd τ) ns 0 0))) τ) : Cl (d + 1) m_M_inHarbour [.ref 69, .ref 75] τ Q := by
  have hn := sh.1
  have hn2 := g.n36
  rw [N_M_inHarbour]
  simp only [E_M_inHarbour, fIsA, fRt, fLen, fLit, fBool]
  have loop : ∀ (m i : Nat) (a : Int32), i + m = ns → Q (some (.int (fb (ovS kd τ) m i a))) τ → Rs M_M_inHarbour d Q 4 [some (.ref 69), some (.ref 75), some (.int a), some (.int (nI i))] [] τ := by
    intro m
    induction m with
    | zero =>
      intro i a hi hq
      obtain rfl : i = ns := by omega
      rw [Rs_eq]
      simp only [E_M_inHarbour, fIsA, fRt, fLen, fLit, fBool, sh.2.1]
      exact ⟨fun _ => hq, fun q => absurd (Int32.le_refl _) q⟩
    | succ m ih =>
      intro i a hi hq
      obtain ⟨e1, f, hf, hk, e2⟩ := mo.1 i (by omega)
      have e3 : ovS kd τ i ↔ kd f = 2 := by unfold ovS; rw [e2, nI_clamp (by omega)]
      have k3 := (g.2.2.1 f hf)
      have e : (36 : Int32) + nI i = nI (36 + i) := nI_add 36 i
      rw [fb] at hq
      rw [Rs_eq]
      simp only [E_M_inHarbour, fIsA, fRt, fLen, fLit, fBool, sh.2.1, nI_1, e, nI_clamp (show 36 + i < 2 ^ 31 by omega), e2, nI_clamp (show f < 2 ^ 31 by omega), k3.2.1, Int32.or_zero]
      refine ⟨fun q => absurd q (nI_ge (by omega) (by omega)), fun _ => ⟨vp_in_nI (by omega) (by omega), vp_in_nI (by omega) (by omega), fun q => ?_, fun q => ?_⟩⟩
      · rw [if_neg (show ¬ ovS kd τ i from fun z => q (by rw [e3.mp z]; rfl))] at hq; exact ih (i + 1) _ (by omega) hq
      · have k4 := k3.1.1
        rw [if_pos (e3.mpr ((nI_eq (b := 2) (by omega) (by omega)).mp q))] at hq; exact ih (i + 1) _ (by omega) hq
  exact loop ns 0 0 (by omega) hQ
theorem s_MplankMany (mo : MoI τ 9 ns (R * C) B kd (τ.1 75)) (hQ : Q (some (.int (nI (sb (τ.2 9 3) 36 0 0)))) τ) : Cl (d + 1) m_M_plankMany [.ref 69, .ref 75] τ Q := by
  rw [N_M_plankMany]
  simp only [E_M_plankMany, fIsA, fRt, fLen, fLit, fBool]
  have loop : ∀ (m i a : Nat), i + m = 36 → Q (some (.int (nI (sb (τ.2 9 3) m i a)))) τ → Rs M_M_plankMany d Q 4 [some (.ref 69), some (.ref 75), some (.int (nI a)), some (.int (nI i))] [] τ := by
    intro m
    induction m with
    | zero =>
      intro i a hi hq
      obtain rfl : i = 36 := by omega
      rw [Rs_eq]
      simp only [E_M_plankMany, fIsA, fRt, fLen, fLit, fBool]
      exact ⟨fun _ => hq, fun q => absurd (Int32.le_refl _) q⟩
    | succ m ih =>
      intro i a hi hq
      have e1 := mo.2.2.1 i (by omega)
      have e2 : nI a + τ.1 75 i = nI (a + (bitL (τ.2 9 3) i).toNat) := by
        rw [e1, ← nI_add]
        cases bitL (τ.2 9 3) i <;> rfl
      rw [sb] at hq
      rw [Rs_eq]
      simp only [E_M_plankMany, fIsA, fRt, fLen, fLit, fBool, nI_1, nI_clamp (show i < 2 ^ 31 by omega), e2]
      exact ⟨fun q => absurd q (nI_ge (b := 36) (by omega) (by omega)), fun _ => ⟨vp_in_nI (by omega) (by omega), ih (i + 1) _ (by omega) hq⟩⟩
  exact loop 36 0 0 rfl hQ
end OV
def swH : List (Int32 × Nat) := [(0, 80), (1, 88), (2, 96), (3, 104), (4, 109), (5, 117), (6, 125), (7, 133), (8, 138), (9, 146), (10, 154), (11, 165), (12, 170), (13, 178), (14, 186), (15, 194)]
def swM : List (Int32 × Nat) := [(0, 84), (1, 89), (2, 94), (3, 99), (4, 106), (5, 114), (6, 122), (7, 130), (8, 137), (9, 145), (10, 153), (11, 162), (12, 171), (13, 176), (14, 181), (15, 186)]
theorem p_count (t : Nat) (x : Int32) : PrI t m_H_count m_M_count [.int x] := by
  intro ht0 τ h
  obtain ⟨R, C, kd, ht, ns, n, hA, hT, hR⟩ := h
  have ⟨a, b, c, d, e, f, g, i, j⟩ := hA
  obtain ⟨tn, lo, hi, g1, g2, g3, g4, g5, g6, g7, g8, g9, g10⟩ := g
  obtain ⟨fi, un, u1, u2, u3, u4, u5, u6⟩ := d
  have ⟨rn, r1, r2, r3, r4⟩ := hR
  have fin : Inv (t + 1) (sI τ 69 0 0) := hA.inv3 hT hR fr690 rfl
  have c' := c.fr9 (fr690 (v := 0)) rfl (Nat.le_refl t) b.1
  rw [N_H_count]
  simp only [E_H_count, fIsA, fRt, fLen, fLit, fBool]
  refine ⟨fun q hq hx => ?_, fun hx => ?_⟩
  · simp only [List.mem_cons, List.not_mem_nil, or_false] at hq
    rcases hq with rfl | rfl | rfl | rfl | rfl | rfl | rfl | rfl | rfl | rfl | rfl | rfl | rfl | rfl | rfl | rfl
    · subst hx
      simp only [E_H_count, fIsA, fRt, fLen, fLit, fBool]
      rw [N_M_count]
      simp only [E_M_count, fIsA, fRt, fLen, fLit, fBool]
      refine ⟨fun q hq hx => ?_, fun z => absurd rfl (z (0, 84) (by decide))⟩
      have hp : q.2 = 84 := (by decide : ∀ q ∈ swM, (0 : Int32) = q.1 → q.2 = 84) q hq hx
      rw [hp]
      simp only [E_M_count, fIsA, fRt, fLen, fLit, fBool, fIx, sI_1, reduceIte, Nat.reduceEqDiff]
      exact ok (a.2.1.1.trans a.2.1.2.2.2.1.symm) fin
    · subst hx
      simp only [E_H_count, fIsA, fRt, fLen, fLit, fBool]
      rw [N_M_count]
      simp only [E_M_count, fIsA, fRt, fLen, fLit, fBool]
      refine ⟨fun q hq hx => ?_, fun z => absurd rfl (z (1, 89) (by decide))⟩
      have hp : q.2 = 89 := (by decide : ∀ q ∈ swM, (1 : Int32) = q.1 → q.2 = 89) q hq hx
      rw [hp]
      simp only [E_M_count, fIsA, fRt, fLen, fLit, fBool, fIx, sI_1, reduceIte, Nat.reduceEqDiff]
      exact ok (a.2.1.2.1.trans a.2.1.2.2.2.2.symm) fin
    · subst hx
      simp only [E_H_count, fIsA, fRt, fLen, fLit, fBool]
      rw [N_M_count]
      simp only [E_M_count, fIsA, fRt, fLen, fLit, fBool]
      refine ⟨fun q hq hx => ?_, fun z => absurd rfl (z (2, 94) (by decide))⟩
      have hp : q.2 = 94 := (by decide : ∀ q ∈ swM, (2 : Int32) = q.1 → q.2 = 94) q hq hx
      rw [hp]
      simp only [E_M_count, fIsA, fRt, fLen, fLit, fBool, fIx, sI_1, reduceIte, Nat.reduceEqDiff]
      exact ok (b.2.2.1.trans b.2.1.symm) fin
    · subst hx
      simp only [E_H_count, fIsA, fRt, fLen, fLit, fBool]
      rw [N_M_count]
      simp only [E_M_count, fIsA, fRt, fLen, fLit, fBool]
      refine ⟨fun q hq hx => ?_, fun z => absurd rfl (z (3, 99) (by decide))⟩
      have hp : q.2 = 99 := (by decide : ∀ q ∈ swM, (3 : Int32) = q.1 → q.2 = 99) q hq hx
      rw [hp]
      simp only [E_M_count, fIsA, fRt, fLen, fLit, fBool, fIx, sI_1, reduceIte, Nat.reduceEqDiff]
      exact ok (f.1) fin
    · subst hx
      simp only [E_H_count, fIsA, fRt, fLen, fLit, fBool]
      rw [N_M_count]
      simp only [E_M_count, fIsA, fRt, fLen, fLit, fBool]
      refine ⟨fun q hq hx => ?_, fun z => absurd rfl (z (4, 106) (by decide))⟩
      have hp : q.2 = 106 := (by decide : ∀ q ∈ swM, (4 : Int32) = q.1 → q.2 = 106) q hq hx
      rw [hp]
      simp only [E_M_count, fIsA, fRt, fLen, fLit, fBool, fIx, sI_1, reduceIte, Nat.reduceEqDiff]
      exact ok (c.2.1.2.1) fin
    · subst hx
      simp only [E_H_count, fIsA, fRt, fLen, fLit, fBool]
      rw [N_M_count]
      simp only [E_M_count, fIsA, fRt, fLen, fLit, fBool]
      refine ⟨fun q hq hx => ?_, fun z => absurd rfl (z (5, 114) (by decide))⟩
      have hp : q.2 = 114 := (by decide : ∀ q ∈ swM, (5 : Int32) = q.1 → q.2 = 114) q hq hx
      rw [hp]
      simp only [E_M_count, fIsA, fRt, fLen, fLit, fBool, fIx, sI_1, reduceIte, Nat.reduceEqDiff]
      exact ok (c.2.1.2.2.1) fin
    · subst hx
      simp only [E_H_count, fIsA, fRt, fLen, fLit, fBool]
      rw [N_M_count]
      simp only [E_M_count, fIsA, fRt, fLen, fLit, fBool]
      refine ⟨fun q hq hx => ?_, fun z => absurd rfl (z (6, 122) (by decide))⟩
      have hp : q.2 = 122 := (by decide : ∀ q ∈ swM, (6 : Int32) = q.1 → q.2 = 122) q hq hx
      rw [hp]
      simp only [E_M_count, fIsA, fRt, fLen, fLit, fBool, fIx, sI_1, reduceIte, Nat.reduceEqDiff]
      exact ok (c.2.1.2.2.2.1) fin
    · subst hx
      simp only [E_H_count, fIsA, fRt, fLen, fLit, fBool]
      rw [N_M_count]
      simp only [E_M_count, fIsA, fRt, fLen, fLit, fBool]
      refine ⟨fun q hq hx => ?_, fun z => absurd rfl (z (7, 130) (by decide))⟩
      have hp : q.2 = 130 := (by decide : ∀ q ∈ swM, (7 : Int32) = q.1 → q.2 = 130) q hq hx
      rw [hp]
      simp only [E_M_count, fIsA, fRt, fLen, fLit, fBool, fIx, sI_1, reduceIte, Nat.reduceEqDiff]
      exact ok (f.2.1) fin
    · subst hx
      simp only [E_H_count, fIsA, fRt, fLen, fLit, fBool]
      rw [N_M_count]
      simp only [E_M_count, fIsA, fRt, fLen, fLit, fBool]
      refine ⟨fun q hq hx => ?_, fun z => absurd rfl (z (8, 137) (by decide))⟩
      have hp : q.2 = 137 := (by decide : ∀ q ∈ swM, (8 : Int32) = q.1 → q.2 = 137) q hq hx
      rw [hp]
      simp only [E_M_count, fIsA, fRt, fLen, fLit, fBool, fIx, sI_1, reduceIte, Nat.reduceEqDiff]
      exact ok (c.2.1.2.2.2.2.1) fin
    · subst hx
      simp only [E_H_count, fIsA, fRt, fLen, fLit, fBool]
      rw [N_M_count]
      simp only [E_M_count, fIsA, fRt, fLen, fLit, fBool]
      refine ⟨fun q hq hx => ?_, fun z => absurd rfl (z (9, 145) (by decide))⟩
      have hp : q.2 = 145 := (by decide : ∀ q ∈ swM, (9 : Int32) = q.1 → q.2 = 145) q hq hx
      rw [hp]
      simp only [E_M_count, fIsA, fRt, fLen, fLit, fBool, fIx, sI_1, reduceIte, Nat.reduceEqDiff]
      exact ok (c.2.1.2.2.2.2.2) fin
    · subst hx
      simp only [E_H_count, fIsA, fRt, fLen, fLit, fBool]
      refine s_bitsL ?_
      simp only [oT, E_H_count, fIsA, fRt, fLen, fLit, fBool]
      rw [N_M_count]
      simp only [E_M_count, fIsA, fRt, fLen, fLit, fBool]
      refine ⟨fun q hq hx => ?_, fun z => absurd rfl (z (10, 153) (by decide))⟩
      have hp : q.2 = 153 := (by decide : ∀ q ∈ swM, (10 : Int32) = q.1 → q.2 = 153) q hq hx
      rw [hp]
      simp only [E_M_count, fIsA, fRt, fLen, fLit, fBool, fIx, sI_1, reduceIte, Nat.reduceEqDiff]
      refine s_MplankMany c' ?_
      simp only [oT, E_M_count, fIsA, fRt, fLen, fLit, fBool]
      exact ok ((bL_is c.2.2.2.1).1) fin
    · subst hx
      simp only [E_H_count, fIsA, fRt, fLen, fLit, fBool]
      refine s_shipsOver a b c ?_
      simp only [oT, E_H_count, fIsA, fRt, fLen, fLit, fBool]
      rw [N_M_count]
      simp only [E_M_count, fIsA, fRt, fLen, fLit, fBool]
      refine ⟨fun q hq hx => ?_, fun z => absurd rfl (z (11, 162) (by decide))⟩
      have hp : q.2 = 162 := (by decide : ∀ q ∈ swM, (11 : Int32) = q.1 → q.2 = 162) q hq hx
      rw [hp]
      simp only [E_M_count, fIsA, fRt, fLen, fLit, fBool, fIx, sI_1, reduceIte, Nat.reduceEqDiff]
      refine s_MinHarbour (a.fr fr690 rfl) (b.fr fr690 rfl) c' ?_
      simp only [oT, E_M_count, fIsA, fRt, fLen, fLit, fBool]
      exact ok (rfl) fin
    · subst hx
      simp only [E_H_count, fIsA, fRt, fLen, fLit, fBool]
      rw [N_M_count]
      simp only [E_M_count, fIsA, fRt, fLen, fLit, fBool]
      refine ⟨fun q hq hx => ?_, fun z => absurd rfl (z (12, 171) (by decide))⟩
      have hp : q.2 = 171 := (by decide : ∀ q ∈ swM, (12 : Int32) = q.1 → q.2 = 171) q hq hx
      rw [hp]
      simp only [E_M_count, fIsA, fRt, fLen, fLit, fBool, fIx, sI_1, reduceIte, Nat.reduceEqDiff]
      exact ok (g5.trans g6.symm) fin
    · subst hx
      simp only [E_H_count, fIsA, fRt, fLen, fLit, fBool]
      rw [N_M_count]
      simp only [E_M_count, fIsA, fRt, fLen, fLit, fBool]
      refine ⟨fun q hq hx => ?_, fun z => absurd rfl (z (13, 176) (by decide))⟩
      have hp : q.2 = 176 := (by decide : ∀ q ∈ swM, (13 : Int32) = q.1 → q.2 = 176) q hq hx
      rw [hp]
      simp only [E_M_count, fIsA, fRt, fLen, fLit, fBool, fIx, sI_1, reduceIte, Nat.reduceEqDiff]
      exact ok (u4.trans u5.symm) fin
    · subst hx
      simp only [E_H_count, fIsA, fRt, fLen, fLit, fBool]
      rw [N_M_count]
      simp only [E_M_count, fIsA, fRt, fLen, fLit, fBool]
      refine ⟨fun q hq hx => ?_, fun z => absurd rfl (z (14, 181) (by decide))⟩
      have hp : q.2 = 181 := (by decide : ∀ q ∈ swM, (14 : Int32) = q.1 → q.2 = 181) q hq hx
      rw [hp]
      simp only [E_M_count, fIsA, fRt, fLen, fLit, fBool, fIx, sI_1, reduceIte, Nat.reduceEqDiff]
      exact ok (r2.trans r3.symm) fin
    · subst hx
      simp only [E_H_count, fIsA, fRt, fLen, fLit, fBool]
      rw [N_M_count]
      simp only [E_M_count, fIsA, fRt, fLen, fLit, fBool]
      refine ⟨fun q hq hx => ?_, fun z => absurd rfl (z (15, 186) (by decide))⟩
      have hp : q.2 = 186 := (by decide : ∀ q ∈ swM, (15 : Int32) = q.1 → q.2 = 186) q hq hx
      rw [hp]
      simp only [E_M_count, fIsA, fRt, fLen, fLit, fBool, fIx, sI_1, reduceIte, Nat.reduceEqDiff]
      exact ok (hT.2.1.trans hT.2.2.1.symm) fin
  · rw [N_M_count]
    simp only [E_M_count, fIsA, fRt, fLen, fLit, fBool]
    refine ⟨fun q hq hx2 => ?_, fun _ => ok rfl fin⟩
    simp only [List.mem_cons, List.not_mem_nil, or_false] at hq
    exfalso
    rcases hq with rfl | rfl | rfl | rfl | rfl | rfl | rfl | rfl | rfl | rfl | rfl | rfl | rfl | rfl | rfl | rfl
    · exact hx (0, 80) (by decide) hx2
    · exact hx (1, 88) (by decide) hx2
    · exact hx (2, 96) (by decide) hx2
    · exact hx (3, 104) (by decide) hx2
    · exact hx (4, 109) (by decide) hx2
    · exact hx (5, 117) (by decide) hx2
    · exact hx (6, 125) (by decide) hx2
    · exact hx (7, 133) (by decide) hx2
    · exact hx (8, 138) (by decide) hx2
    · exact hx (9, 146) (by decide) hx2
    · exact hx (10, 154) (by decide) hx2
    · exact hx (11, 165) (by decide) hx2
    · exact hx (12, 170) (by decide) hx2
    · exact hx (13, 178) (by decide) hx2
    · exact hx (14, 186) (by decide) hx2
    · exact hx (15, 194) (by decide) hx2
