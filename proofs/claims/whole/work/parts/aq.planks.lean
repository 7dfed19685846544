/-! PAIRS: planks -/
theorem s_Hplanks {d R C ns o e m i B0 : Nat} {kd ht : Nat → Nat} {W S r : Nat → Int32} {Q : Qt} {τ : St} {w k : Int32} (E : EnvI R C kd ht ns o e m W S τ) (mo : MoI τ 9 ns (R * C) B0 kd r) (hi : r 46 = nI i) (hi2 : i < 2 ^ 30)
    (bad : ¬ ((1 ≤ w ∧ w ≤ nI 99) ∧ 0 ≤ k ∧ k ≤ nI 2) → Q (some (.int (-1))) τ)
    (far : ∀ kk, kk ≤ 2 → k = nI kk → (1 ≤ w ∧ w ≤ nI 99) → stB (vN kd ht R C m S w r i) (SF (fre kd R C r) kk 0 0) 1000000 0 → ∀ τ', Fr [55, 58, 61] [(53, 3), (56, 3), (59, 2), (59, 3), (59, 4), (60, 1), (60, 2), (60, 3)] τ τ' → τ'.1 59 2 = nI 53 → Q (some (.int (-2))) τ')
    (good : ∀ kk L B, kk ≤ 2 → k = nI kk → (1 ≤ w ∧ w ≤ nI 99) → L < 1000000 → stB (vN kd ht R C m S w r i) (SF (fre kd R C r) kk 0 0) L B → ∀ τ', Fr [4, 55, 58, 61] [(3, 1), (53, 3), (56, 3), (59, 2), (59, 3), (59, 4), (59, 6), (59, 7), (60, 1), (60, 2), (60, 3)] τ τ' → τ'.1 59 2 = nI 53 → τ'.1 3 1 = 1 → τ'.2 4 0 = lN B → Q (some (.int (nI L))) τ') : Cl (d + 12) m_H_planks [.ref 0, .int w, .int k] τ Q := by
  have hn := E.1.1.n36
  have m3 := mo.2.2.1
  rw [N_H_planks]
  simp only [E_H_planks, fIsA, fRt, fLen, fLit, fBool]
  refine s_isWeight (fun w' h1 h2 ew => ?_) (fun z => ?_)
  · have hw : 1 ≤ w ∧ w ≤ nI 99 := by
      subst ew
      exact ⟨nI_le (a := 1) h1 (by omega), nI_le (b := 99) h2 (by omega)⟩
    simp only [oT, oN, E_H_planks, fIsA, fRt, fLen, fLit, fBool]
    refine ⟨fun z => bad (fun w => absurd z (nlt w.2.1)), fun z => ⟨fun y => ?_, fun y => bad (fun w => y w.2.2)⟩⟩
    obtain ⟨kk, hk, rfl⟩ := of0 (n := 2) (Int32.not_lt.mp z) y (by omega)
    refine s_HstartWays2 E mo hi hi2 (fun τ1 f1 wz w53 => ?_)
    simp only [oT, oN, E_H_planks, fIsA, fRt, fLen, fLit, fBool]
    have g := E.1.1
    have g1 := g.fr f1 rfl
    -- the free fields
    have fB : ∀ q, bitL (τ.2 5 6 &&& (τ.2 9 3 ^^^ (-1))) q = true ↔ fre kd R C r q := fun q => by
      by_cases q64 : q < 64
      · rw [bL_and, bL_xor, bL_m1 q q64, Bool.and_eq_true, (g.2.2.2.2 q q64).1, decide_eq_true_iff]
        unfold fre
        constructor
        · rintro ⟨⟨a, b⟩, c⟩
          refine ⟨a, b, ?_⟩
          rw [m3 q (by omega), if_neg]
          intro z
          rw [z] at c
          exact absurd c (by decide)
        · rintro ⟨a, b, c⟩
          refine ⟨⟨a, b⟩, ?_⟩
          rw [m3 q (by omega)] at c
          cases z : bitL (τ.2 9 3) q with
          | false => rfl
          | true => rw [z, if_pos rfl] at c; exact absurd c (by decide)
      · rw [bL_big (by omega)]
        exact ⟨fun z => absurd z (by decide), fun z => absurd z.1 (by omega)⟩
    generalize hF : τ.2 5 6 &&& (τ.2 9 3 ^^^ (-1)) = FX at fB ⊢
    obtain ⟨cF, c36, bF, one, two⟩ := fre_cnt fB (fun q h => by have := h.1; omega)
    refine s_bitsL ?_
    simp only [oT, oN, E_H_planks, fIsA, fRt, fLen, fLit, fBool, bF]
    refine ⟨fun z => ?_, fun z => ?_⟩
    · have z := (nI_ltI (by omega) (by omega)).mp z
      refine far kk hk rfl hw (Or.inl ⟨rfl, rfl, fun N h => ?_⟩) τ1 f1 w53
      exfalso
      rcases (show kk = 0 ∨ kk = 1 ∨ kk = 2 by omega) with rfl | rfl | rfl
      · omega
      · obtain ⟨a, _, fa, _⟩ := h
        have := one.mpr ⟨a, fa⟩
        omega
      · obtain ⟨a, _, fa, b, ab, fb, _⟩ := h
        have := two.mpr ⟨a, b, by omega, fa, fb⟩
        omega
    · have z : kk ≤ cF := Nat.le_of_not_lt (fun w => z (nI_lt w (by omega)))
      rw [show (1498 : Int32) = nI 1499 - 1 by decide]
      refine s_Wcrosses (r := r) g1 wz (plC_ok ht m S w r (r 47) i) (by omega) (fun _ cr => ?_) (fun ncr => ?_)
      · have hv : ∀ N, vN kd ht R C m S w r i N ≤ 1498 := fun N => by
          rcases vN_ok kd ht R C m S w r i N with ⟨a, _⟩ | ⟨_, a⟩
          · exact a
          · exact absurd (wy_any (fun f q => (plC_ok ht m S w (rN N r) (r 47) i f q).2) cr) a
        have ex : ∃ N, SF (fre kd R C r) kk 0 0 N := by
          rcases (show kk = 0 ∨ kk = 1 ∨ kk = 2 by omega) with rfl | rfl | rfl
          · exact ⟨0, rfl⟩
          · obtain ⟨a, fa⟩ := one.mp z
            exact ⟨_, a, Nat.zero_le _, fa, rfl⟩
          · obtain ⟨a, b, a1, fa, fb⟩ := two.mp z
            exact ⟨_, a, Nat.zero_le _, fa, b, by omega, fb, rfl⟩
        have hpl : ∀ q, q < R * C → r q = if bitL (τ1.2 9 3) q then 1 else 0 := fun q hq => by
          rw [f1.u2 9 3 rfl]
          exact m3 q (by omega)
        simp only [oT, oN, E_H_planks, fIsA, fRt, fLen, fLit, fBool]
        rw [N_Ways_startLaying]
        simp only [oT, oN, E_Ways_startLaying, E_H_planks, fIsA, fRt, fLen, fLit, fBool]
        have tp0 : tpI kd ht R C m S w r i (fun _ => False) τ1 (sL (sI τ1 59 6 1499) 59 7 0) := ⟨1000000, 0, r, (Fr.rf.i rfl).l rfl, wz.fr (cs := []) (fs := [(59, 6), (59, 7)]) ((Fr.rf.i rfl).l rfl) rfl rfl rfl rfl rfl rfl rfl, Or.inl ⟨rfl, rfl, fun _ z => z.elim⟩, rfl, rfl, by omega⟩
        generalize sL (sI τ1 59 6 1499) 59 7 0 = τ2 at tp0 ⊢
        have run := s_Hhigh (d := d + 3) (Q := Q) g1 hpl hv hk fB ex (fun L B hL st τ' f' r1 r2 => good kk L B hk rfl hw hL st τ' ((f1.wk rfl).tr (f'.wk rfl)) ((f'.u1 59 2 rfl).trans w53) r1 r2)
        by_cases k0 : kk = 0
        · subst k0
          have e0 : (nI 0 = (0 : Int32)) = True := eq_true rfl
          simp only [e0, fBool]
          have lo : (0 : Int64) = lN 0 := rfl
          rw [lo]
          refine s_try1 (d := d + 3) g1 hpl hv tp0 (by omega) (fun _ z => z.elim) (fun τ4 tp4 => ?_)
          simp only [oT, oN, E_H_planks, fIsA, fRt, fLen, fLit, fBool, nI_1]
          refine run (R * C) 0 τ4 _ _ (by omega) (tp4.cg (fun N => ?_))
          constructor
          · rintro (h | h)
            · exact h.elim
            · exact Or.inl ⟨rfl, h⟩
          · rintro (⟨_, h⟩ | ⟨a, b, o, _⟩)
            · exact Or.inr h
            · omega
        · have e0 : (nI kk = (0 : Int32)) = False := eq_false (nI_ne0 (by omega) (by omega))
          simp only [e0, fBool]
          refine run (R * C) 0 τ2 _ _ (by omega) (tp0.cg (fun N => ⟨fun z => z.elim, fun h => ?_⟩))
          rcases h with ⟨h, _⟩ | ⟨a, b, o, _⟩ <;> omega
      · have q := far kk hk rfl hw (Or.inl ⟨rfl, rfl, fun N _ => by
          rcases vN_ok kd ht R C m S w r i N with ⟨a, b, _⟩ | ⟨a, _⟩
          · rcases ncr with n | n
            · omega
            · exact absurd (wy_any (fun f q => (plC_ok ht m S w r (r 47) i f q).2) (wyP_lim a b)) n
          · exact a⟩) τ1 f1 w53
        simp only [oT, oN, E_H_planks, fIsA, fRt, fLen, fLit, fBool]
        exact q
  · have q := bad (fun w => z w.1)
    simp only [oT, oN, E_H_planks, fIsA, fRt, fLen, fLit, fBool]
    exact q
