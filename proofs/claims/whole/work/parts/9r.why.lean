/-! WAYS: what stands against a way -/
theorem s_HwhyNoWay {d R C : Nat} {kd ht : Nat → Nat} {Q : Qt} {τ : St} {w a b : Int32} (g : GI τ R C kd ht) (bad : ¬ ((1 ≤ w ∧ w ≤ nI 99) ∧ (0 ≤ a ∧ a < nI (R * C)) ∧ 0 ≤ b ∧ b < nI (R * C)) → Q (some (.int (-1))) τ)
    (rock : ∀ x y, x < R * C → y < R * C → a = nI x → b = nI y → (1 ≤ w ∧ w ≤ nI 99) → kd x = 3 ∨ kd y = 3 → Q (some (.int (-2))) τ) (good : ∀ x y, x < R * C → y < R * C → a = nI x → b = nI y → (1 ≤ w ∧ w ≤ nI 99) → kd x ≠ 3 → kd y ≠ 3 → Q (some (.int 0)) τ) : Cl (d + 3) m_H_whyNoWay [.ref 0, .int w, .int a, .int b] τ Q := by
  have hn := g.n36
  rw [N_H_whyNoWay]
  simp only [E_H_whyNoWay, fIsA, fRt, fLen, fLit, fBool]
  refine s_isWeight (fun w' h1 h2 e => ?_) (fun z => ?_)
  · have hw : 1 ≤ w ∧ w ≤ nI 99 := by
      subst e
      exact ⟨nI_le (a := 1) h1 (by omega), nI_le (b := 99) h2 (by omega)⟩
    simp only [oT, oN, E_H_whyNoWay, fIsA, fRt, fLen, fLit, fBool]
    refine s_Ghas g (fun x hx ex => ?_) (fun z => ?_)
    · simp only [oT, oN, E_H_whyNoWay, fIsA, fRt, fLen, fLit, fBool]
      refine s_Ghas g (fun y hy ey => ?_) (fun z => ?_)
      · simp only [oT, oN, E_H_whyNoWay, fIsA, fRt, fLen, fLit, fBool]
        subst ex ey
        refine s_Gkind g hx ?_
        simp only [oT, oN, E_H_whyNoWay, fIsA, fRt, fLen, fLit, fBool]
        have kx := (g.2.2.1 x hx).1.1
        have ky := (g.2.2.1 y hy).1.1
        have gd := good x y hx hy rfl rfl hw
        have rk := rock x y hx hy rfl rfl hw
        refine ⟨fun z => rk (Or.inl ((nI_eq (b := 3) (by omega) (by omega)).mp z)), fun z => ?_⟩
        have z : kd x ≠ 3 := fun v => z (by rw [v]; rfl)
        refine s_Gkind g hy ?_
        simp only [oT, oN, E_H_whyNoWay, fIsA, fRt, fLen, fLit, fBool]
        refine ⟨fun v => ?_, fun v => ?_⟩
        all_goals first
          | exact gd z (fun u => v (by rw [u]; rfl))
          | exact rk (Or.inr ((nI_eq (b := 3) (by omega) (by omega)).mp v))
      · have q := bad (fun w => z w.2.2)
        simp only [oT, oN, E_H_whyNoWay, fIsA, fRt, fLen, fLit, fBool]
        exact q
    · have q := bad (fun w => z w.2.1)
      simp only [oT, oN, E_H_whyNoWay, fIsA, fRt, fLen, fLit, fBool]
      exact q
  · have q := bad (fun w => z w.1)
    simp only [oT, oN, E_H_whyNoWay, fIsA, fRt, fLen, fLit, fBool]
    exact q
theorem s_MisWeighed {d R C : Nat} {kd ht : Nat → Nat} {Q : Qt} {τ : St} {w a b : Int32} (g : GI τ R C kd ht) (bad : ¬ ((1 ≤ w ∧ w ≤ nI 99) ∧ (0 ≤ a ∧ a < nI (R * C)) ∧ 0 ≤ b ∧ b < nI (R * C)) → Q (some (.int 0)) τ)
    (good : ∀ x y, x < R * C → y < R * C → a = nI x → b = nI y → (1 ≤ w ∧ w ≤ nI 99) → Q (some (.int 1)) τ) : Cl (d + 3) m_M_isWeighed [.ref 69, .int w, .int a, .int b] τ Q := by
  rw [N_M_isWeighed]
  simp only [E_M_isWeighed, fIsA, fRt, fLen, fLit, fBool]
  refine s_inI 1 rfl 99 rfl (fun h1 h2 => ?_) (fun z => ?_)
  · simp only [oT, oN, E_M_isWeighed, fIsA, fRt, fLen, fLit, fBool]
    refine s_MisField g (fun x hx ex => ?_) (fun z => ?_)
    · simp only [oT, oN, E_M_isWeighed, fIsA, fRt, fLen, fLit, fBool]
      refine s_MisField g (fun y hy ey => ?_) (fun z => ?_)
      · have q := good x y hx hy ex ey ⟨h1, h2⟩
        simp only [oT, oN, E_M_isWeighed, fIsA, fRt, fLen, fLit, fBool]
        exact q
      · have q := bad (fun w => z w.2.2)
        simp only [oT, oN, E_M_isWeighed, fIsA, fRt, fLen, fLit, fBool]
        exact q
    · have q := bad (fun w => z w.2.1)
      simp only [oT, oN, E_M_isWeighed, fIsA, fRt, fLen, fLit, fBool]
      exact q
  · have q := bad (fun w => z w.1)
    simp only [oT, oN, E_M_isWeighed, fIsA, fRt, fLen, fLit, fBool]
    exact q
theorem s_MisRock {d R C x y : Nat} {kd ht : Nat → Nat} {Q : Qt} {τ : St} (g : GI τ R C kd ht) (hx : x < R * C) (hy : y < R * C) (rock : kd x = 3 ∨ kd y = 3 → Q (some (.int 1)) τ) (no : kd x ≠ 3 → kd y ≠ 3 → Q (some (.int 0)) τ) : Cl (d + 1) m_M_isRock [.ref 69, .int (nI x), .int (nI y)] τ Q := by
  have hn := g.n36
  have x3 := g.2.2.1 x hx
  have y3 := g.2.2.1 y hy
  have kx := x3.1.1
  have ky := y3.1.1
  rw [N_M_isRock]
  simp only [E_M_isRock, fIsA, fRt, fLen, fLit, fBool, nI_clamp (show x < 2 ^ 31 by omega), nI_clamp (show y < 2 ^ 31 by omega), x3.2.1, y3.2.1]
  refine ⟨vp_in_nI (by omega) (by omega), fun z => rock (Or.inl ((nI_eq (b := 3) (by omega) (by omega)).mp z)), fun z => ⟨vp_in_nI (by omega) (by omega), fun v => ?_, fun v => ?_⟩⟩
  all_goals first
    | exact rock (Or.inr ((nI_eq (b := 3) (by omega) (by omega)).mp v))
    | exact no (fun u => z (by rw [u]; rfl)) (fun u => v (by rw [u]; rfl))
