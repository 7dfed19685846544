/-! PAIRS: soon -/
theorem p_soon (t : Nat) (w a b : Int32) : PrI t m_H_soon m_M_soon [.int w, .int a, .int b] := by
  intro ht0 τ h
  obtain ⟨R, C, kd, ht, ns, n, hA, hT, hR⟩ := h
  have ⟨ga, sh, c, _, _, _, _, _, _⟩ := hA
  have hn36 := ga.n36
  obtain ⟨o, ee, m, E⟩ := hA.env
  obtain ⟨nn, hi2, hi⟩ := c.2.2.2.2.1
  have hi2 : nn < 2 ^ 30 := by omega
  obtain ⟨P, hP⟩ := plN ht m (τ.1 80) w (τ.1 75) (τ.1 75 47) nn
  have hP2 : ∀ f q, P f q ≤ 1498 := fun f q => (hP f q).2
  have row := c.row
  have ho := E.2.1.1
  have uq : ∀ x x' : Nat, x < R * C → x' < R * C → nI x = nI x' → x' = x := fun x x' h h' e => ((nI_eq (by omega) (by omega)).mp e).symm
  -- what the reference does, behind the class
  have ref : ∀ (v : Int32) (τ1 : St), EnvI R C kd ht ns o ee m (τ.1 73) (τ.1 80) τ1 → (∀ j, j < 50 → τ1.1 75 j = τ.1 75 j) → (¬ ((1 ≤ w ∧ w ≤ nI 99) ∧ (0 ≤ a ∧ a < nI (R * C)) ∧ 0 ≤ b ∧ b < nI (R * C)) → v = -1) → (∀ x y, x < R * C → y < R * C → a = nI x → b = nI y → (1 ≤ w ∧ w ≤ nI 99) → (kd x = 3 ∨ kd y = 3 → v = -2) ∧ (kd x ≠ 3 → kd y ≠ 3 → ∀ c, mzP kd R C P y o 0 c → v = if c x < 2 ^ 30 then nI (c x) else -2)) → (∀ τ2, Fr [82, 83, 88, 89, 90] [(69, 0)] τ1 τ2 → Inv (t + 1) τ2) → Cl 900 m_M_soon [Value.ref 69, Value.int w, Value.int a, Value.int b] τ1 fun b τ2 => (∃ z, some (Value.int v) = some (Value.int z) ∧ b = some (Value.int z)) ∧ Inv (t + 1) τ2 := fun v τ1 E1 hr1 q1 q2 iv => by
    rw [N_M_soon]
    simp only [E_M_soon, fIsA, fRt, fLen, fLit, fBool]
    have f0 := fr690 (τ := τ1) (v := 0)
    generalize sI τ1 69 0 0 = τ0 at f0 ⊢
    have E0 := E1.fr f0 rfl (f0.u1 9 1 rfl)
    have hr0 : ∀ j, j < 50 → τ0.1 75 j = τ.1 75 j := fun j hj => (f0.c1 75 rfl j).trans (hr1 j hj)
    refine s_MisWeighed E0.1.1 (fun z => ?_) (fun x y hx hy ex ey hw => ?_)
    · have q := ok (q1 z) (iv τ0 (f0.wk rfl))
      simp only [oT, oN, E_M_soon, fIsA, fRt, fLen, fLit, fBool]
      exact q
    · subst ex ey
      simp only [oT, oN, E_M_soon, fIsA, fRt, fLen, fLit, fBool, fIx, hr0 46 (by omega), hr0 47 (by omega), hi]
      refine s_laysPulls E0 row hr0 hi2 (fun τ2 f2 pu0 => ?_)
      have F2 : Fr [82, 83, 88, 89, 90] [(69, 0)] τ1 τ2 := (f0.wk rfl).tr (f2.wk rfl)
      have E2 := E1.fr F2 rfl (F2.c1 9 rfl 1)
      have eo : τ2.1 74 0 = nI o := E2.2.1.2.2.2.1
      simp only [oT, oN, E_M_soon, fIsA, fRt, fLen, fLit, fBool, fIx, eo]
      have pu := PuN.of hP pu0
      refine s_laysMany E2.1.1 pu hP2 hy (by omega) (fun τ3 mm f3 h3 mu me => ?_)
      simp only [oT, oN, E_M_soon, fIsA, fRt, fLen, fLit, fBool]
      have F3 : Fr [82, 83, 88, 89, 90] [(69, 0)] τ1 τ3 := F2.tr (f3.wk rfl)
      refine s_MisRock (E1.1.1.fr F3 rfl) hx hy (fun rk => ?_) (fun kx ky => ?_)
      · have q := ok ((q2 x y hx hy rfl rfl hw).1 rk) (iv τ3 F3)
        simp only [oT, oN, E_M_soon, fIsA, fRt, fLen, fLit, fBool]
        exact q
      · have bx := mu.2.1 x (by omega)
        have mz := mu_mz hn36.1 hy ky mu me
        have ev := (q2 x y hx hy rfl rfl hw).2 kx ky _ mz
        simp only [oT, oN, E_M_soon, fIsA, fRt, fLen, fLit, fBool, nI_clamp (show x < 2 ^ 31 by omega), h3 x (by omega)]
        refine ⟨vp_in_nI (by omega) (by omega), fun z => ?_, fun z => ?_⟩
        · have z : mm x < 1000000 := (nI_ltI (b := 1000000) (by omega) (by omega)).mp z
          rw [if_pos ((ccM_far hn36.1 mu me hx).1.mpr z), ccM_lt z] at ev
          exact ⟨vp_in_nI (by omega) (by omega), ok ev (iv τ3 F3)⟩
        · have z : ¬ mm x < 1000000 := fun w => z (nI_lt (b := 1000000) w (by omega))
          rw [if_neg (fun w => z ((ccM_far hn36.1 mu me hx).1.mp w))] at ev
          exact ok ev (iv τ3 F3)
  have inr : ∀ x y, x < R * C → y < R * C → a = nI x → b = nI y → (1 ≤ w ∧ w ≤ nI 99) → (1 ≤ w ∧ w ≤ nI 99) ∧ (0 ≤ a ∧ a < nI (R * C)) ∧ 0 ≤ b ∧ b < nI (R * C) := fun x y hx hy ex ey hw => by
    subst ex ey
    exact ⟨hw, ⟨nI_pos' (by omega), nI_lt hx (by omega)⟩, nI_pos' (by omega), nI_lt hy (by omega)⟩
  rw [N_H_soon]
  simp only [E_H_soon, fIsA, fRt, fLen, fLit, fBool]
  refine s_HwhyNoWay E.1.1 (fun z => ?_) (fun x y hx hy ex ey hw rk => ?_) (fun x y hx hy ex ey hw kx ky => ?_)
  · have q := ref (-1) τ E (fun _ _ => rfl) (fun _ => rfl) (fun x y hx hy ex ey hw => absurd (inr x y hx hy ex ey hw) z) (fun τ2 f2 => hA.inv3 hT hR f2 rfl)
    simp only [oT, oN, E_H_soon, fIsA, fRt, fLen, fLit, fBool]
    exact q
  · have z := inr x y hx hy ex ey hw
    subst ex ey
    have q := ref (-2) τ E (fun _ _ => rfl) (fun w => absurd z w) (fun x' y' hx' hy' ex ey hw => ⟨fun _ => rfl, fun kx ky => by
      have := uq x x' hx hx' ex
      have := uq y y' hy hy' ey
      subst x' y'
      rcases rk with q | q
      · exact absurd q kx
      · exact absurd q ky⟩) (fun τ2 f2 => hA.inv3 hT hR f2 rfl)
    simp only [oT, oN, E_H_soon, fIsA, fRt, fLen, fLit, fBool]
    first
      | exact q
      | exact ⟨fun z => absurd z (by decide), fun _ => q⟩
  · have z := inr x y hx hy ex ey hw
    simp only [oT, oN, E_H_soon, fIsA, fRt, fLen, fLit, fBool]
    refine s_HstartWays2 E c hi hi2 (fun τ1 f1 wz w53 => ?_)
    subst ex ey
    have g1 := E.1.1.fr f1 rfl
    have eo : τ1.1 0 8 = nI o := (f1.u1 0 8 rfl).trans E.2.1.2.2.1
    simp only [oT, oN, E_H_soon, fIsA, fRt, fLen, fLit, fBool, eo]
    refine s_Wmeasure (s := 0) g1 wz hP hy (by omega) (by omega) (fun τ2 c2 f2 hc mz => ?_)
    simp only [oT, oN, E_H_soon, fIsA, fRt, fLen, fLit, fBool]
    have bx := (hc x hx).2
    refine s_WcostFrom (g1.fr f2 rfl) hx (hc x hx).1 ?_
    have F : Fr [55, 58, 61, 62] [(53, 3), (56, 3), (59, 2), (59, 3), (59, 4), (60, 1), (60, 2), (60, 3)] τ τ2 := (f1.wk rfl).tr (f2.wk rfl)
    have iv : ∀ τ3, Fr [82, 83, 88, 89, 90] [(69, 0)] τ2 τ3 → Inv (t + 1) τ3 := fun τ3 f3 => by
      have G : Fr [55, 58, 61, 62, 82, 83, 88, 89, 90] [(53, 3), (56, 3), (59, 2), (59, 3), (59, 4), (60, 1), (60, 2), (60, 3), (69, 0)] τ τ3 := (F.wk rfl).tr (f3.wk rfl)
      exact hA.invW G rfl (Or.inr (Or.inl ((f3.u1 59 2 rfl).trans ((f2.u1 59 2 rfl).trans w53)))) (hT.fr G rfl) (hR.fr G rfl)
    have E2 := E.fr F rfl (F.c1 9 rfl 1)
    have rr : ∀ v, (v = if c2 x < 2 ^ 30 then nI (c2 x) else -2) → Cl 900 m_M_soon [Value.ref 69, Value.int w, Value.int (nI x), Value.int (nI y)] τ2 fun b τ2 => (∃ z, some (Value.int v) = some (Value.int z) ∧ b = some (Value.int z)) ∧ Inv (t + 1) τ2 := fun v hv => by
      refine ref v τ2 E2 (fun j _ => F.c1 75 rfl j) (fun w => absurd z w) (fun x' y' hx' hy' ex ey _ => ⟨fun rk => ?_, fun _ _ c' mz' => ?_⟩) iv
      · have := uq x x' hx hx' ex
        have := uq y y' hy hy' ey
        subst x' y'
        rcases rk with q | q
        · exact absurd q kx
        · exact absurd q ky
      · have := uq x x' hx hx' ex
        have := uq y y' hy hy' ey
        subst x' y'
        rw [mz_eq mz' mz hx]
        exact hv
    by_cases cx : c2 x < 2 ^ 30
    · have ne : (nI (c2 x) = 1073741824) = False := eq_false (fun z => by
        have := (nI_eq (b := 1073741824) (by omega) (by omega)).mp z
        omega)
      have q := rr (nI (c2 x)) (by rw [if_pos cx])
      simp only [oT, oN, E_H_soon, fIsA, fRt, fLen, fLit, fBool, ne]
      exact q
    · have ee : (nI (c2 x) = 1073741824) = True := eq_true (by rw [show c2 x = 1073741824 by omega]; rfl)
      have q := rr (-2) (by rw [if_neg cx])
      simp only [oT, oN, E_H_soon, fIsA, fRt, fLen, fLit, fBool, ee]
      exact q
