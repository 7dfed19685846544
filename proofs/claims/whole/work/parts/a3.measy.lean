theorem s_Measy {d R C ns o e m i B : Nat} {kd ht : Nat → Nat} {W S r : Nat → Int32} {P : Nat → Nat → Nat} {Q : Qt} {τ : St} {w a b : Int32} (E : EnvI R C kd ht ns o e m W S τ) (row : RowG ns (R * C) B kd r) (hr : ∀ j, j < 50 → τ.1 75 j = r j) (hi : r 46 = nI i) (hi2 : i < 2 ^ 30) (hP : ∀ f q, plF ht m S w r (r 47) i f q = nI (P f q) ∧ P f q ≤ 1498)
    (bad : ¬ ((1 ≤ w ∧ w ≤ nI 99) ∧ (0 ≤ a ∧ a < nI (R * C)) ∧ 0 ≤ b ∧ b < nI (R * C)) → ∀ τ', Fr [] [(69, 0)] τ τ' → Q (some (.int (-1))) τ')
    (rock : ∀ x y, x < R * C → y < R * C → a = nI x → b = nI y → (1 ≤ w ∧ w ≤ nI 99) → kd x = 3 ∨ kd y = 3 → ∀ τ', Fr [82, 83, 88, 89, 90] [(69, 0)] τ τ' → Q (some (.int (-2))) τ')
    (far : ∀ x y c, x < R * C → y < R * C → a = nI x → b = nI y → (1 ≤ w ∧ w ≤ nI 99) → kd x ≠ 3 → kd y ≠ 3 → mzP kd R C P y 1498 64 c → ¬ c x < 2 ^ 30 → ∀ τ', Fr [82, 83, 88, 89, 90] [(69, 0)] τ τ' → Q (some (.int (-2))) τ')
    (good : ∀ x y c l, x < R * C → y < R * C → a = nI x → b = nI y → (1 ≤ w ∧ w ≤ nI 99) → kd x ≠ 3 → kd y ≠ 3 → mzP kd R C P y 1498 64 c → c x < 2 ^ 30 → l.length ≤ 35 → pth kd R C P 1498 64 c x l → ∀ τ', Fr [70, 82, 83, 88, 89, 90] [(69, 0), (69, 1)] τ τ' → τ'.1 69 1 = nI (l.length + 1) → (∀ j, j < l.length + 1 → τ'.2 70 j = (nI ((x :: l).getD j 0)).toInt64) → Q (some (.int (nI (c x / 64)))) τ') : Cl (d + 8) m_M_easy [.ref 69, .int w, .int a, .int b] τ Q := by
  have hn := E.1.1.n36
  rw [N_M_easy]
  simp only [E_M_easy, fIsA, fRt, fLen, fLit, fBool]
  have f0 := fr690 (τ := τ) (v := 0)
  generalize sI τ 69 0 0 = τ0 at f0 ⊢
  have E0 := E.fr f0 rfl (f0.u1 9 1 rfl)
  have hr0 : ∀ j, j < 50 → τ0.1 75 j = r j := fun j hj => (f0.c1 75 rfl j).trans (hr j hj)
  refine s_MisWeighed E0.1.1 (fun z => ?_) (fun x y hx hy ex ey hw => ?_)
  · have q := bad z τ0 f0
    simp only [oT, oN, E_M_easy, fIsA, fRt, fLen, fLit, fBool]
    exact q
  · subst ex ey
    simp only [oT, oN, E_M_easy, fIsA, fRt, fLen, fLit, fBool, fIx, hr0 46 (by omega), hr0 47 (by omega), hi]
    refine s_laysPulls E0 row hr0 hi2 (fun τ1 f1 pu0 => ?_)
    simp only [oT, oN, E_M_easy, fIsA, fRt, fLen, fLit, fBool]
    have F1 : Fr [82, 83, 88, 89, 90] [(69, 0)] τ τ1 := (f0.wk rfl).tr (f1.wk rfl)
    have g1 := E.1.1.fr F1 rfl
    have hP2 : ∀ f q, P f q ≤ 1498 := fun f q => (hP f q).2
    have pu := PuN.of hP pu0
    refine s_laysHard (z := true) rfl g1 pu hP2 hy (fun τ2 hd mm f2 h2 lh tg => ?_)
    simp only [oT, oN, E_M_easy, fIsA, fRt, fLen, fLit, fBool]
    have F2 : Fr [82, 83, 88, 89, 90] [(69, 0)] τ τ2 := F1.tr (f2.wk rfl)
    have g2 := E.1.1.fr F2 rfl
    refine s_MisRock g2 hx hy (fun rk => ?_) (fun kx ky => ?_)
    · have q := rock x y hx hy rfl rfl hw rk τ2 F2
      simp only [oT, oN, E_M_easy, fIsA, fRt, fLen, fLit, fBool]
      exact q
    · have bx := lh.2.1 x (by omega)
      have mz := lh_mz hn.1 hy ky hP2 lh tg
      simp only [oT, oN, E_M_easy, fIsA, fRt, fLen, fLit, fBool, nI_clamp (show x < 2 ^ 31 by omega), (h2 x (by omega)).1]
      refine ⟨vp_in_nI (by omega) (by omega), fun z => ?_, fun z => ?_⟩
      · have z : hd x < 1000000 := (nI_ltI (b := 1000000) (by omega) (by omega)).mp z
        have cx := (ccS_far hn.1 lh hx).1.mpr z
        obtain ⟨l, l1, l2⟩ := pth_sum hn.1 hy ky hP2 mz hx cx
        refine s_Menters (n := 0) rfl (by omega) ?_
        simp only [oT, oN, E_M_easy, fIsA, fRt, fLen, fLit, fBool]
        have f4 : Fr [70] [(69, 1)] τ2 (sI (sL (sI τ2 69 1 0) 70 0 (nI x).toInt64) 69 1 (nI (0 + 1))) := ((Fr.rf.i rfl).lc rfl).i rfl
        have e1 : (sI (sL (sI τ2 69 1 0) 70 0 (nI x).toInt64) 69 1 (nI (0 + 1))).1 69 1 = nI 1 := rfl
        have e0 : (sI (sL (sI τ2 69 1 0) 70 0 (nI x).toInt64) 69 1 (nI (0 + 1))).2 70 0 = (nI x).toInt64 := rfl
        generalize sI (sL (sI τ2 69 1 0) 70 0 (nI x).toInt64) 69 1 (nI (0 + 1)) = τ4 at f4 e1 e0 ⊢
        refine s_easyLoop (τ := τ4) (g2.fr f4 rfl) ((pu.fr f2 rfl).fr f4 rfl) hP2 hy ky hx (fun f hf => by rw [f4.c1 88 rfl, f4.c1 89 rfl]; exact h2 f hf) lh tg l 1 x τ4 l2 hx z (by omega) Fr.rf e1 (fun τ5 f5 a1 a2 a3 => ?_)
        have ev : ccS hd mm x / 64 = hd x := by
          rw [ccS_lt z]
          have := (lh_small lh (show x < 36 by omega) z).1
          omega
        rw [← ev]
        refine good x y (ccS hd mm) l hx hy rfl rfl hw kx ky mz cx l1 l2 τ5 (((F2.wk rfl).tr (f4.wk rfl)).tr (f5.wk rfl)) (by rw [a1]; congr 1; omega) (fun j hj => ?_)
        cases j with
        | zero => rw [a2 0 (by omega), e0, List.getD_cons_zero]
        | succ j => rw [show j + 1 = 1 + j by omega, a3 j (by omega), show 1 + j = j + 1 by omega, List.getD_cons_succ]
      · have z : ¬ hd x < 1000000 := fun w => z (nI_lt (b := 1000000) w (by omega))
        exact far x y (ccS hd mm) hx hy rfl rfl hw kx ky mz (fun w => z ((ccS_far hn.1 lh hx).1.mp w)) τ2 F2
theorem p_easy (t : Nat) (w a b : Int32) : PrI t m_H_easy m_M_easy [.int w, .int a, .int b] := by
  intro ht0 τ h
  obtain ⟨R, C, kd, ht, ns, n, hA, hT, hR⟩ := h
  have ⟨ga, sh, c, _, _, _, _, _, _⟩ := hA
  have hn36 := ga.n36
  obtain ⟨o, ee, m, E⟩ := hA.env
  obtain ⟨nn, hi2, hi⟩ := c.2.2.2.2.1
  have hi2 : nn < 2 ^ 30 := by omega
  obtain ⟨P, hP⟩ := plN ht m (τ.1 80) w (τ.1 75) (τ.1 75 47) nn
  have row := c.row
  have hr : ∀ j, j < 50 → τ.1 75 j = τ.1 75 j := fun j _ => rfl
  have inr : ∀ x y, x < R * C → y < R * C → a = nI x → b = nI y → (1 ≤ w ∧ w ≤ nI 99) → (1 ≤ w ∧ w ≤ nI 99) ∧ (0 ≤ a ∧ a < nI (R * C)) ∧ 0 ≤ b ∧ b < nI (R * C) := fun x y hx hy ex ey hw => by
    subst ex ey
    exact ⟨hw, ⟨nI_pos' (by omega), nI_lt hx (by omega)⟩, nI_pos' (by omega), nI_lt hy (by omega)⟩
  have uq : ∀ x x' : Nat, x < R * C → x' < R * C → nI x = nI x' → x' = x := fun x x' h h' e => ((nI_eq (by omega) (by omega)).mp e).symm
  refine s_Heasy (d := 892) E c hi hi2 hP (fun z => ?_) (fun x y hx hy ex ey hw rk => ?_) (fun x y c1 hx hy ex ey hw kx ky mz cx τ1 f1 w53 => ?_) (fun x y c1 l hx hy ex ey hw kx ky mz cx l1 l2 τ1 f1 w53 e1 e2 => ?_)
  · refine s_Measy (d := 892) E row hr hi hi2 hP (fun _ τ2 f2 => ok rfl (hA.inv3 hT hR f2 rfl)) (fun x y hx hy ex ey hw => absurd (inr x y hx hy ex ey hw) z) (fun x y c hx hy ex ey hw => absurd (inr x y hx hy ex ey hw) z) (fun x y c l hx hy ex ey hw => absurd (inr x y hx hy ex ey hw) z)
  · have z := inr x y hx hy ex ey hw
    subst ex ey
    have no : ∀ x' y', x' < R * C → y' < R * C → nI x = nI x' → nI y = nI y' → kd x' ≠ 3 → kd y' ≠ 3 → False := fun x' y' hx' hy' ex ey kx ky => by
      have := uq x x' hx hx' ex
      have := uq y y' hy hy' ey
      subst x' y'
      rcases rk with q | q
      · exact kx q
      · exact ky q
    exact s_Measy (d := 892) E row hr hi hi2 hP (fun w => absurd z w) (fun _ _ _ _ _ _ _ _ τ2 f2 => ok rfl (hA.inv3 hT hR f2 rfl)) (fun x' y' _ hx' hy' ex ey _ kx ky => (no x' y' hx' hy' ex ey kx ky).elim) (fun x' y' c l hx' hy' ex ey _ kx ky => (no x' y' hx' hy' ex ey kx ky).elim)
  · have z := inr x y hx hy ex ey hw
    subst ex ey
    have E1 := E.fr f1 rfl (f1.c1 9 rfl 1)
    have hr1 : ∀ j, j < 50 → τ1.1 75 j = τ.1 75 j := fun j _ => f1.c1 75 rfl j
    have en : ∀ τ2, Fr [82, 83, 88, 89, 90] [(69, 0)] τ1 τ2 → (∃ z : Int32, some (Value.int (-2)) = some (.int z) ∧ some (Value.int (-2)) = some (.int z)) ∧ Inv (t + 1) τ2 := fun τ2 f2 => by
      have F : Fr [55, 58, 61, 62, 82, 83, 88, 89, 90] [(53, 3), (56, 3), (59, 2), (59, 3), (59, 4), (60, 1), (60, 2), (60, 3), (69, 0)] τ τ2 := (f1.wk rfl).tr (f2.wk rfl)
      exact ok rfl (hA.invW F rfl (Or.inr (Or.inl ((f2.u1 59 2 rfl).trans w53))) (hT.fr F rfl) (hR.fr F rfl))
    refine s_Measy (d := 892) E1 row hr1 hi hi2 hP (fun w => absurd z w) (fun x' y' hx' hy' ex ey _ rk τ2 f2 => en τ2 f2) (fun x' y' _ hx' hy' ex ey _ kx ky _ _ τ2 f2 => en τ2 f2) (fun x' y' c l hx' hy' ex ey _ _ _ mz' cx' => ?_)
    have := uq x x' hx hx' ex
    have := uq y y' hy hy' ey
    subst x' y'
    rw [mz_eq mz' mz hx] at cx'
    exact absurd cx' cx
  · have z := inr x y hx hy ex ey hw
    subst ex ey
    have E1 := E.fr f1 rfl (f1.c1 9 rfl 1)
    have hr1 : ∀ j, j < 50 → τ1.1 75 j = τ.1 75 j := fun j _ => f1.c1 75 rfl j
    refine s_Measy (d := 892) E1 row hr1 hi hi2 hP (fun w => absurd z w) (fun x' y' hx' hy' ex ey _ rk => ?_) (fun x' y' c' hx' hy' ex ey _ _ _ mz' cx' => ?_) (fun x' y' c' l' hx' hy' ex ey _ _ _ mz' cx' l1' l2' τ2 f2 a1 a2 => ?_)
    · have := uq x x' hx hx' ex
      have := uq y y' hy hy' ey
      subst x' y'
      rcases rk with q | q
      · exact absurd q kx
      · exact absurd q ky
    · have := uq x x' hx hx' ex
      have := uq y y' hy hy' ey
      subst x' y'
      rw [mz_eq mz' mz hx] at cx'
      exact absurd cx cx'
    · have := uq x x' hx hx' ex
      have := uq y y' hy hy' ey
      subst x' y'
      have el : l' = l := pth_uq l' l x (pth_c (fun q hq => mz_eq mz' mz hq) l' x hx l2') l2
      subst el
      have F : Fr [4, 55, 58, 61, 62, 70, 82, 83, 88, 89, 90] [(3, 1), (53, 3), (56, 3), (59, 2), (59, 3), (59, 4), (60, 1), (60, 2), (60, 3), (69, 0), (69, 1)] τ τ2 := (f1.wk rfl).tr (f2.wk rfl)
      exact ok (by rw [mz_eq mz' mz hx]) (hA.invW F rfl (Or.inr (Or.inl ((f2.u1 59 2 rfl).trans w53))) (hT.fr F rfl) (RoI.list (n := l'.length + 1) (by omega) ((f2.u1 3 1 rfl).trans e1) a1 (fun j hj => (f2.c2 4 rfl j).trans (e2 j hj)) a2))
