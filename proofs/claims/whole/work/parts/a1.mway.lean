theorem pth_uq {kd : Nat → Nat} {R C lim s : Nat} {P : Nat → Nat → Nat} {c : Nat → Nat} : ∀ (l l' : List Nat) (f : Nat), pth kd R C P lim s c f l → pth kd R C P lim s c f l' → l = l'
  | [], [], _, _, _ => rfl
  | [], q :: l', f, h, h' => by have := onB_uq h h'.1; exact absurd this (by simp)
  | q :: l, [], f, h, h' => by have := onB_uq h.1 h'; exact absurd this (by simp)
  | q :: l, q' :: l', f, h, h' => by
    have := Option.some.inj (onB_uq h.1 h'.1)
    subst this
    rw [pth_uq l l' q h.2 h'.2]
theorem s_Mway {d R C ns o e m i B : Nat} {kd ht : Nat → Nat} {W S r : Nat → Int32} {P : Nat → Nat → Nat} {Q : Qt} {τ : St} {w a b : Int32} (E : EnvI R C kd ht ns o e m W S τ) (row : RowG ns (R * C) B kd r) (hr : ∀ j, j < 50 → τ.1 75 j = r j) (hi : r 46 = nI i) (hi2 : i < 2 ^ 30) (hP : ∀ f q, plF ht m S w r (r 47) i f q = nI (P f q) ∧ P f q ≤ 1498)
    (bad : ¬ ((1 ≤ w ∧ w ≤ nI 99) ∧ (0 ≤ a ∧ a < nI (R * C)) ∧ 0 ≤ b ∧ b < nI (R * C)) → ∀ τ', Fr [] [(69, 0)] τ τ' → Q (some (.int (-1))) τ')
    (rock : ∀ x y, x < R * C → y < R * C → a = nI x → b = nI y → (1 ≤ w ∧ w ≤ nI 99) → kd x = 3 ∨ kd y = 3 → ∀ τ', Fr [82, 83, 88, 89, 90] [(69, 0)] τ τ' → Q (some (.int (-2))) τ')
    (far : ∀ x y, x < R * C → y < R * C → a = nI x → b = nI y → (1 ≤ w ∧ w ≤ nI 99) → kd x ≠ 3 → kd y ≠ 3 → (∀ j, ¬ toK kd R C P (fun q => q = y) 1498 j x) → ∀ τ', Fr [82, 83, 88, 89, 90] [(69, 0)] τ τ' → Q (some (.int (-2))) τ')
    (good : ∀ x y k c l, x < R * C → y < R * C → a = nI x → b = nI y → (1 ≤ w ∧ w ≤ nI 99) → kd x ≠ 3 → kd y ≠ 3 → k ≤ 1498 → (∃ j, toK kd R C P (fun q => q = y) k j x) → (∀ k', k' < k → ∀ j, ¬ toK kd R C P (fun q => q = y) k' j x) → mzP kd R C P y k 0 c → l.length ≤ 35 → pth kd R C P k 0 c x l → ∀ τ', Fr [70, 82, 83, 88, 89, 90] [(69, 0), (69, 1)] τ τ' → τ'.1 69 1 = nI (l.length + 1) → (∀ j, j < l.length + 1 → τ'.2 70 j = (nI ((x :: l).getD j 0)).toInt64) → Q (some (.int (nI k))) τ') : Cl (d + 8) m_M_way [.ref 69, .int w, .int a, .int b] τ Q := by
  have hn := E.1.1.n36
  rw [N_M_way]
  simp only [E_M_way, fIsA, fRt, fLen, fLit, fBool]
  have f0 := fr690 (τ := τ) (v := 0)
  generalize sI τ 69 0 0 = τ0 at f0 ⊢
  have E0 := E.fr f0 rfl (f0.u1 9 1 rfl)
  have hr0 : ∀ j, j < 50 → τ0.1 75 j = r j := fun j hj => (f0.c1 75 rfl j).trans (hr j hj)
  refine s_MisWeighed E0.1.1 (fun z => ?_) (fun x y hx hy ex ey hw => ?_)
  · have q := bad z τ0 f0
    simp only [oT, oN, E_M_way, fIsA, fRt, fLen, fLit, fBool]
    exact q
  · subst ex ey
    simp only [oT, oN, E_M_way, fIsA, fRt, fLen, fLit, fBool, fIx, hr0 46 (by omega), hr0 47 (by omega), hi]
    refine s_laysPulls E0 row hr0 hi2 (fun τ1 f1 pu0 => ?_)
    simp only [oT, oN, E_M_way, fIsA, fRt, fLen, fLit, fBool]
    have F1 : Fr [82, 83, 88, 89, 90] [(69, 0)] τ τ1 := (f0.wk rfl).tr (f1.wk rfl)
    have g1 := E.1.1.fr F1 rfl
    have hP2 : ∀ f q, P f q ≤ 1498 := fun f q => (hP f q).2
    have pu := PuN.of hP pu0
    refine s_laysHard (z := false) rfl g1 pu hP2 hy (fun τ2 hd mm f2 h2 lh tg => ?_)
    simp only [oT, oN, E_M_way, fIsA, fRt, fLen, fLit, fBool]
    have F2 : Fr [82, 83, 88, 89, 90] [(69, 0)] τ τ2 := F1.tr (f2.wk rfl)
    have g2 := E.1.1.fr F2 rfl
    refine s_MisRock g2 hx hy (fun rk => ?_) (fun kx ky => ?_)
    · have q := rock x y hx hy rfl rfl hw rk τ2 F2
      simp only [oT, oN, E_M_way, fIsA, fRt, fLen, fLit, fBool]
      exact q
    · have bx := lh.2.1 x (by omega)
      simp only [oT, oN, E_M_way, fIsA, fRt, fLen, fLit, fBool, nI_clamp (show x < 2 ^ 31 by omega), (h2 x (by omega)).1]
      refine ⟨vp_in_nI (by omega) (by omega), fun z => ⟨vp_in_nI (by omega) (by omega), ?_⟩, fun z => ?_⟩
      · have z : hd x < 1000000 := (nI_ltI (b := 1000000) (by omega) (by omega)).mp z
        obtain ⟨k5, j, tj⟩ := lh.2.2.2.2 rfl x (by omega) z
        refine s_laysMany (lim := hd x) g2 (pu.fr f2 rfl) hP2 hy (by omega) (fun τ3 m3 f3 h3 mu me => ?_)
        simp only [oT, oN, E_M_way, fIsA, fRt, fLen, fLit, fBool, nI_clamp (show x < 2 ^ 31 by omega)]
        have mz := mu_mz hn.1 hy ky mu me
        -- a cost, for a way is there
        have cx : ccM m3 x < 2 ^ 30 := by
          have : ∀ j f, f < R * C → toK kd R C P (fun q => q = y) (hd x) j f → ccM m3 f < 2 ^ 30 := by
            intro j
            induction j with
            | zero => intro f _ z; rw [show f = y from z, mz.1]; omega
            | succ j ih =>
              rintro f hf ⟨h, q, e, l, z⟩
              have e2 := eG_sym e
              have cq := ih q e2.1 z
              have := mz.2.2.1 q f _ e2.1 e2.2.1 cq e2.2.2.2 l
              have := mz_small mz e2.1 cq
              omega
          exact this j x hx tj
        obtain ⟨l, l1, l2⟩ := pth_many hn.1 mz ky hx cx
        have F3 : Fr [82, 83, 88, 89, 90] [(69, 0)] τ τ3 := F2.tr (f3.wk rfl)
        refine s_Menters (n := 0) rfl (by omega) ?_
        simp only [oT, oN, E_M_way, fIsA, fRt, fLen, fLit, fBool, nI_clamp (show x < 2 ^ 31 by omega)]
        have f4 : Fr [70] [(69, 1)] τ3 (sI (sL (sI τ3 69 1 0) 70 0 (nI x).toInt64) 69 1 (nI (0 + 1))) := ((Fr.rf.i rfl).lc rfl).i rfl
        have e1 : (sI (sL (sI τ3 69 1 0) 70 0 (nI x).toInt64) 69 1 (nI (0 + 1))).1 69 1 = nI 1 := rfl
        have e0 : (sI (sL (sI τ3 69 1 0) 70 0 (nI x).toInt64) 69 1 (nI (0 + 1))).2 70 0 = (nI x).toInt64 := rfl
        generalize sI (sL (sI τ3 69 1 0) 70 0 (nI x).toInt64) 69 1 (nI (0 + 1)) = τ4 at f4 e1 e0 ⊢
        refine s_wayLoop (w0 := 0) (τ := τ4) (g2.fr (f3.wk (cs' := [70, 89]) (fs' := [(69, 1)]) rfl |>.tr (f4.wk rfl)) rfl) ((pu.fr f2 rfl).fr ((f3.wk (cs' := [70, 89]) (fs' := [(69, 1)]) rfl).tr (f4.wk rfl)) rfl) hP2 (by omega) hy ky (fun f hf => by rw [f4.c1 89 rfl]; exact h3 f hf) mu me l 1 x τ4 _ _ _ _ l2 hx ((ccM_far hn.1 mu me hx).1.mp cx) (by omega) Fr.rf e1 (fun τ5 f5 a1 a2 a3 => ?_)
        refine good x y (hd x) (ccM m3) l hx hy rfl rfl hw kx ky k5 ⟨j, tj⟩ (fun k' hk' j' z' => ?_) mz l1 l2 τ5 (((F3.wk rfl).tr (f4.wk rfl)).tr (f5.wk rfl)) (by rw [a1]; congr 1; omega) (fun j hj => ?_)
        · have := lh_to lh tg (show k' < 1000000 by omega) j' x z'
          omega
        · cases j with
          | zero => rw [a2 0 (by omega), e0, List.getD_cons_zero]
          | succ j => rw [show j + 1 = 1 + j by omega, a3 j (by omega), show 1 + j = j + 1 by omega, List.getD_cons_succ]
      · have z : ¬ hd x < 1000000 := fun w => z (nI_lt (b := 1000000) w (by omega))
        exact far x y hx hy rfl rfl hw kx ky (fun j tj => by have := lh_to lh tg (show 1498 < 1000000 by omega) j x tj; omega) τ2 F2
/-- the row of the class is the reference's -/
theorem RoI.list {τ : St} {n : Nat} {v : Nat → Int64} (hn : n ≤ 36) (h1 : τ.1 3 1 = nI n) (h2 : τ.1 69 1 = nI n) (h3 : ∀ j, j < n → τ.2 4 j = v j) (h4 : ∀ j, j < n → τ.2 70 j = v j) : RoI τ := ⟨n, hn, h1, h2, fun j hj => (h3 j hj).trans (h4 j hj).symm⟩
theorem p_way (t : Nat) (w a b : Int32) : PrI t m_H_way m_M_way [.int w, .int a, .int b] := by
  intro ht0 τ h
  obtain ⟨R, C, kd, ht, ns, n, hA, hT, hR⟩ := h
  have ⟨ga, sh, c, _, _, _, _, _, _⟩ := hA
  have hn36 := ga.n36
  obtain ⟨o, ee, m, E⟩ := hA.env
  obtain ⟨nn, hi2, hi⟩ := c.2.2.2.2.1
  have hi2 : nn < 2 ^ 30 := by omega
  obtain ⟨P, hP⟩ := plN ht m (τ.1 80) w (τ.1 75) (τ.1 75 47) nn
  have row := c.row
  have hr : ∀ j, j < 50 → τ.1 75 j = τ.1 75 j := fun j _ => rfl
  have inr : ∀ x y, x < R * C → y < R * C → a = nI x → b = nI y → (1 ≤ w ∧ w ≤ nI 99) → (1 ≤ w ∧ w ≤ nI 99) ∧ (0 ≤ a ∧ a < nI (R * C)) ∧ 0 ≤ b ∧ b < nI (R * C) := fun x y hx hy ex ey hw => by
    subst ex ey
    exact ⟨hw, ⟨nI_pos' (by omega), nI_lt hx (by omega)⟩, nI_pos' (by omega), nI_lt hy (by omega)⟩
  have uq : ∀ x x' : Nat, x < R * C → x' < R * C → nI x = nI x' → x' = x := fun x x' h h' e => ((nI_eq (by omega) (by omega)).mp e).symm
  refine s_Hway (d := 892) E c hi hi2 hP (fun z => ?_) (fun x y hx hy ex ey hw rk => ?_) (fun x y hx hy ex ey hw kx ky no τ1 f1 w53 => ?_) (fun x y k c1 l hx hy ex ey hw kx ky hk yes min mz cx l1 l2 τ1 f1 w53 e1 e2 => ?_)
  · refine s_Mway (d := 892) E row hr hi hi2 hP (fun _ τ2 f2 => ok rfl (hA.inv3 hT hR f2 rfl)) (fun x y hx hy ex ey hw => absurd (inr x y hx hy ex ey hw) z) (fun x y hx hy ex ey hw => absurd (inr x y hx hy ex ey hw) z) (fun x y k c l hx hy ex ey hw => absurd (inr x y hx hy ex ey hw) z)
  · have z := inr x y hx hy ex ey hw
    subst ex ey
    refine s_Mway (d := 892) E row hr hi hi2 hP (fun w => absurd z w) (fun _ _ _ _ _ _ _ _ τ2 f2 => ok rfl (hA.inv3 hT hR f2 rfl)) (fun x' y' hx' hy' ex ey _ kx ky => ?_) (fun x' y' k c l hx' hy' ex ey _ kx ky => ?_)
    · have := uq x x' hx hx' ex
      have := uq y y' hy hy' ey
      subst x' y'
      rcases rk with q | q
      · exact absurd q kx
      · exact absurd q ky
    · have := uq x x' hx hx' ex
      have := uq y y' hy hy' ey
      subst x' y'
      rcases rk with q | q
      · exact absurd q kx
      · exact absurd q ky
  · have z := inr x y hx hy ex ey hw
    subst ex ey
    have E1 := E.fr f1 rfl (f1.c1 9 rfl 1)
    have hr1 : ∀ j, j < 50 → τ1.1 75 j = τ.1 75 j := fun j _ => f1.c1 75 rfl j
    have en : ∀ τ2, Fr [82, 83, 88, 89, 90] [(69, 0)] τ1 τ2 → (∃ z : Int32, some (Value.int (-2)) = some (.int z) ∧ some (Value.int (-2)) = some (.int z)) ∧ Inv (t + 1) τ2 := fun τ2 f2 => by
      have F : Fr [55, 58, 61, 82, 83, 88, 89, 90] [(53, 3), (56, 3), (59, 2), (59, 3), (59, 4), (60, 1), (60, 2), (60, 3), (69, 0)] τ τ2 := (f1.wk rfl).tr (f2.wk rfl)
      exact ok rfl (hA.invW F rfl (Or.inr (Or.inl ((f2.u1 59 2 rfl).trans w53))) (hT.fr F rfl) (hR.fr F rfl))
    refine s_Mway (d := 892) E1 row hr1 hi hi2 hP (fun w => absurd z w) (fun x' y' hx' hy' ex ey _ rk => ?_) (fun x' y' hx' hy' ex ey _ kx ky _ τ2 f2 => en τ2 f2) (fun x' y' k c l hx' hy' ex ey _ _ _ hk yes => ?_)
    · have := uq x x' hx hx' ex
      have := uq y y' hy hy' ey
      subst x' y'
      rcases rk with q | q
      · exact absurd q kx
      · exact absurd q ky
    · have := uq x x' hx hx' ex
      have := uq y y' hy hy' ey
      subst x' y'
      obtain ⟨j, tj⟩ := yes
      exact absurd (toK_lim hk j x tj) (no j)
  · have z := inr x y hx hy ex ey hw
    subst ex ey
    have E1 := E.fr f1 rfl (f1.c1 9 rfl 1)
    have hr1 : ∀ j, j < 50 → τ1.1 75 j = τ.1 75 j := fun j _ => f1.c1 75 rfl j
    refine s_Mway (d := 892) E1 row hr1 hi hi2 hP (fun w => absurd z w) (fun x' y' hx' hy' ex ey _ rk => ?_) (fun x' y' hx' hy' ex ey _ _ _ no => ?_) (fun x' y' k' c' l' hx' hy' ex ey _ _ _ hk' yes' min' mz' l1' l2' τ2 f2 a1 a2 => ?_)
    · have := uq x x' hx hx' ex
      have := uq y y' hy hy' ey
      subst x' y'
      rcases rk with q | q
      · exact absurd q kx
      · exact absurd q ky
    · have := uq x x' hx hx' ex
      have := uq y y' hy hy' ey
      subst x' y'
      obtain ⟨j, tj⟩ := yes
      exact absurd (toK_lim hk j x tj) (no j)
    · have := uq x x' hx hx' ex
      have := uq y y' hy hy' ey
      subst x' y'
      have ek : k' = k := by
        obtain ⟨j, tj⟩ := yes
        obtain ⟨j', tj'⟩ := yes'
        rcases Nat.lt_trichotomy k k' with q | q | q
        · exact absurd tj (min' k q j)
        · exact q.symm
        · exact absurd tj' (min k' q j')
      subst ek
      have el : l' = l := pth_uq l' l x (pth_c (fun q hq => mz_eq mz' mz hq) l' x hx l2') l2
      subst el
      have F : Fr [4, 55, 58, 61, 62, 70, 82, 83, 88, 89, 90] [(3, 1), (53, 3), (56, 3), (59, 2), (59, 3), (59, 4), (60, 1), (60, 2), (60, 3), (69, 0), (69, 1)] τ τ2 := (f1.wk rfl).tr (f2.wk rfl)
      exact ok rfl (hA.invW F rfl (Or.inr (Or.inl ((f2.u1 59 2 rfl).trans w53))) (hT.fr F rfl) (RoI.list (n := l'.length + 1) (by omega) ((f2.u1 3 1 rfl).trans e1) a1 (fun j hj => (f2.c2 4 rfl j).trans (e2 j hj)) a2))
