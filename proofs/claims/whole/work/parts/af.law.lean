/-! PAIRS: law -/
noncomputable def PH (ht : Nat → Nat) (m : Nat) (S : Nat → Int32) (w : Int32) (r : Nat → Int32) (i h : Nat) : Nat → Nat → Nat → Nat := fun k => plC ht m S w r (nI ((h + k) % 10)) (i + (h + k) / 10)
theorem PH_ok (ht : Nat → Nat) (m : Nat) (S : Nat → Int32) (w : Int32) (r : Nat → Int32) (i h : Nat) : ∀ k f q, plF ht m S w r (nI ((h + k) % 10)) (i + (h + k) / 10) f q = nI (PH ht m S w r i h k f q) ∧ PH ht m S w r i h k f q ≤ 1498 := fun k => plC_ok ht m S w r (nI ((h + k) % 10)) (i + (h + k) / 10)
/-- the rule read, as the reference holds it -/
def lS (l : List (Nat × Nat)) : Nat → Int32 := fun j => (lM l).getD j 0
theorem s_Mlaw {d R C ns o i B h m n : Nat} {kd ht : Nat → Nat} {r : Nat → Int32} {gg : Nat → Nat} {v : Int32} {Q : Qt} {τ : St} (g : GI τ R C kd ht) (sh : ShI τ ns) (lm : τ.1 69 24 = nI m) (rk : RkM m (τ.1 80)) (row : RowG ns (R * C) B kd r) (hr : ∀ j, j < 50 → τ.1 75 j = r j) (hi : r 46 = nI i) (hi2 : i < 2 ^ 29) (h47 : r 47 = nI h) (hh : h < 10) (h74 : τ.1 74 0 = nI o) (ho : o ≤ 999) (h14 : τ.1 69 14 = nI n) (hn80 : n ≤ 80) (hb : ∀ j, j < n → τ.1 77 j = nI (gg j) ∧ gg j < 256)
    (noship : ¬ (0 ≤ v ∧ v < nI ns) → ∀ τ', Fr [81] [(69, 0), (69, 14), (69, 15), (69, 16), (69, 17), (69, 25)] τ τ' → τ'.1 69 14 = 0 → Q (some (.int (-20000))) τ')
    (fault : ∀ s q, s < ns → v = nI s → ruT gg n = (none, q) → ∀ τ', Fr [81] [(69, 0), (69, 14), (69, 15), (69, 16), (69, 17), (69, 25)] τ τ' → τ'.1 69 14 = 0 → Q (some (.int (-1 - nI q + 1 - 10000))) τ')
    (yes : ∀ s l q x its as, s < ns → v = nI s → ruT gg n = (some l, q) → r (36 + s) = nI x → x < R * C → hvP kd R C (PH ht (lM l).length (lS l) (τ.1 73 s) r i h) o x its → hvP kd R C (PH ht m (τ.1 80) (τ.1 73 s) r i h) o x as → ∀ τ', Fr [70, 80, 81, 82, 83, 90, 97] [(69, 0), (69, 1), (69, 14), (69, 15), (69, 16), (69, 17), (69, 24), (69, 25)] τ τ' → τ'.1 69 14 = 0 → τ'.1 69 24 = nI m → (∀ j, j < m → τ'.1 80 j = τ.1 80 j) → τ'.1 69 1 = 2 → τ'.2 70 0 = (nI its).toInt64 → τ'.2 70 1 = (nI as).toInt64 → Q (some (.int (nI its - nI as))) τ') : Cl (d + 760) m_M_law [.ref 69, .int v] τ Q := by
  have hn := g.n36
  have h8 := sh.1
  have ro := ru_ok (g := gg) hn80
  rw [N_M_law]
  simp only [E_M_law, fIsA, fRt, fLen, fLit, fBool]
  have f0 := fr690 (τ := τ) (v := 0)
  generalize sI τ 69 0 0 = τ0 at f0 ⊢
  refine s_Mrules (d + 9) (n := n) (g := gg) ((f0.u1 69 14 rfl).trans h14) hn80 (fun j hj => ⟨(f0.c1 77 rfl j).trans (hb j hj).1, (hb j hj).2⟩) (fun q τ1 hr1 f1 e14 => ?_) (fun l q τ1 hr1 f1 e14 e25 s1 => ?_)
  · have F1 : Fr [81] [(69, 0), (69, 14), (69, 15), (69, 16), (69, 17), (69, 25)] τ τ1 := (f0.wk rfl).tr (f1.wk rfl)
    have ro1 : q ≤ 40 := by have := ro.1; rw [hr1] at this; exact this
    simp only [oT, oN, E_M_law, fIsA, fRt, fLen, fLit, fBool]
    refine s_MisShip (sh.fr F1 rfl) (fun s hs es => ?_) (fun z => ?_)
    · have q1 := fault s q hs es hr1 τ1 F1 e14
      simp only [oT, oN, E_M_law, fIsA, fRt, fLen, fLit, fBool]
      first
        | exact ⟨fun z => absurd z (negA q (by omega)), fun _ => q1⟩
        | exact ⟨fun _ => q1, fun z => absurd (Int32.not_lt.mp z) (negA q (by omega))⟩
    · have q1 := noship z τ1 F1 e14
      simp only [oT, oN, E_M_law, fIsA, fRt, fLen, fLit, fBool]
      exact q1
  · have F1 : Fr [81] [(69, 0), (69, 14), (69, 15), (69, 16), (69, 17), (69, 25)] τ τ1 := (f0.wk rfl).tr (f1.wk rfl)
    have ro2 := ro.2 l (by rw [hr1])
    obtain ⟨t1, t2, t3⟩ := l_tie ro2.1 ro2.2.1 ro2.2.2.1 (by omega)
    have l40 := ro2.2.2.2
    simp only [oT, oN, E_M_law, fIsA, fRt, fLen, fLit, fBool]
    refine s_MisShip (sh.fr F1 rfl) (fun s hs es => ?_) (fun z => ?_)
    · subst es
      obtain ⟨x, hx, kx, ex⟩ := row.1 s hs
      have g1 := g.fr F1 rfl
      have W73 : ∀ τ', Fr [70, 80, 81, 82, 83, 90, 97] [(69, 0), (69, 1), (69, 14), (69, 15), (69, 16), (69, 17), (69, 24), (69, 25)] τ τ' → τ'.1 73 s = τ.1 73 s ∧ τ'.1 74 0 = nI o ∧ ∀ j, j < 50 → τ'.1 75 j = r j := fun τ' f => ⟨f.c1 73 rfl s, (f.c1 74 rfl 0).trans h74, fun j hj => (f.c1 75 rfl j).trans (hr j hj)⟩
      obtain ⟨w1, w2, w3⟩ := W73 τ1 (F1.wk rfl)
      simp only [oT, oN, E_M_law, fIsA, fRt, fLen, fLit, fBool]
      refine s_MhoursOf (m := m) (S := τ.1 80) g1 ((F1.u1 69 24 rfl).trans lm) (fun j _ => F1.c1 80 rfl j) rk row w3 hi hi2 h47 hh w2 ho w1 (by omega) ex hx (PH_ok ht m (τ.1 80) (τ.1 73 s) r i h) (fun as τ2 has f2 => ?_)
      have F2 : Fr [81, 82, 83, 90] [(69, 0), (69, 14), (69, 15), (69, 16), (69, 17), (69, 25)] τ τ2 := (F1.wk rfl).tr (f2.wk rfl)
      have m80 := rk.1
      simp only [oT, oN, E_M_law, fIsA, fRt, fLen, fLit, fBool, (F2.u1 69 24 rfl).trans lm]
      -- the code is put by
      have loop : ∀ (u k : Nat) (τ3 : St), k + u = m → Fr [97] [] τ2 τ3 → (∀ j, j < k → τ3.1 97 j = τ.1 80 j) → Rs M_M_law (d + 759) Q 49 [some (.ref 69), some (.int (nI s)), some (.int 0), some (.int (nI as)), some (.int (nI m)), some (.int (nI k))] [] τ3 := by
        intro u
        induction u with
        | zero =>
          intro k τ3 hk f3 h97
          obtain rfl : k = m := by omega
          have F3 : Fr [81, 82, 83, 90, 97] [(69, 0), (69, 14), (69, 15), (69, 16), (69, 17), (69, 25)] τ τ3 := (F2.wk rfl).tr (f3.wk rfl)
          rw [Rs_eq]
          simp only [E_M_law, fIsA, fRt, fLen, fLit, fBool, (F3.u1 69 24 rfl).trans lm]
          refine ⟨fun _ => ?_, fun z => absurd (Int32.le_refl _) z⟩
          have e25' : τ3.1 69 25 = nI (lM l).length := (f3.u1 69 25 rfl).trans ((f2.u1 69 25 rfl).trans e25)
          rw [e25']
          refine s_laysCode (Or.inl rfl) (by omega) (fun τ4 f4 h24 c80 => ?_)
          have F4 : Fr [80, 81, 82, 83, 90, 97] [(69, 0), (69, 14), (69, 15), (69, 16), (69, 17), (69, 24), (69, 25)] τ τ4 := (F3.wk rfl).tr (f4.wk rfl)
          obtain ⟨v1, v2, v3⟩ := W73 τ4 (F4.wk rfl)
          simp only [oT, oN, E_M_law, fIsA, fRt, fLen, fLit, fBool]
          refine s_MhoursOf (m := (lM l).length) (S := lS l) (g.fr F4 rfl) h24 (fun j hj => ?_) t2 row v3 hi hi2 h47 hh v2 ho v1 (by omega) ex hx (PH_ok ht (lM l).length (lS l) (τ.1 73 s) r i h) (fun its τ5 hits f5 => ?_)
          · rw [c80 j hj, f3.c1 81 rfl, f2.c1 81 rfl]
            exact s1 j hj
          · simp only [oT, oN, E_M_law, fIsA, fRt, fLen, fLit, fBool]
            refine s_laysCode (Or.inr rfl) m80 (fun τ6 f6 h24' c80' => ?_)
            simp only [oT, oN, E_M_law, fIsA, fRt, fLen, fLit, fBool]
            refine s_Menters (n := 0) rfl (by omega) ?_
            simp only [oT, oN, E_M_law, fIsA, fRt, fLen, fLit, fBool]
            refine s_Menters (n := 1) rfl (by omega) ?_
            simp only [oT, oN, E_M_law, fIsA, fRt, fLen, fLit, fBool]
            have F6 : Fr [70, 80, 81, 82, 83, 90, 97] [(69, 0), (69, 1), (69, 14), (69, 15), (69, 16), (69, 17), (69, 24), (69, 25)] τ τ6 := (F4.wk rfl).tr ((f5.wk rfl).tr (f6.wk rfl))
            have f14 : τ6.1 69 14 = 0 := (f6.u1 69 14 rfl).trans ((f5.u1 69 14 rfl).trans ((f4.u1 69 14 rfl).trans ((f3.u1 69 14 rfl).trans ((f2.u1 69 14 rfl).trans e14))))
            refine yes s l q x its as hs rfl hr1 ex hx hits has _ (((((F6.i rfl).lc rfl).i rfl).lc rfl).i rfl) ?_ ?_ (fun j hj => ?_) rfl ?_ ?_
            · simp only [sI_1, sL_1, reduceIte, Nat.reduceEqDiff]
              exact f14
            · simp only [sI_1, sL_1, reduceIte, Nat.reduceEqDiff]
              exact h24'
            · simp only [sI_1, sL_1, reduceIte, Nat.reduceEqDiff]
              rw [c80' j hj, f5.c1 97 rfl, f4.c1 97 rfl]
              exact h97 j hj
            · simp only [sI_2, sL_2, reduceIte, Nat.reduceEqDiff]
            · simp only [sI_2, sL_2, reduceIte, Nat.reduceEqDiff]
        | succ u ih =>
          intro k τ3 hk f3 h97
          have F3 : Fr [81, 82, 83, 90, 97] [(69, 0), (69, 14), (69, 15), (69, 16), (69, 17), (69, 25)] τ τ3 := (F2.wk rfl).tr (f3.wk rfl)
          have e80 : τ3.1 80 k = τ.1 80 k := F3.c1 80 rfl k
          rw [Rs_eq]
          simp only [E_M_law, fIsA, fRt, fLen, fLit, fBool, (F3.u1 69 24 rfl).trans lm, nI_clamp (show k < 2 ^ 31 by omega), nI_1, e80]
          refine ⟨fun z => absurd z (nI_ge (by omega) (by omega)), fun _ => ⟨vp_in_nI (by omega) (by omega), vp_in_nI (by omega) (by omega), ?_⟩⟩
          refine ih (k + 1) _ (by omega) (f3.ic rfl) (fun j hj => ?_)
          simp only [sI_1, reduceIte]
          by_cases q : j = k
          · subst q; rw [if_pos rfl]
          · rw [if_neg q]; exact h97 j (by omega)
      have st := loop m 0 τ2 (by omega) Fr.rf (fun j hj => absurd hj (Nat.not_lt_zero _))
      first
        | exact st
        | exact ⟨fun _ => st, fun z => absurd (Int32.le_refl _) z⟩
        | exact ⟨fun z => absurd z (by decide), fun _ => st⟩
    · have q1 := noship z τ1 F1 e14
      simp only [oT, oN, E_M_law, fIsA, fRt, fLen, fLit, fBool]
      exact q1
