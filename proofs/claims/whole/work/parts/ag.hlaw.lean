theorem RuI.cg {τ τ' : St} {m : Nat} (h : RuI τ) (lm : τ.1 69 24 = nI m) (hm : m ≤ 80) (e1 : τ'.1 53 1 = τ.1 53 1) (e2 : ∀ j, τ'.1 54 j = τ.1 54 j) (e3 : τ'.1 69 24 = nI m) (e4 : ∀ j, j < m → τ'.1 80 j = τ.1 80 j) : RuI τ' := by
  obtain ⟨n', m', j1, j2, j3, j4, j5, j6⟩ := h
  have em : m' = m := (nI_eq (by omega) (by omega)).mp (j4.symm.trans lm)
  subst em
  have e54 : τ'.1 54 = τ.1 54 := funext e2
  refine ⟨n', m', j1, j2, e1.trans j3, e3, j5, fun w => ?_⟩
  obtain ⟨a, b, c, d⟩ := j6 w
  rw [e54]
  refine ⟨fun i hi => by rw [e4 i hi]; exact a i hi, b, okR_cg m' 0 0 (fun j _ h2 => by show kdM (τ.1 80 j) = kdM (τ'.1 80 j); rw [e4 j (by omega)]) c, fun x => ?_⟩
  rw [d x]
  exact runM_cg m' 0 [] (fun j _ h2 => (e4 j (by omega)).symm)
theorem s_Hlaw {d R C ns o i B h m n n1 : Nat} {kd ht : Nat → Nat} {S r : Nat → Int32} {gg : Nat → Nat} {W : Nat → Int32} {v : Int32} {Q : Qt} {τ : St} (g : GI τ R C kd ht) (sh : ShI τ ns) (mo : MoI τ 9 ns (R * C) B kd r) (hi : r 46 = nI i) (hi2 : i < 2 ^ 29) (h47 : r 47 = nI h) (hh : h < 10) (h08 : τ.1 0 8 = nI o) (ho : o ≤ 999) (eW : ∀ s, s < ns → τ.1 52 s = W s) (k1 : τ.1 53 1 = nI n1) (k2 : RkC n1 (τ.1 54)) (k4 : ∀ a, vK n1 (τ.1 54) a = vR m S a) (hW : WaI τ) (h11 : τ.1 1 1 = nI n) (hn80 : n ≤ 80) (hb : ∀ j, j < n → τ.1 2 j = nI (gg j) ∧ gg j < 256)
    (noship : ¬ (0 ≤ v ∧ v < nI ns) → ∀ τ', Fr [] [(1, 1)] τ τ' → τ'.1 1 1 = 0 → Q (some (.int (-20000))) τ')
    (fault : ∀ s q, s < ns → v = nI s → ruT gg n = (none, q) → ∀ τ', Fr [57] [(56, 1), (1, 1), (1, 2), (1, 3)] τ τ' → τ'.1 1 1 = 0 → Q (some (.int (-10000 - nI q))) τ')
    (yes : ∀ s l q x its as, s < ns → v = nI s → ruT gg n = (some l, q) → r (36 + s) = nI x → x < R * C → hvP kd R C (PH ht (lM l).length (lS l) (W s) r i h) o x its → hvP kd R C (PH ht m S (W s) r i h) o x as → ∀ τ', Fr [4, 55, 57, 58, 61] [(1, 1), (1, 2), (1, 3), (3, 1), (53, 3), (56, 1), (56, 3), (59, 2), (59, 3), (59, 4), (60, 1), (60, 2), (60, 3)] τ τ' → WaI τ' → τ'.1 1 1 = 0 → τ'.1 3 1 = 2 → τ'.2 4 0 = (nI its).toInt64 → τ'.2 4 1 = (nI as).toInt64 → Q (some (.int (nI its - nI as))) τ') : Cl (d + 710) m_H_law [.ref 0, .int v] τ Q := by
  have hn := g.n36
  have h8 := sh.1
  have ro := ru_ok (g := gg) hn80
  rw [N_H_law]
  simp only [E_H_law, fIsA, fRt, fLen, fLit, fBool]
  refine s_HhasShip sh (fun s hs es => ?_) (fun z => ?_)
  · subst es
    obtain ⟨x, hx, kx, ex⟩ := (mo.1 s hs).2
    simp only [oT, oN, E_H_law, fIsA, fRt, fLen, fLit, fBool]
    refine s_Rread (d + 9) (n := n) (g := gg) h11 hn80 hb (fun q τ1 hr1 f1 e12 => ?_) (fun l q τ1 hr1 f1 e1 s1 => ?_)
    · simp only [oT, oN, E_H_law, fIsA, fRt, fLen, fLit, fBool, e12]
      refine s_empty ?_
      have en := fault s q hs rfl hr1 (sI τ1 1 1 0) ((f1.wk rfl).i rfl) rfl
      simp only [oT, oN, E_H_law, fIsA, fRt, fLen, fLit, fBool]
      exact en
    · have ro2 := ro.2 l (by rw [hr1])
      obtain ⟨t1, t2, t3⟩ := l_tie ro2.1 ro2.2.1 ro2.2.2.1 (by have := ro2.2.2.2; omega)
      simp only [oT, oN, E_H_law, fIsA, fRt, fLen, fLit, fBool]
      have mo1 : MoI τ1 9 ns (R * C) B kd r := mo.same (fun j => f1.c1 9 rfl j) (fun j => f1.c2 9 rfl j) (fun j => f1.c1 10 rfl j) (fun j _ => rfl) (Nat.le_refl _) h8
      refine s_HhoursOver (ρ := 56) (S := lS l) (S1 := fun j => (lC l).getD j 0) (g.fr f1 rfl) (sh.fr f1 rfl) mo1 hs ((f1.c1 52 rfl s).trans (eW s hs)) hi hi2 h47 hh ((f1.u1 0 8 rfl).trans h08) ho ex hx kx (Or.inr rfl) e1 s1 t1 t3 (hW.fr f1 rfl) (PH_ok ht (lM l).length (lS l) (W s) r i h) (fun its τ2 hits f2 W2 => ?_)
      simp only [oT, oN, E_H_law, fIsA, fRt, fLen, fLit, fBool]
      have F2 : Fr [55, 57, 58, 61] [(1, 2), (1, 3), (53, 3), (56, 1), (56, 3), (59, 2), (59, 3), (59, 4), (60, 1), (60, 2), (60, 3)] τ τ2 := (f1.wk rfl).tr (f2.wk rfl)
      have mo2 : MoI τ2 9 ns (R * C) B kd r := mo.same (fun j => F2.c1 9 rfl j) (fun j => F2.c2 9 rfl j) (fun j => F2.c1 10 rfl j) (fun j _ => rfl) (Nat.le_refl _) h8
      refine s_HhoursOver (ρ := 53) (S := S) (S1 := τ.1 54) (g.fr F2 rfl) (sh.fr F2 rfl) mo2 hs ((F2.c1 52 rfl s).trans (eW s hs)) hi hi2 h47 hh ((F2.u1 0 8 rfl).trans h08) ho ex hx kx (Or.inl rfl) ((F2.u1 53 1 rfl).trans k1) (fun j _ => F2.c1 54 rfl j) k2 k4 W2 (PH_ok ht m S (W s) r i h) (fun as τ3 has f3 W3 => ?_)
      simp only [oT, oN, E_H_law, fIsA, fRt, fLen, fLit, fBool]
      refine s_RowBoth ?_
      simp only [oT, oN, E_H_law, fIsA, fRt, fLen, fLit, fBool]
      refine s_empty ?_
      simp only [oT, oN, E_H_law, fIsA, fRt, fLen, fLit, fBool]
      have F3 : Fr [4, 55, 57, 58, 61] [(1, 1), (1, 2), (1, 3), (3, 1), (53, 3), (56, 1), (56, 3), (59, 2), (59, 3), (59, 4), (60, 1), (60, 2), (60, 3)] τ τ3 := (F2.wk rfl).tr (f3.wk rfl)
      have G : Fr [4] [(1, 1), (3, 1)] τ3 (sI (sI (sL (sI (sL (sI τ3 3 1 0) 4 0 (nI its).toInt64) 3 1 1) 4 1 (nI as).toInt64) 3 1 2) 1 1 0) := (((((Fr.rf.i rfl).lc rfl).i rfl).lc rfl).i rfl).i rfl
      refine yes s l q x its as hs rfl hr1 ex hx hits has _ (F3.tr (G.wk rfl)) (W3.fr G rfl) rfl rfl ?_ ?_
      · simp only [sI_2, sL_2, reduceIte, Nat.reduceEqDiff]
      · simp only [sI_2, sL_2, reduceIte, Nat.reduceEqDiff]
  · simp only [oT, oN, E_H_law, fIsA, fRt, fLen, fLit, fBool]
    refine s_empty ?_
    have en := noship z (sI τ 1 1 0) (Fr.rf.i rfl) rfl
    simp only [oT, oN, E_H_law, fIsA, fRt, fLen, fLit, fBool]
    exact en
theorem law_eq (x : Int32) : -1 - x + 1 - 10000 = -10000 - x := by
  rw [Int32.sub_eq_add_neg, Int32.sub_eq_add_neg, Int32.sub_eq_add_neg, Int32.add_comm (-1) (-x), Int32.add_assoc (-x) (-1) 1, show (-1 : Int32) + 1 = 0 from rfl, Int32.add_zero, Int32.add_comm (-x)]
theorem p_law (t : Nat) (v : Int32) : PrI t m_H_law m_M_law [.int v] := by
  intro ht0 τ h
  obtain ⟨R, C, kd, ht, ns, n, hA, hT, hR⟩ := h
  have ⟨ga, sh, c, ud, ke, ox, tr, wa, ru⟩ := hA
  have hn36 := ga.n36
  have h8 := sh.1
  obtain ⟨o, ee, m, E⟩ := hA.env
  obtain ⟨nn, hi2, hi⟩ := c.2.2.2.2.1
  have hi2 : nn < 2 ^ 29 := by omega
  obtain ⟨hh, hh10, h47⟩ := c.2.2.2.2.2.1
  have row := c.row
  have lm := E.2.2.2.2.1
  have m80 := E.2.2.2.2.2
  obtain ⟨n1, k1, k2, k3, k4⟩ := ru.tie lm m80
  have hn80 := hT.1
  obtain ⟨gg, hg⟩ := hT.bytes
  have fin : ∀ τ', TxI τ' 0 → RoI τ' → RuI τ' → WaI τ' → ∀ (cs : List Nat) (fs : List (Nat × Nat)), Fr cs fs τ τ' → disF cs fs ([5, 6, 7, 8, 71, 72, 52, 73, 9, 10, 75, 46, 47, 48, 49, 50, 51, 98, 99, 100, 74, 63, 95, 96] ++ (84 :: 13 :: pmL)) [(69, 3), (69, 4), (69, 5), (69, 28), (69, 6), (0, 8), (0, 9), (69, 45)] = true → Inv (t + 1) τ' := fun τ' hT' hR' hRu hW' cs fs F hd => by
    have hB : 300 * t ≤ 300 * (t + 1) := by omega
    exact ⟨R, C, kd, ht, ns, 0, ⟨ga.fr F (disF_sub hd rfl), sh.fr F (disF_sub hd rfl), c.fr9 F (disF_sub hd rfl) (by omega) h8, ud.fr F (disF_sub hd rfl) hB h8, ke.fr F (disF_sub hd rfl) (by omega) hB h8, ox.fr F (disF_sub hd rfl), tr.fr F (disF_sub hd rfl), hW', hRu⟩, hT', hR'⟩
  have tx0 : ∀ τ', τ'.1 1 1 = 0 → τ'.1 69 14 = 0 → TxI τ' 0 := fun τ' a b => ⟨by omega, a, b, fun j hj => absurd hj (Nat.not_lt_zero j)⟩
  refine s_Hlaw (d := 190) (m := m) (S := τ.1 80) (W := τ.1 73) ga sh c hi hi2 h47 hh10 E.2.1.2.2.1 E.2.1.1 (fun s hs => (sh.2.2.2 s hs).1) k1 k2 k4 wa hT.2.1 hn80 (fun j hj => ⟨(hg j hj).1, (hg j hj).2.2⟩) (fun z τ1 f1 e11 => ?_) (fun s q hs es hr1 τ1 f1 e11 => ?_) (fun s l q x its as hs es hr1 ex hx hits has τ1 f1 W1 e11 r1 r2 r3 => ?_)
  · refine s_Mlaw (d := 140) (m := m) (ga.fr f1 rfl) (sh.fr f1 rfl) ((f1.u1 69 24 rfl).trans lm) (k3.cg (fun j _ => (f1.c1 80 rfl j).symm)) row (fun j _ => f1.c1 75 rfl j) hi hi2 h47 hh10 ((f1.c1 74 rfl 0).trans E.2.1.2.2.2.1) E.2.1.1 ((f1.u1 69 14 rfl).trans hT.2.2.1) hn80 (fun j hj => ⟨(f1.c1 77 rfl j).trans (hg j hj).2.1, (hg j hj).2.2⟩) (fun _ τ2 f2 e14 => ?_) (fun s q hs es => absurd ⟨by rw [es]; exact nI_pos' (by omega), by rw [es]; exact nI_lt hs (by omega)⟩ z) (fun s l q x its as hs es => absurd ⟨by rw [es]; exact nI_pos' (by omega), by rw [es]; exact nI_lt hs (by omega)⟩ z)
    have F : Fr [81] [(1, 1), (69, 0), (69, 14), (69, 15), (69, 16), (69, 17), (69, 25)] τ τ2 := (f1.wk rfl).tr (f2.wk rfl)
    exact ok rfl (fin τ2 (tx0 τ2 ((f2.u1 1 1 rfl).trans e11) e14) (hR.fr F rfl) (ru.fr F rfl) (wa.fr F rfl) _ _ F rfl)
  · have z : 0 ≤ v ∧ v < nI ns := by subst es; exact ⟨nI_pos' (by omega), nI_lt hs (by omega)⟩
    refine s_Mlaw (d := 140) (m := m) (ga.fr f1 rfl) (sh.fr f1 rfl) ((f1.u1 69 24 rfl).trans lm) (k3.cg (fun j _ => (f1.c1 80 rfl j).symm)) row (fun j _ => f1.c1 75 rfl j) hi hi2 h47 hh10 ((f1.c1 74 rfl 0).trans E.2.1.2.2.2.1) E.2.1.1 ((f1.u1 69 14 rfl).trans hT.2.2.1) hn80 (fun j hj => ⟨(f1.c1 77 rfl j).trans (hg j hj).2.1, (hg j hj).2.2⟩) (fun w => absurd z w) (fun s' q' hs' es' hr2 τ2 f2 e14 => ?_) (fun s' l q' x its as hs' es' hr2 => by rw [hr1] at hr2; cases hr2)
    rw [hr1] at hr2
    cases hr2
    have F : Fr [57, 81] [(56, 1), (1, 1), (1, 2), (1, 3), (69, 0), (69, 14), (69, 15), (69, 16), (69, 17), (69, 25)] τ τ2 := (f1.wk rfl).tr (f2.wk rfl)
    exact ok (law_eq _).symm (fin τ2 (tx0 τ2 ((f2.u1 1 1 rfl).trans e11) e14) (hR.fr F rfl) (ru.fr F rfl) (wa.fr F rfl) _ _ F rfl)
  · have z : 0 ≤ v ∧ v < nI ns := by subst es; exact ⟨nI_pos' (by omega), nI_lt hs (by omega)⟩
    have e73 : ∀ j, τ1.1 73 j = τ.1 73 j := fun j => f1.c1 73 rfl j
    have e80 : τ1.1 80 = τ.1 80 := funext (fun j => f1.c1 80 rfl j)
    refine s_Mlaw (d := 140) (m := m) (ga.fr f1 rfl) (sh.fr f1 rfl) ((f1.u1 69 24 rfl).trans lm) (k3.cg (fun j _ => (f1.c1 80 rfl j).symm)) row (fun j _ => f1.c1 75 rfl j) hi hi2 h47 hh10 ((f1.c1 74 rfl 0).trans E.2.1.2.2.2.1) E.2.1.1 ((f1.u1 69 14 rfl).trans hT.2.2.1) hn80 (fun j hj => ⟨(f1.c1 77 rfl j).trans (hg j hj).2.1, (hg j hj).2.2⟩) (fun w => absurd z w) (fun s' q' hs' es' hr2 => by rw [hr1] at hr2; cases hr2) (fun s' l' q' x' its' as' hs' es' hr2 ex' hx' hits' has' τ2 f2 e14 e24 e80' a1 a2 a3 => ?_)
    rw [hr1] at hr2
    cases hr2
    have hss : s' = s := ((nI_eq (by omega) (by omega)).mp (es.symm.trans es')).symm
    subst hss
    have hxx : x' = x := ((nI_eq (by omega) (by omega)).mp (ex.symm.trans ex')).symm
    subst hxx
    rw [e73] at hits' has'
    rw [e80] at has'
    have h1 := hvP_uq hits' hits
    have h2 := hvP_uq has' has
    subst h1 h2
    have F : Fr [4, 55, 57, 58, 61, 70, 80, 81, 82, 83, 90, 97] [(1, 1), (1, 2), (1, 3), (3, 1), (53, 3), (56, 1), (56, 3), (59, 2), (59, 3), (59, 4), (60, 1), (60, 2), (60, 3), (69, 0), (69, 1), (69, 14), (69, 15), (69, 16), (69, 17), (69, 24), (69, 25)] τ τ2 := (f1.wk rfl).tr (f2.wk rfl)
    exact ok rfl (fin τ2 (tx0 τ2 ((f2.u1 1 1 rfl).trans e11) e14) (RoI.two ((f2.u1 3 1 rfl).trans r1) a1 ((f2.c2 4 rfl 0).trans r2) a2 ((f2.c2 4 rfl 1).trans r3) a3) (ru.cg lm m80 (F.u1 53 1 rfl) (fun j => F.c1 54 rfl j) e24 (fun j hj => (e80' j hj).trans (congrFun e80 j))) (W1.fr f2 rfl) _ _ F rfl)
