/-! PAIRS: pull -/
theorem s_MpullBy {d R C ns o e m s f q i B : Nat} {kd ht : Nat → Nat} {W S r : Nat → Int32} {Q : Qt} {τ : St} (E : EnvI R C kd ht ns o e m W S τ) (row : RowG ns (R * C) B kd r) (hr : ∀ j, j < 50 → τ.1 75 j = r j) (hs : s < ns) (hf : f < R * C) (hq : q < R * C) (hp : r (36 + s) = nI f) (hi : r 46 = nI i) (hi2 : i < 2 ^ 30)
    (hQ : ∀ τ', Fr [82, 83] [] τ τ' → Q (some (.int (pvR ht m S (W s) r i f q))) τ') : Cl (d + 5) m_M_pullBy [.ref 69, .ref 75, .int (nI s), .int (nI q)] τ Q := by
  obtain ⟨⟨g, sh, ru⟩, ⟨o1, e1, f1, f2, f3, f4⟩, wW, sS, lm, m80⟩ := E
  obtain ⟨n', m', j1, j2, j3, j4, j5, j6⟩ := ru
  have hn := g.n36
  have h8 := sh.1
  have em : m' = m := (nI_eq (by omega) (by omega)).mp (j4.symm.trans lm)
  subst em
  have e36 : (36 : Int32) + nI s = nI (36 + s) := nI_add 36 s
  rw [N_M_pullBy]
  simp only [E_M_pullBy, fIsA, fRt, fLen, fLit, fBool, fIx, e36, nI_clamp (show 36 + s < 2 ^ 31 by omega), nI_clamp (show s < 2 ^ 31 by omega), hr (36 + s) (by omega), hr 46 (by omega), hr 47 (by omega), hp, hi, wW]
  refine ⟨vp_in_nI (by omega) (by omega), vp_in_nI (by omega) (by omega), ?_⟩
  have pos : 0 < m' → 0 < n' := fun w => by
    have := fun z => Nat.ne_of_gt w (j5.mp z)
    omega
  refine s_MpullOf (m := m') (S := S) (p := r q) g hf hq (by omega) (hr q (by omega)) (row.2.1 q (by omega)) m80 lm (fun j _ => by rw [sS]) (fun w j hj => by rw [← sS]; exact (j6 (pos w)).1 j hj) (fun w => by rw [← sS]; exact (j6 (pos w)).2.2.1) (fun v τ' b1 b2 fr => ?_)
  simp only [oT, E_M_pullBy, fIsA, fRt, fLen, fLit, fBool]
  have hv : v = vR m' S (aq (W s) (if 0 < nI (ht q) - nI (ht f) then nI (ht q) - nI (ht f) else 0) (if 0 < nI (ht f) - nI (ht q) then nI (ht f) - nI (ht q) else 0) (r q) (r 47)) := by
    unfold vR
    by_cases c : m' = 0
    · rw [if_pos c]; exact b1 c
    · rw [if_neg c, b2 (by omega)]; rfl
  have h2 := hQ τ' fr
  unfold pvR at h2
  rw [← hv] at h2
  exact h2
theorem gl_lt {kd : Nat → Nat} {R C ns : Nat} {r : Nat → Int32} {f h q : Nat} (hf : f < R * C) (hh : h < 4) (e : gl kd R C ns r f h = some q) : q < R * C := by
  unfold gl nk at e
  cases hnb : nb R C f h with
  | none => rw [hnb] at e; cases e
  | some q' =>
    rw [hnb] at e
    have hq := nb_lt hf hh hnb
    have e : (match (if kd q' = 3 then none else some q' : Option Nat) with
      | some g => if kd g = 0 ∧ ¬ occ r ns (nI g) = 0 then none else some g
      | none => none) = some q := e
    by_cases c : kd q' = 3
    · rw [if_pos c] at e; cases e
    · rw [if_neg c] at e
      have e : (if kd q' = 0 ∧ ¬ occ r ns (nI q') = 0 then none else some q') = some q := e
      by_cases c2 : kd q' = 0 ∧ ¬ occ r ns (nI q') = 0
      · rw [if_pos c2] at e; cases e
      · rw [if_neg c2] at e; cases e; exact hq
theorem p_pull (t : Nat) (x y : Int32) : PrI t m_H_pull m_M_pull [.int x, .int y] := by
  intro ht0 τ h
  obtain ⟨R, C, kd, ht, ns, n, hA, hT, hR⟩ := h
  have ⟨a, b, c, d, e, f, g, i, j⟩ := hA
  have hn := b.1
  have hn36 := a.n36
  obtain ⟨o, ee, m, E⟩ := hA.env
  rw [N_H_pull]
  simp only [E_H_pull, fIsA, fRt, fLen, fLit, fBool]
  have fin : ∀ (v : Int32) (τ' : St), Fr [55] [(53, 3)] τ τ' → ∀ τ2, Fr [82, 83] [] (sI τ' 69 0 0) τ2 → (∃ z : Int32, some (Value.int v) = some (.int z) ∧ some (Value.int v) = some (.int z)) ∧ Inv (t + 1) τ2 := fun v τ' f1 τ2 f2 => ok rfl (hA.inv3 hT hR (cs := [55, 82, 83]) (fs := [(53, 3), (69, 0)]) (((f1.wk rfl).i rfl).tr (f2.wk rfl)) rfl)
  by_cases q : (0 ≤ x ∧ x < nI ns) ∧ 0 ≤ y ∧ y < nI 4
  · obtain ⟨s, s1, rfl⟩ := nI_of (Int32.not_lt.mpr q.1.1)
    obtain ⟨hd, h1, rfl⟩ := nI_of (Int32.not_lt.mpr q.2.1)
    have hs : s < ns := (nI_ltI s1 (by omega)).mp q.1.2
    have hh : hd < 4 := (nI_ltI h1 (by omega)).mp q.2.2
    obtain ⟨ff, hf, hk, hp⟩ := (c.1 s hs).2
    obtain ⟨nn, hi, hi2⟩ := c.2.2.2.2.1
    have mk : ∀ (τ' : St), Fr [55] [(53, 3)] τ τ' → ∀ v : Int32, (gl kd R C ns (τ.1 75) ff hd = none → v = -2) → (∀ q, gl kd R C ns (τ.1 75) ff hd = some q → v = pvR ht m (τ.1 80) (τ.1 73 s) (τ.1 75) nn ff q) → Cl 900 m_M_pull [Value.ref 69, Value.int (nI s), Value.int (nI hd)] τ' fun b τ2 => (∃ x, some (Value.int v) = some (Value.int x) ∧ b = some (Value.int x)) ∧ Inv (t + 1) τ2 := fun τ' f1 v v1 v2 => by
      have f2 : Fr [55] [(53, 3), (69, 0)] τ (sI τ' 69 0 0) := (f1.wk rfl).i rfl
      have E2 := E.fr f2 rfl (f2.c1 9 rfl 1)
      rw [N_M_pull]
      simp only [E_M_pull, fIsA, fRt, fLen, fLit, fBool]
      refine s_MisShip E2.1.2.1 (fun k hk ek => ?_) (fun z => absurd q.1 z)
      simp only [oT, E_M_pull, fIsA, fRt, fLen, fLit, fBool]
      refine s_inI 0 rfl (nI 3) rfl (fun _ _ => ?_) (fun z => absurd ⟨q.2.1, nI_le (show hd ≤ 3 by omega) (by omega)⟩ z)
      simp only [oT, E_M_pull, fIsA, fRt, fLen, fLit, fBool]
      have r75 : (sI τ' 69 0 0).1 75 = τ.1 75 := funext (fun j => f2.c1 75 rfl j)
      refine s_MgoalOf E2.1.1 E2.1.2.1 hs hh hf (by rw [r75]; exact hp) ?_
      rw [r75]
      simp only [oT, E_M_pull, fIsA, fRt, fLen, fLit, fBool]
      cases hgl : gl kd R C ns (τ.1 75) ff hd with
      | none =>
        refine ⟨fun z => absurd z (by show ¬ (0 : Int32) ≤ -1; decide), fun _ => ?_⟩
        rw [v1 hgl]
        exact fin (-2) τ' f1 _ Fr.rf
      | some q' =>
        have hq := gl_lt hf hh hgl
        refine ⟨fun _ => ?_, fun z => absurd (nI_pos' (by omega)) z⟩
        rw [show oI (some q') = nI q' from rfl]
        refine s_MpullBy E2 c.row (fun j _ => congrFun r75 j) hs hf hq hp hi2 (by omega) (fun τ3 f3 => ?_)
        simp only [oT, E_M_pull, fIsA, fRt, fLen, fLit, fBool]
        rw [v2 q' hgl]
        exact fin _ τ' f1 _ f3
    refine s_HpullOf E c hs hh hf hp hi2 (by omega) (fun hg => ?_) (fun q' hg τ' f1 => ?_)
    · simp only [oT, E_H_pull, fIsA, fRt, fLen, fLit, fBool]
      exact mk τ Fr.rf (-2) (fun _ => rfl) (fun q' w => by rw [hg] at w; cases w)
    · simp only [oT, E_H_pull, fIsA, fRt, fLen, fLit, fBool]
      exact mk τ' f1 _ (fun w => by rw [hg] at w; cases w) (fun q2 w => by rw [hg] at w; cases w; rfl)
  · have no : Cl 900 m_M_pull [Value.ref 69, Value.int x, Value.int y] τ fun b τ2 => (∃ x, some (Value.int (-1)) = some (Value.int x) ∧ b = some (Value.int x)) ∧ Inv (t + 1) τ2 := by
      have fn := ok rfl (hA.inv3 hT hR (fr690 (v := 0)) rfl) (x := -1)
      rw [N_M_pull]
      simp only [E_M_pull, fIsA, fRt, fLen, fLit, fBool]
      refine s_MisShip (b.fr (fr690 (v := 0)) rfl) (fun k hk ek => ?_) (fun z => ?_)
      · simp only [oT, E_M_pull, fIsA, fRt, fLen, fLit, fBool]
        refine s_inI 0 rfl (nI 3) rfl (fun c1 c2 => absurd ⟨⟨by rw [ek]; exact nI_pos' (by omega), by rw [ek]; exact nI_lt hk (by omega)⟩, c1, Int32.lt_of_le_of_lt c2 (by decide)⟩ q) (fun z => ?_)
        simp only [oT, E_M_pull, fIsA, fRt, fLen, fLit, fBool]
        exact fn
      · simp only [oT, E_M_pull, fIsA, fRt, fLen, fLit, fBool]
        exact fn
    rw [N_H_pullOf]
    simp only [E_H_pullOf, fIsA, fRt, fLen, fLit, fBool]
    refine s_HhasShip b (fun k hk ek => ?_) (fun z => ?_)
    · simp only [oT, E_H_pullOf, E_H_pull, fIsA, fRt, fLen, fLit, fBool]
      refine ⟨fun _ => no, fun z => ⟨fun z4 => absurd ⟨⟨by rw [ek]; exact nI_pos' (by omega), by rw [ek]; exact nI_lt hk (by omega)⟩, Int32.not_lt.mp z, z4⟩ q, fun _ => no⟩⟩
    · simp only [oT, E_H_pullOf, E_H_pull, fIsA, fRt, fLen, fLit, fBool]
      exact no
