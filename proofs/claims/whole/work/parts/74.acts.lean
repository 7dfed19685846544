/-! ACTS of a siege: told, read, done -/
theorem plRow {f ns n B : Nat} {kd : Nat → Nat} {r : Nat → Int32} (hf : f < 36) (row : RowG ns n B kd r) : RowG ns n B kd (plR f r) := by
  obtain ⟨m1, m2, m5, m6, m7, m8⟩ := row
  have hi : ∀ j, 36 ≤ j → plR f r j = r j := fun j hj => by unfold plR; rw [if_neg (by omega)]
  refine ⟨fun s hs => by rw [hi _ (by omega)]; exact m1 s hs, fun q hq => ?_, by rw [hi _ (by omega)]; exact m5, by rw [hi _ (by omega)]; exact m6, by rw [hi _ (by omega)]; exact m7, by rw [hi _ (by omega)]; exact m8⟩
  unfold plR
  split
  · next z =>
    subst z
    rcases m2 q hq with z | z <;> rw [z]
    · exact Or.inr rfl
    · exact Or.inl rfl
  · exact m2 q hq
theorem hgNRow {ns n : Nat} {kd : Nat → Nat} {e : Int32} (h8 : ns ≤ 8) : ∀ (k B : Nat) (r : Nat → Int32), RowG ns n B kd r → RowG ns n (B + k) kd (hgN e k r)
  | 0, B, r, row => row
  | k + 1, B, r, row => by
    rw [hgN, show B + (k + 1) = B + 1 + k by omega]
    exact hgNRow h8 k (B + 1) (hgR e r) (hgRow h8 row)
/-- an act told from place p (which one, and its numbers), and the place behind it; or none, and the place of the fault -/
def acF (g : Nat → Nat) (m p : Nat) : Option (Nat × Nat × Nat) × Nat :=
  if p < m ∧ g p = 100 then
    if isDg g m (p + 1) then
      if p + 2 < m ∧ 48 ≤ g (p + 2) ∧ g (p + 2) ≤ 51 then (some (0, g (p + 1) - 48, g (p + 2) - 48), p + 3) else (none, p + 2)
    else (none, p + 1)
  else if p < m ∧ g p = 112 then
    if isDg g m (p + 1) then
      if isDg g m (p + 2) then (some (1, 10 * (g (p + 1) - 48) + (g (p + 2) - 48), 0), p + 3) else (none, p + 2)
    else (none, p + 1)
  else if p < m ∧ g p = 104 then
    if p + 1 < m ∧ 49 ≤ g (p + 1) ∧ g (p + 1) ≤ 57 then (some (2, g (p + 1) - 48, 0), p + 2) else (none, p + 1)
  else (none, p)
theorem acF_inv {g : Nat → Nat} {m p q : Nat} {a : Nat × Nat × Nat} (h : acF g m p = (some a, q)) : p < m ∧ ((g p = 100 ∧ isDg g m (p + 1) ∧ (p + 2 < m ∧ 48 ≤ g (p + 2) ∧ g (p + 2) ≤ 51) ∧ a = (0, g (p + 1) - 48, g (p + 2) - 48) ∧ q = p + 3) ∨ (g p = 112 ∧ isDg g m (p + 1) ∧ isDg g m (p + 2) ∧ a = (1, 10 * (g (p + 1) - 48) + (g (p + 2) - 48), 0) ∧ q = p + 3) ∨ (g p = 104 ∧ (p + 1 < m ∧ 49 ≤ g (p + 1) ∧ g (p + 1) ≤ 57) ∧ a = (2, g (p + 1) - 48, 0) ∧ q = p + 2)) := by
  unfold acF at h
  split at h
  · next c =>
    split at h
    · next c1 =>
      split at h
      · next c2 => cases h; exact ⟨c.1, Or.inl ⟨c.2, c1, c2, rfl, rfl⟩⟩
      · cases h
    · cases h
  · split at h
    · next c =>
      split at h
      · next c1 =>
        split at h
        · next c2 => cases h; exact ⟨c.1, Or.inr (Or.inl ⟨c.2, c1, c2, rfl, rfl⟩)⟩
        · cases h
      · cases h
    · split at h
      · next c =>
        split at h
        · next c1 => cases h; exact ⟨c.1, Or.inr (Or.inr ⟨c.2, c1, rfl, rfl⟩)⟩
        · cases h
      · cases h
theorem acF_q {g : Nat → Nat} {m p q : Nat} {x : Option (Nat × Nat × Nat)} (hp : p ≤ m) (h : acF g m p = (x, q)) : p ≤ q ∧ q ≤ m ∧ (∀ a, x = some a → p + 2 ≤ q) := by
  unfold acF at h
  split at h
  · next c =>
    split at h
    · next c1 =>
      have := c1.1
      split at h
      · next c2 => have := c2.1; cases h; exact ⟨by omega, by omega, fun _ _ => by omega⟩
      · cases h; exact ⟨by omega, by omega, fun _ w => by cases w⟩
    · cases h; exact ⟨by omega, by omega, fun _ w => by cases w⟩
  · split at h
    · next c =>
      split at h
      · next c1 =>
        have := c1.1
        split at h
        · next c2 => have := c2.1; cases h; exact ⟨by omega, by omega, fun _ _ => by omega⟩
        · cases h; exact ⟨by omega, by omega, fun _ w => by cases w⟩
      · cases h; exact ⟨by omega, by omega, fun _ w => by cases w⟩
    · split at h
      · next c =>
        split at h
        · next c1 => have := c1.1; cases h; exact ⟨by omega, by omega, fun _ _ => by omega⟩
        · cases h; exact ⟨by omega, by omega, fun _ w => by cases w⟩
      · cases h; exact ⟨by omega, by omega, fun _ w => by cases w⟩
theorem nIm {k : Nat} (h : k < 2 ^ 31) : ¬ nI k = -1 := fun z => absurd (show (0 : Int32) ≤ -1 by rw [← z]; exact nI_pos' h) (by decide)
theorem TT.fr {cs : List Nat} {fs : List (Nat × Nat)} {τ τ' : St} {g : Nat → Nat} {n p m q : Nat} (h : TT τ g n p m) (hf : Fr cs fs τ τ') (hd : disF cs fs [2] [(1, 1), (1, 3)] = true) (h15 : τ'.1 1 2 = nI q) (hq : q ≤ 200) : TT τ' g n q m := by
  obtain ⟨a1, a2, a3, a4, a5, a6, a7⟩ := h
  exact ⟨by rw [(hf.E hd 1 1 rfl).1]; exact a1, h15, by rw [(hf.E hd 1 3 rfl).1]; exact a3, hq, a5, a6, fun j hj => by rw [(hf.D hd 2 j rfl).1]; exact a7 j hj⟩
theorem MR.fr {cs : List Nat} {fs : List (Nat × Nat)} {τ τ' : St} {g : Nat → Nat} {n p m q : Nat} (h : MR τ g n p m) (hf : Fr cs fs τ τ') (hd : disF cs fs [77] [(69, 16)] = true) (h15 : τ'.1 69 15 = nI q) (hq : q ≤ 200) : MR τ' g n q m := by
  obtain ⟨a1, a2, a3, a4, a5, a6⟩ := h
  exact ⟨h15, by rw [(hf.E hd 69 16 rfl).1]; exact a2, hq, a4, a5, fun j hj => by rw [(hf.D hd 77 j rfl).1]; exact a6 j hj⟩
theorem a_plankG {R C ns o e m : Nat} {kd ht : Nat → Nat} {W S : Nat → Int32} {r : Nat → Int32} {B0 : Nat} (row : RowG ns (R * C) B0 kd r) (hn36 : R * C ≤ 36) (h8 : ns ≤ 8) (v : Int32) : ActG 75 B0 m_H_turnPlanks m_M_planksAt [.int v] [.int v] R C kd ht ns o e m W S r := by
  have two : ∀ x : Int32, x < 0 → (¬ (0 ≤ v ∧ v < nI (R * C)) ∧ x = -1 ∨ (∃ f, f < R * C ∧ v = nI f ∧ kd f ≠ 0 ∧ x = -2)) → ActG 75 B0 m_H_turnPlanks m_M_planksAt [.int v] [.int v] R C kd ht ns o e m W S r := fun x hx hc => by
    refine ⟨x, r, fun w => absurd hx w, fun D B τ Q _ E mo q1 q2 => ?_, fun D τ Q E hr q1 q2 => ?_⟩
    · have g := E.1.1
      have fin := q1 hx τ Fr.rf
      refine s_turnPlanks (d := D + 57) g mo (fun z => ?_) (fun f hf ev hk => ?_) (fun f hf ev hk τ' _ _ _ => ?_)
      · rcases hc with ⟨_, rfl⟩ | ⟨f', f1, f2, f3, f4⟩
        · exact fin
        · exact absurd ⟨by rw [f2]; exact nI_pos' (by omega), by rw [f2]; exact nI_lt f1 (by omega)⟩ z
      · rcases hc with ⟨z, rfl⟩ | ⟨f', f1, f2, f3, rfl⟩
        · exact absurd ⟨by rw [ev]; exact nI_pos' (by omega), by rw [ev]; exact nI_lt hf (by omega)⟩ z
        · exact fin
      · exfalso
        rcases hc with ⟨z, rfl⟩ | ⟨f', f1, f2, f3, rfl⟩
        · exact z ⟨by rw [ev]; exact nI_pos' (by omega), by rw [ev]; exact nI_lt hf (by omega)⟩
        · have : f = f' := (nI_eq (by omega) (by omega)).mp (ev.symm.trans f2)
          subst this
          exact f3 hk
    · have g := E.1.1
      have fin := q1 hx τ Fr.rf
      rw [N_M_planksAt]
      simp only [E_M_planksAt, fIsA, fRt, fLen, fLit, fBool]
      refine s_MisField g (fun f hf ev => ?_) (fun z => ?_)
      · subst ev
        simp only [oT, E_M_planksAt, fIsA, fRt, fLen, fLit, fBool, nI_clamp (show f < 2 ^ 31 by omega), (g.2.2.1 f hf).2.1]
        have k3 := (g.2.2.1 f hf).1.1
        rcases hc with ⟨z, rfl⟩ | ⟨f', f1, f2, f3, rfl⟩
        · exact absurd ⟨nI_pos' (by omega), nI_lt hf (by omega)⟩ z
        · obtain rfl : f = f' := (nI_eq (by omega) (by omega)).mp f2
          exact ⟨vp_in_nI (by omega) (by omega), fun c => absurd ((nI_eq (b := 0) (by omega) (by omega)).mp c) f3, fun _ => fin⟩
      · simp only [oT, E_M_planksAt, fIsA, fRt, fLen, fLit, fBool]
        rcases hc with ⟨_, rfl⟩ | ⟨f', f1, f2, f3, f4⟩
        · exact fin
        · exact absurd ⟨by rw [f2]; exact nI_pos' (by omega), by rw [f2]; exact nI_lt f1 (by omega)⟩ z
  by_cases c : 0 ≤ v ∧ v < nI (R * C)
  · obtain ⟨f, hf0, rfl⟩ := nI_of (Int32.not_lt.mpr c.1)
    have hf : f < R * C := (nI_ltI hf0 (by omega)).mp c.2
    by_cases hk : kd f = 0
    · have hp : ∀ q, q < 36 → plR f r q = 0 ∨ plR f r q = 1 := fun q hq => by
        unfold plR
        split
        · next z => subst z; rcases row.2.1 q hq with z | z <;> rw [z]
                    · exact Or.inr rfl
                    · exact Or.inl rfl
        · exact row.2.1 q hq
      have hle := cR_le hp 36 0 0 (by omega)
      refine ⟨nI (cR (plR f r) 36 0 0), plR f r, fun _ => (plRow (by omega) row).more (by omega), fun D B τ Q _ E mo q1 q2 => ?_, fun D τ Q E hr q1 q2 => ?_⟩
      · refine s_turnPlanks (d := D + 57) E.1.1 mo (fun z => absurd c z) (fun f' hf' ev hk' => ?_) (fun f' hf' ev hk' τ' g1 g2 g3 => ?_)
        · obtain rfl : f = f' := (nI_eq (by omega) (by omega)).mp ev
          exact absurd hk hk'
        · obtain rfl : f = f' := (nI_eq (by omega) (by omega)).mp ev
          rw [sb_cR g3.2.2.1 36 0 0 (by omega)]
          exact q2 (nI_pos (by omega)) τ' (g1.wk rfl) g2 (g3.more (by omega) h8)
      · have g := E.1.1
        rw [N_M_planksAt]
        simp only [E_M_planksAt, fIsA, fRt, fLen, fLit, fBool]
        refine s_MisField g (fun f' hf' ev => ?_) (fun z => absurd c z)
        obtain rfl : f = f' := (nI_eq (by omega) (by omega)).mp ev
        have k3 := (g.2.2.1 f hf).1.1
        simp only [oT, E_M_planksAt, fIsA, fRt, fLen, fLit, fBool, nI_clamp (show f < 2 ^ 31 by omega), (g.2.2.1 f hf).2.1, hr f (by omega)]
        refine ⟨vp_in_nI (by omega) (by omega), fun _ => ⟨vp_in_nI (by omega) (by omega), vp_in_nI (by omega) (by omega), ?_⟩, fun z => absurd (by rw [hk]; rfl) z⟩
        have e75 : ∀ j, j < 50 → (sI τ 75 f (1 - r f)).1 75 j = plR f r j := fun j hj => by
          unfold plR
          simp only [sI_1, reduceIte]
          by_cases q : j = f
          · rw [if_pos q, if_pos q]
          · rw [if_neg q, if_neg q]; exact hr j hj
        refine s_MplankC (r := plR f r) (fun q hq => e75 q (by omega)) hp ?_
        simp only [oT, E_M_planksAt, fIsA, fRt, fLen, fLit, fBool]
        exact q2 (nI_pos (by omega)) _ (Fr.rf.ic rfl) e75
    · exact two (-2) (by decide) (Or.inr ⟨f, hf, rfl, hk, rfl⟩)
  · exact two (-1) (by decide) (Or.inl ⟨c, rfl⟩)
def swD : List (Int32 × Nat) := [(0, 32), (1, 61)]
/-- hours of an act: the reference -/
theorem does_loop {d k z : Nat} {e : Int32} {Q : Qt} {τ0 : St} (hk : k ≤ 99) (hz : z < 60) : ∀ (u i : Nat), i + u = k → ∀ (r : Nat → Int32) (τ : St), τ.1 74 1 = e → τ.1 86 z = nI k → Fr [75] [] τ0 τ → (∀ j, j < 50 → τ.1 75 j = r j) →
    (∀ τ', Fr [75] [] τ0 τ' → (∀ j, j < 50 → τ'.1 75 j = hgN e u r j) → Q (some (.int 1)) τ') → Rs M_M_does (d + 2) Q 82 [some (.ref 69), some (.int (nI z)), some (.int (nI i))] [] τ
  | 0, i, hi, r, τ, he, ho, hf, hr, hQ => by
    obtain rfl : i = k := by omega
    rw [Rs_eq]
    simp only [E_M_does, fIsA, fRt, fLen, fLit, fBool, nI_clamp (show z < 2 ^ 31 by omega), ho]
    exact ⟨vp_in_nI (by omega) (by omega), fun _ => hQ τ hf hr, fun q => absurd (Int32.le_refl _) q⟩
  | u + 1, i, hi, r, τ, he, ho, hf, hr, hQ => by
    rw [Rs_eq]
    simp only [E_M_does, fIsA, fRt, fLen, fLit, fBool, nI_clamp (show z < 2 ^ 31 by omega), ho]
    refine ⟨vp_in_nI (by omega) (by omega), fun q => absurd q (nI_ge (by omega) (by omega)), fun _ => ?_⟩
    refine s_hourGoes hr he (fun τ1 f1 r1 => ?_)
    simp only [oN, E_M_does, fIsA, fRt, fLen, fLit, fBool, nI_1]
    exact does_loop (e := e) hk hz u (i + 1) (by omega) (hgR e r) τ1 (by rw [f1.c1 74 rfl]; exact he) (by rw [f1.c1 86 rfl]; exact ho) (hf.tr f1) r1 hQ
/-- an act, done by both -/
theorem act_both {R C ns o e m : Nat} {kd ht : Nat → Nat} {W S : Nat → Int32} {r : Nat → Int32} {B0 : Nat} (row : RowG ns (R * C) B0 kd r) (hB0 : B0 < 2 ^ 26) (ho9 : o ≤ 999) (hn36 : R * C ≤ 36) (h8 : ns ≤ 8) (a : Nat × Nat × Nat) (ha9 : a.1 = 2 → a.2.1 ≤ 9) : ∃ (b : Bool) (r' : Nat → Int32), RowG ns (R * C) (B0 + 9) kd r' ∧
    (∀ (D B : Nat) (τ : St) (Q : Qt) (g : Nat → Nat) (n p lm q : Nat), B < 2 ^ 26 → EnvI R C kd ht ns o e m W S τ → MoI τ 9 ns (R * C) B kd r → TT τ g n p lm → acF g lm p = (some a, q) → (∀ (x : Int32) (τ' : St), (x < 0 ↔ b = false) → Fr [9, 10, 55] [(53, 3), (1, 2)] τ τ' → τ'.1 9 1 = τ.1 9 1 → MoI τ' 9 ns (R * C) (B + 9) kd r' → τ'.1 1 2 = nI q → Q (some (.int x)) τ') → Cl (D + 62) m_H_doAct [.ref 0] τ Q) ∧
    (∀ (D : Nat) (τ : St) (Q : Qt) (k : Nat), k < 60 → a.1 ≤ 2 → EnvI R C kd ht ns o e m W S τ → (∀ j, j < 50 → τ.1 75 j = r j) → τ.1 85 k = nI a.1 → τ.1 86 k = nI a.2.1 → (a.1 = 0 → τ.1 87 k = nI a.2.2) → (∀ τ', Fr [75, 82, 83] [] τ τ' → (∀ j, j < 50 → τ'.1 75 j = r' j) → Q (some (.int (if b = true then 1 else 0))) τ') → Cl (D + 62) m_M_does [.ref 69, .int (nI k)] τ Q) := by
  have same : ∀ {τ τ' : St} {B : Nat}, MoI τ 9 ns (R * C) B kd r → Fr [55] [(53, 3)] τ τ' → MoI τ' 9 ns (R * C) (B + 9) kd r := fun mo f => mo.same (fun j => f.c1 9 rfl j) (fun j => f.c2 9 rfl j) (fun j => f.c1 10 rfl j) (fun _ _ => rfl) (by omega) h8
  rcases Nat.lt_or_ge a.1 1 with k0 | k0
  · have k0 : a.1 = 0 := by omega
    obtain ⟨x, r1, hw, hc, hm⟩ := a_drag (e := e) (m := m) (o := o) (ht := ht) (W := W) (S := S) row (by omega) ho9 hn36 h8 (nI a.2.1) (nI a.2.2)
    have fin : ∃ (b : Bool) (r' : Nat → Int32), RowG ns (R * C) (B0 + 9) kd r' ∧ (x < 0 ↔ b = false) ∧ (x < 0 → r' = r) ∧ (¬ x < 0 → r' = r1) := by
      by_cases c : x < 0
      · exact ⟨false, r, row.more (by omega), ⟨fun _ => rfl, fun _ => c⟩, fun _ => rfl, fun w => absurd c w⟩
      · exact ⟨true, r1, hw c, ⟨fun w => absurd w c, fun w => by cases w⟩, fun w => absurd w c, fun _ => rfl⟩
    obtain ⟨b, r', rw', hb, e1, e2⟩ := fin
    refine ⟨b, r', rw', fun D B τ Q g n p lm q hB E mo T hac q1 => ?_, fun D τ Q k hk _ E hr h85 h86 h87 q1 => ?_⟩
    · obtain ⟨hp, ⟨g1, g2, g3, rfl, rfl⟩ | ⟨g1, g2, g3, rfl, rfl⟩ | ⟨g1, g2, rfl, rfl⟩⟩ := acF_inv hac
      · have hlm : lm ≤ 80 := by have := T.2.2.2.2; omega
        rw [N_H_doAct]
        simp only [E_H_doAct, fIsA, fRt, fLen, fLit, fBool]
        refine s_takeSign (c := 100) T (by omega) (fun _ _ => ?_) (fun w => absurd ⟨hp, g1⟩ w)
        simp only [oT, E_H_doAct, fIsA, fRt, fLen, fLit, fBool]
        refine s_dig (T.go (q := p + 1) (by omega)) (fun _ => ?_) (fun w => absurd g2 w)
        simp only [oT, E_H_doAct, fIsA, fRt, fLen, fLit, fBool, sI_sI]
        refine s_dig (T.go (q := p + 2) (by omega)) (fun _ => ?_) (fun w => absurd ⟨g3.1, g3.2.1, by omega⟩ w)
        simp only [oT, E_H_doAct, fIsA, fRt, fLen, fLit, fBool, sI_sI]
        have f0 : Fr [] [(1, 2)] τ (sI τ 1 2 (nI (p + 3))) := Fr.rf.i rfl
        have E0 := E.fr f0 rfl rfl
        have mo0 : MoI (sI τ 1 2 (nI (p + 3))) 9 ns (R * C) B kd r := mo.same (fun _ => rfl) (fun _ => rfl) (fun _ => rfl) (fun _ _ => rfl) (Nat.le_refl _) h8
        refine hc (D + 1) B _ _ (by omega) E0 mo0 (fun c τ' f => ?_) (fun c τ' f s mo' => ?_)
        · simp only [oT, E_H_doAct, fIsA, fRt, fLen, fLit, fBool]
          exact q1 x τ' hb ((f0.wk rfl).tr (f.wk rfl)) (f.c1 9 rfl 1) (by rw [e1 c]; exact same mo0 f) (f.u1 1 2 rfl)
        · simp only [oT, E_H_doAct, fIsA, fRt, fLen, fLit, fBool]
          exact q1 x τ' hb ((f0.wk rfl).tr (f.wk rfl)) s (by rw [e2 c]; exact mo') (f.u1 1 2 rfl)
      · simp at k0
      · simp at k0
    · rw [N_M_does]
      simp only [E_M_does, fIsA, fRt, fLen, fLit, fBool, nI_clamp (show k < 2 ^ 31 by omega), h85, k0]
      refine ⟨vp_in_nI (by omega) (by omega), fun q hq hx => ?_, fun z => absurd rfl (z (0, 32) (by decide))⟩
      have hp : q.2 = 32 := (by decide : ∀ q ∈ swD, (0 : Int32) = q.1 → q.2 = 32) q hq hx
      rw [hp]
      simp only [E_M_does, fIsA, fRt, fLen, fLit, fBool, nI_clamp (show k < 2 ^ 31 by omega), h86, h87 k0]
      refine ⟨vp_in_nI (by omega) (by omega), vp_in_nI (by omega) (by omega), hm (D + 1) τ _ E hr (fun c τ' f => ?_) (fun c τ' f r2 => ?_)⟩
      · have fn := q1 τ' (f.wk rfl) (fun j hj => by rw [f.c1 75 rfl, e1 c]; exact hr j hj)
        rw [hb.mp c] at fn
        simp only [oT, E_M_does, fIsA, fRt, fLen, fLit, fBool]
        exact ⟨fun _ => fn, fun w => absurd c w⟩
      · have fn := q1 τ' f (by rw [e2 c]; exact r2)
        have bt' : b = true := by
          cases b with
          | true => rfl
          | false => exact absurd (hb.mpr rfl) c
        rw [bt'] at fn
        simp only [oT, E_M_does, fIsA, fRt, fLen, fLit, fBool]
        exact ⟨fun w => absurd w c, fun _ => fn⟩
  · rcases Nat.lt_or_ge a.1 2 with k1 | k1
    · have k0 : a.1 = 1 := by omega
      obtain ⟨x, r1, hw, hc, hm⟩ := a_plankG (e := e) (m := m) (o := o) (ht := ht) (W := W) (S := S) row hn36 h8 (nI a.2.1)
      have fin : ∃ (b : Bool) (r' : Nat → Int32), RowG ns (R * C) (B0 + 9) kd r' ∧ (x < 0 ↔ b = false) ∧ (x < 0 → r' = r) ∧ (¬ x < 0 → r' = r1) := by
        by_cases c : x < 0
        · exact ⟨false, r, row.more (by omega), ⟨fun _ => rfl, fun _ => c⟩, fun _ => rfl, fun w => absurd c w⟩
        · exact ⟨true, r1, hw c, ⟨fun w => absurd w c, fun w => by cases w⟩, fun w => absurd w c, fun _ => rfl⟩
      obtain ⟨b, r', rw', hb, e1, e2⟩ := fin
      refine ⟨b, r', rw', fun D B τ Q g n p lm q hB E mo T hac q1 => ?_, fun D τ Q k hk _ E hr h85 h86 h87 q1 => ?_⟩
      · obtain ⟨hp, ⟨g1, g2, g3, rfl, rfl⟩ | ⟨g1, g2, g3, rfl, rfl⟩ | ⟨g1, g2, rfl, rfl⟩⟩ := acF_inv hac
        · simp at k0
        · have hlm : lm ≤ 80 := by have := T.2.2.2.2; omega
          rw [N_H_doAct]
          simp only [E_H_doAct, fIsA, fRt, fLen, fLit, fBool]
          refine s_takeSign (c := 100) T (by omega) (fun _ w => absurd (g1.symm.trans w) (by decide)) (fun _ => ?_)
          simp only [oT, E_H_doAct, fIsA, fRt, fLen, fLit, fBool]
          refine s_takeSign (c := 112) T (by omega) (fun _ _ => ?_) (fun w => absurd ⟨hp, g1⟩ w)
          simp only [oT, E_H_doAct, fIsA, fRt, fLen, fLit, fBool]
          refine s_Htwo (T.go (q := p + 1) (by omega)) (fun _ _ => ?_) (fun _ w => absurd g3 w) (fun w => absurd g2 w)
          simp only [oT, E_H_doAct, fIsA, fRt, fLen, fLit, fBool, sI_sI]
          have f0 : Fr [] [(1, 2)] τ (sI τ 1 2 (nI (p + 3))) := Fr.rf.i rfl
          have E0 := E.fr f0 rfl rfl
          have mo0 : MoI (sI τ 1 2 (nI (p + 3))) 9 ns (R * C) B kd r := mo.same (fun _ => rfl) (fun _ => rfl) (fun _ => rfl) (fun _ _ => rfl) (Nat.le_refl _) h8
          refine hc (D + 1) B _ _ (by omega) E0 mo0 (fun c τ' f => ?_) (fun c τ' f s mo' => ?_)
          · simp only [oT, E_H_doAct, fIsA, fRt, fLen, fLit, fBool]
            exact q1 x τ' hb ((f0.wk rfl).tr (f.wk rfl)) (f.c1 9 rfl 1) (by rw [e1 c]; exact same mo0 f) (f.u1 1 2 rfl)
          · simp only [oT, E_H_doAct, fIsA, fRt, fLen, fLit, fBool]
            exact q1 x τ' hb ((f0.wk rfl).tr (f.wk rfl)) s (by rw [e2 c]; exact mo') (f.u1 1 2 rfl)
        · simp at k0
      · rw [N_M_does]
        simp only [E_M_does, fIsA, fRt, fLen, fLit, fBool, nI_clamp (show k < 2 ^ 31 by omega), h85, k0]
        refine ⟨vp_in_nI (by omega) (by omega), fun q hq hx => ?_, fun z => absurd rfl (z (1, 61) (by decide))⟩
        have hp : q.2 = 61 := (by decide : ∀ q ∈ swD, (1 : Int32) = q.1 → q.2 = 61) q hq hx
        rw [hp]
        simp only [E_M_does, fIsA, fRt, fLen, fLit, fBool, nI_clamp (show k < 2 ^ 31 by omega), h86]
        refine ⟨vp_in_nI (by omega) (by omega), hm (D + 1) τ _ E hr (fun c τ' f => ?_) (fun c τ' f r2 => ?_)⟩
        · have fn := q1 τ' (f.wk rfl) (fun j hj => by rw [f.c1 75 rfl, e1 c]; exact hr j hj)
          rw [hb.mp c] at fn
          simp only [oT, E_M_does, fIsA, fRt, fLen, fLit, fBool]
          exact ⟨fun _ => fn, fun w => absurd c w⟩
        · have fn := q1 τ' f (by rw [e2 c]; exact r2)
          have bt' : b = true := by
            cases b with
            | true => rfl
            | false => exact absurd (hb.mpr rfl) c
          rw [bt'] at fn
          simp only [oT, E_M_does, fIsA, fRt, fLen, fLit, fBool]
          exact ⟨fun w => absurd w c, fun _ => fn⟩
    · by_cases k2 : a.1 = 2
      · have ha := ha9 k2
        refine ⟨true, hgN (nI e) a.2.1 r, (hgNRow h8 a.2.1 B0 r row).more (by omega), fun D B τ Q g n p lm q hB E mo T hac q1 => ?_, fun D τ Q k hk _ E hr h85 h86 h87 q1 => ?_⟩
        · obtain ⟨hp, ⟨g1, g2, g3, rfl, rfl⟩ | ⟨g1, g2, g3, rfl, rfl⟩ | ⟨g1, g2, rfl, rfl⟩⟩ := acF_inv hac
          · simp at k2
          · simp at k2
          · have hlm : lm ≤ 80 := by have := T.2.2.2.2; omega
            rw [N_H_doAct]
            simp only [E_H_doAct, fIsA, fRt, fLen, fLit, fBool]
            refine s_takeSign (c := 100) T (by omega) (fun _ w => absurd (g1.symm.trans w) (by decide)) (fun _ => ?_)
            simp only [oT, E_H_doAct, fIsA, fRt, fLen, fLit, fBool]
            refine s_takeSign (c := 112) T (by omega) (fun _ w => absurd (g1.symm.trans w) (by decide)) (fun _ => ?_)
            simp only [oT, E_H_doAct, fIsA, fRt, fLen, fLit, fBool]
            refine s_takeSign (c := 104) T (by omega) (fun _ _ => ?_) (fun w => absurd ⟨hp, g1⟩ w)
            simp only [oT, E_H_doAct, fIsA, fRt, fLen, fLit, fBool]
            refine s_dig (T.go (q := p + 1) (by omega)) (fun _ => ?_) (fun w => absurd ⟨g2.1, by omega, g2.2.2⟩ w)
            simp only [oT, E_H_doAct, fIsA, fRt, fLen, fLit, fBool, sI_sI]
            have f0 : Fr [] [(1, 2)] τ (sI τ 1 2 (nI (p + 2))) := Fr.rf.i rfl
            have mo0 : MoI (sI τ 1 2 (nI (p + 2))) 9 ns (R * C) B kd r := mo.same (fun _ => rfl) (fun _ => rfl) (fun _ => rfl) (fun _ _ => rfl) (Nat.le_refl _) h8
            rw [N_H_letPass]
            simp only [E_H_letPass, fIsA, fRt, fLen, fLit, fBool]
            have g3 : 1 ≤ g (p + 1) - 48 ∧ g (p + 1) - 48 ≤ 9 := by omega
            refine ⟨fun w => absurd w (nI_nlt (b := 1) (by omega) (by omega)), fun _ => ⟨fun _ => ?_, fun w => absurd (nI_le (b := 9) g3.2 (by omega)) w⟩⟩
            refine s_letPass (e := nI e) (mx := 9) h8 (by omega) (g (p + 1) - 48) 0 (by omega) r B _ E.2.1.2.2.2.2.1 Fr.rf rfl mo0 (fun τ2 f2 s2 mo2 => ?_)
            have rw2 := mo2.row
            obtain ⟨i', i1, i2⟩ := rw2.2.2.1
            obtain ⟨h', h1, h2⟩ := rw2.2.2.2.1
            generalize hrr : hgN (nI e) (g (p + 1) - 48) r = rr at mo2 i2 h2 q1
            have ea : (10 : Int32) * rr 46 + rr 47 = nI (10 * i' + h') := by rw [i2, h2, show (10 : Int32) * nI i' = nI (10 * i') from pk_mul 10 i']; exact nI_add _ _
            rw [ea]
            simp only [oT, E_H_doAct, fIsA, fRt, fLen, fLit, fBool]
            exact q1 _ τ2 ⟨fun w => absurd w (nI_pos (by omega)), fun w => by cases w⟩ ((f0.wk rfl).tr (f2.wk rfl)) s2 (mo2.more (by omega) h8) (f2.u1 1 2 rfl)
        · rw [N_M_does]
          simp only [E_M_does, fIsA, fRt, fLen, fLit, fBool, nI_clamp (show k < 2 ^ 31 by omega), h85, k2]
          refine ⟨vp_in_nI (by omega) (by omega), fun q hq hx => absurd hx ((by decide : ∀ q ∈ swD, ¬ nI 2 = q.1) q hq), fun _ => ?_⟩
          refine does_loop (e := nI e) (k := a.2.1) (by omega) hk a.2.1 0 (by omega) r τ E.2.1.2.2.2.2.2 h86 Fr.rf hr (fun τ' f r2 => q1 τ' (f.wk rfl) r2)
      · refine ⟨true, r, row.more (by omega), fun D B τ Q g n p lm q hB E mo T hac q1 => ?_, fun D τ Q k hk k3 E hr h85 h86 h87 q1 => by omega⟩
        obtain ⟨hp, ⟨g1, g2, g3, rfl, rfl⟩ | ⟨g1, g2, g3, rfl, rfl⟩ | ⟨g1, g2, rfl, rfl⟩⟩ := acF_inv hac
        · simp at k0
        · simp at k1
        · exact absurd rfl k2
