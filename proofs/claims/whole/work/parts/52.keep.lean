/-! PAIRS: keep, again -/
theorem s_Mkeep_loop {d i : Nat} {Q : Qt} {τ0 : St} (hi : i < 3) (hQ : ∀ τ', Fr [100] [] τ0 τ' → (∀ k, k < 50 → τ'.1 100 (50 * i + k) = τ0.1 75 k) → (∀ k, k < 50 * i ∨ 50 * i + 50 ≤ k → τ'.1 100 k = τ0.1 100 k) → Q (some (.int 1)) τ') : ∀ (m j : Nat), j + m = 50 → ∀ τ : St, Fr [100] [] τ0 τ → (∀ k, k < j → τ.1 100 (50 * i + k) = τ0.1 75 k) → (∀ k, k < 50 * i ∨ 50 * i + 50 ≤ k → τ.1 100 k = τ0.1 100 k) → Rs M_M_keep d Q 38 [some (.ref 69), some (.int (nI i)), some (.int (nI j))] [] τ
  | 0, j, hj, τ, hf, hd, ho => by
    obtain rfl : j = 50 := by omega
    rw [Rs_eq]
    simp only [E_M_keep, fIsA, fRt, fLen, fLit, fBool]
    exact ⟨fun _ => hQ τ hf hd ho, fun q => absurd (Int32.le_refl _) q⟩
  | m + 1, j, hj, τ, hf, hd, ho => by
    rw [Rs_eq]
    have e : (50 : Int32) * nI i + nI j = nI (50 * i + j) := by rw [show (50 : Int32) * nI i = nI (50 * i) from pk_mul 50 i]; exact nI_add _ _
    simp only [E_M_keep, fIsA, fRt, fLen, fLit, fBool, e, nI_1]
    refine ⟨fun q => absurd q (nI_ge (b := 50) (by omega) (by omega)), fun _ => ⟨vp_in_nI (by omega) (by omega), vp_in_nI (by omega) (by omega), ?_⟩⟩
    rw [nI_clamp (by omega), nI_clamp (by omega)]
    refine s_Mkeep_loop hi hQ m (j + 1) (by omega) _ (hf.ic rfl) (fun k hk => ?_) (fun k hk => ?_)
    · simp only [sI_1, if_true]
      by_cases c : k = j
      · subst c; rw [if_pos rfl]; exact hf.c1 75 rfl _
      · rw [if_neg (by omega)]; exact hd k (by omega)
    · simp only [sI_1, if_true]
      rw [if_neg (by omega)]; exact ho k hk
theorem s_Magain_loop {d i : Nat} {Q : Qt} {τ0 : St} (hi : i < 3) (hQ : ∀ τ', Fr [75] [(69, 28)] τ0 τ' → τ'.1 69 28 = 0 → (∀ k, k < 50 → τ'.1 75 k = τ0.1 100 (50 * i + k)) → Q (some (.int 1)) τ') : ∀ (m j : Nat), j + m = 50 → ∀ τ : St, Fr [75] [] τ0 τ → (∀ k, k < j → τ.1 75 k = τ0.1 100 (50 * i + k)) → Rs M_M_again d Q 43 [some (.ref 69), some (.int (nI i)), some (.int (nI j))] [] τ
  | 0, j, hj, τ, hf, hd => by
    obtain rfl : j = 50 := by omega
    rw [Rs_eq]
    simp only [E_M_again, fIsA, fRt, fLen, fLit, fBool]
    refine ⟨fun _ => hQ _ ((hf.wk rfl).i rfl) rfl (fun k hk => ?_), fun q => absurd (Int32.le_refl _) q⟩
    simp only [sI_1]
    rw [if_neg (by omega)]; exact hd k hk
  | m + 1, j, hj, τ, hf, hd => by
    rw [Rs_eq]
    have e : (50 : Int32) * nI i + nI j = nI (50 * i + j) := by rw [show (50 : Int32) * nI i = nI (50 * i) from pk_mul 50 i]; exact nI_add _ _
    simp only [E_M_again, fIsA, fRt, fLen, fLit, fBool, e, nI_1]
    refine ⟨fun q => absurd q (nI_ge (b := 50) (by omega) (by omega)), fun _ => ⟨vp_in_nI (by omega) (by omega), vp_in_nI (by omega) (by omega), ?_⟩⟩
    rw [nI_clamp (by omega), nI_clamp (by omega)]
    refine s_Magain_loop hi hQ m (j + 1) (by omega) _ (hf.ic rfl) (fun k hk => ?_)
    simp only [sI_1, if_true]
    by_cases c : k = j
    · subst c; rw [if_pos rfl]; exact hf.c1 100 rfl _
    · rw [if_neg c]; exact hd k (by omega)
theorem ke_in : ∀ i, i < 3 → 46 + 2 * i ∈ mset := by decide
theorem MoE.fr {a b : Nat} {τ0 τ τ' : St} (h : MoE a b τ0 τ) (h1 : ∀ j, τ'.1 a j = τ.1 a j) (h2 : ∀ j, τ'.2 a j = τ.2 a j) (h3 : ∀ j, τ'.1 (a + 1) j = τ.1 (a + 1) j) : MoE a b τ0 τ' := by
  obtain ⟨⟨e1, e2, e3, e4, e5, e6, e7, e8⟩, e9⟩ := h
  exact ⟨⟨(h1 _).trans e1, (h1 _).trans e2, (h2 _).trans e3, (h1 _).trans e4, (h1 _).trans e5, (h1 _).trans e6, (h1 _).trans e7, (h1 _).trans e8⟩, fun j hj => (h3 j).trans (e9 j hj)⟩
theorem p_keep (t : Nat) (x : Int32) : PrI t m_H_keep m_M_keep [.int x] := by
  intro ht0 τ h
  obtain ⟨R, C, kd, ht, ns, n, hA, hT, hR⟩ := h
  have ⟨a, b, c, d, e, f, g, i, j⟩ := hA
  have hn := b.1
  rw [N_H_keep]
  simp only [E_H_keep, fIsA, fRt, fLen, fLit, fBool]
  have no : ¬ (0 ≤ x ∧ x ≤ nI 2) → Cl 900 m_M_keep [Value.ref 69, Value.int x] τ fun b τ2 => (∃ x, some (Value.int 0) = some (Value.int x) ∧ b = some (Value.int x)) ∧ Inv (t + 1) τ2 := fun q => by
    rw [N_M_keep]
    simp only [E_M_keep, fIsA, fRt, fLen, fLit, fBool, sI_1, reduceIte, Nat.reduceEqDiff]
    refine s_inI 0 rfl (nI 2) rfl (fun c1 c2 => absurd ⟨c1, c2⟩ q) (fun _ => ?_)
    simp only [oT, E_M_keep, fIsA, fRt, fLen, fLit, fBool]
    exact ok rfl (hA.inv3 hT hR (fr690 (v := 0)) rfl)
  refine ⟨fun z => no (fun q => absurd z (nlt q.1)), fun z => ⟨by decide, by decide, fun z2 => ?_, fun z2 => no (fun q => z2 (Int32.lt_of_le_of_lt q.2 (by decide)))⟩⟩
  obtain ⟨i0, hi0, rfl⟩ := nI_of z
  have hi3 : i0 < 3 := (nI_ltI (b := 3) (by omega) (by omega)).mp z2
  have hm := ke_in i0 hi3
  rw [nI_clamp (by omega), mrf45]
  refine ⟨vp_in_nI hi3 (by omega), (mset_A hm).1, s_copy hm (by decide) (by omega) (fun τ1 f1 m1 => ?_)⟩
  simp only [oN, E_H_keep, fIsA, fRt, fLen, fLit, fBool]
  rw [N_M_keep]
  simp only [E_M_keep, fIsA, fRt, fLen, fLit, fBool, sI_1, reduceIte, Nat.reduceEqDiff]
  refine s_inI 0 rfl (nI 2) rfl (fun c1 c2 => ?_) (fun q => absurd ⟨nI_pos' (by omega), nI_le (show i0 ≤ 2 by omega) (by omega)⟩ q)
  simp only [oT, E_M_keep, fIsA, fRt, fLen, fLit, fBool, sI_1, reduceIte, Nat.reduceEqDiff]
  refine ⟨vp_in_nI hi3 (by omega), vp_in_nI hi3 (by omega), ?_⟩
  have nb : vp_nar .boolean 1 = 1 := by decide
  rw [nI_clamp (by omega), nb]
  refine s_Mkeep_loop hi3 (fun τ2 f2 e2 o2 => ok rfl ?_) 50 0 rfl _ Fr.rf (fun k hk => absurd hk (Nat.not_lt_zero k)) (fun _ _ => rfl)
  have kk : ∀ k, k ∈ mset → k + 1 ≠ 98 ∧ k ≠ 98 ∧ k + 1 ≠ 99 ∧ k ≠ 99 ∧ k ≠ 100 ∧ k + 1 ≠ 100 ∧ k ≠ 69 ∧ k + 1 ≠ 69 := by decide
  have kq := kk _ hm
  -- what stays
  have g1 : ∀ k j, k ≠ 46 + 2 * i0 → k ≠ 46 + 2 * i0 + 1 → k ≠ 98 → k ≠ 99 → k ≠ 100 → (k = 69 → j ≠ 0) → τ2.1 k j = τ.1 k j ∧ τ2.2 k j = τ.2 k j := fun k j k1 k2 k3 k4 k5 k6 => by
    have a1 := f1.D' k j k1 k2
    have a2 := f2 k j (by simp [k5]) (by simp)
    refine ⟨a2.1.trans (Eq.trans ?_ a1.1), a2.2.trans a1.2⟩
    simp only [sI_1]
    rw [if_neg k4, if_neg k3]
    by_cases q : k = 69
    · rw [if_pos q, if_neg (k6 q)]
    · rw [if_neg q]
  have f3 : Fr [46, 47, 48, 49, 50, 51, 98, 99, 100] [(69, 0)] τ τ2 := fun k j hk1 hk2 => by
    have kin : ∀ i, i < 3 → 46 + 2 * i ∈ [46, 47, 48, 49, 50, 51, 98, 99, 100] ∧ 46 + 2 * i + 1 ∈ [46, 47, 48, 49, 50, 51, 98, 99, 100] := by decide
    refine g1 k j (fun z => hk1 (by rw [z]; exact (kin i0 hi3).1)) (fun z => hk1 (by rw [z]; exact (kin i0 hi3).2)) (fun z => hk1 (by rw [z]; decide)) (fun z => hk1 (by rw [z]; decide)) (fun z => hk1 (by rw [z]; decide)) (fun z w => hk2 (by rw [z, w]; decide))
  obtain ⟨ch, k1, k2, k3⟩ := e
  have e98 : ∀ i, τ2.1 98 i = if i = i0 then 1 else τ.1 98 i := fun i => by
    rw [f2.c1 98 rfl]
    simp only [sI_1, reduceIte, Nat.reduceEqDiff]
    by_cases q : i = i0
    · rw [if_pos q, if_pos q]
    · rw [if_neg q, if_neg q]; exact (f1.D' 98 i (by omega) (by omega)).1
  have e99 : ∀ i, τ2.1 99 i = if i = i0 then nI ch else τ.1 99 i := fun i => by
    rw [f2.c1 99 rfl]
    simp only [sI_1, reduceIte, Nat.reduceEqDiff]
    by_cases q : i = i0
    · rw [if_pos q, if_pos q, (f1.D' 69 6 (by omega) (by omega)).1]; exact k2
    · rw [if_neg q, if_neg q]; exact (f1.D' 99 i (by omega) (by omega)).1
  have m2 : MoE (46 + 2 * i0) 9 τ τ2 := by
    refine m1.fr (fun j => ?_) (fun j => ?_) (fun j => ?_)
    · rw [(f2 _ j (by simp [kq]) (by simp)).1]
      simp only [sI_1]
      rw [if_neg (by omega), if_neg (by omega), if_neg (by omega)]
    · rw [(f2 _ j (by simp [kq]) (by simp)).2]; rfl
    · rw [(f2 _ j (by simp; omega) (by simp)).1]
      simp only [sI_1]
      rw [if_neg (by omega), if_neg (by omega), if_neg (by omega)]
  have e' : KeI τ2 (t + 1) ns (R * C) (300 * (t + 1)) kd := by
    refine ⟨ch, by omega, by rw [f3.u1 69 6 rfl]; exact k2, fun i hi => ?_⟩
    by_cases q : i = i0
    · subst q
      refine Or.inl ⟨by rw [e98, if_pos rfl], by rw [e99, if_pos rfl], by rw [m2.1.1]; exact b.2.2.1, c.to m2 (fun j hj => ?_) (by omega) hn⟩
      rw [e2 j hj]
      simp only [sI_1]
      rw [if_neg (by omega), if_neg (by omega), if_neg (by omega), (f1.D' 75 j (by omega) (by omega)).1]
    · have g2 : ∀ j, τ2.1 (46 + 2 * i) j = τ.1 (46 + 2 * i) j ∧ τ2.2 (46 + 2 * i) j = τ.2 (46 + 2 * i) j := fun j => g1 _ j (by omega) (by omega) (by omega) (by omega) (by omega) (by omega)
      have g3 : ∀ j, τ2.1 (46 + 2 * i + 1) j = τ.1 (46 + 2 * i + 1) j ∧ τ2.2 (46 + 2 * i + 1) j = τ.2 (46 + 2 * i + 1) j := fun j => g1 _ j (by omega) (by omega) (by omega) (by omega) (by omega) (by omega)
      rw [e98, e99, if_neg q, if_neg q, (g2 1).1]
      rcases k3 i hi with ⟨c1, c2, c3, c4⟩ | c
      · refine Or.inl ⟨c1, c2, c3, c4.same (fun j => (g2 j).1) (fun j => (g2 j).2) (fun j => (g3 j).1) (fun j hj => ?_) (by omega) hn⟩
        rw [o2 _ (by omega)]
        simp only [sI_1]
        rw [if_neg (by omega), if_neg (by omega), if_neg (by omega), (f1.D' 100 _ (by omega) (by omega)).1]
      · exact Or.inr c
  exact ⟨R, C, kd, ht, ns, n, ⟨a.fr f3 rfl, b.fr f3 rfl, c.fr9 f3 rfl (by omega) hn, d.fr f3 rfl (by omega) hn, e', f.fr f3 rfl, g.fr f3 rfl, i.fr f3 rfl, j.fr f3 rfl⟩, hT.fr f3 rfl, hR.fr f3 rfl⟩
theorem p_again (t : Nat) (x : Int32) : PrI t m_H_again m_M_again [.int x] := by
  intro ht0 τ h
  obtain ⟨R, C, kd, ht, ns, n, hA, hT, hR⟩ := h
  have ⟨a, b, c, d, e, f, g, i, j⟩ := hA
  have hn := b.1
  rw [N_H_again]
  simp only [E_H_again, fIsA, fRt, fLen, fLit, fBool]
  have no : ¬ (0 ≤ x ∧ x ≤ nI 2) → Cl 900 m_M_again [Value.ref 69, Value.int x] τ fun b τ2 => (∃ x, some (Value.int 0) = some (Value.int x) ∧ b = some (Value.int x)) ∧ Inv (t + 1) τ2 := fun q => by
    rw [N_M_again]
    simp only [E_M_again, fIsA, fRt, fLen, fLit, fBool, sI_1, reduceIte, Nat.reduceEqDiff]
    refine s_inI 0 rfl (nI 2) rfl (fun c1 c2 => absurd ⟨c1, c2⟩ q) (fun _ => ?_)
    simp only [oT, E_M_again, fIsA, fRt, fLen, fLit, fBool]
    exact ok rfl (hA.inv3 hT hR (fr690 (v := 0)) rfl)
  refine ⟨fun z => no (fun q => absurd z (nlt q.1)), fun z => ⟨by decide, by decide, fun z2 => no (fun q => absurd (Int32.le_trans z2 q.2) (by decide)), fun z2 => ?_⟩⟩
  obtain ⟨i0, hi0, rfl⟩ := nI_of z
  have hi3 : i0 < 3 := (nI_ltI (b := 3) (by omega) (by omega)).mp (Int32.not_le.mp z2)
  have hm := ke_in i0 hi3
  have inr : ¬ (0 ≤ nI i0 ∧ nI i0 ≤ nI 2) → False := fun q => q ⟨nI_pos' (by omega), nI_le (show i0 ≤ 2 by omega) (by omega)⟩
  rw [nI_clamp (by omega), mrf45]
  simp only [b.2.2.1]
  obtain ⟨ch, k1, k2, k3⟩ := e
  have k3i := k3 i0 hi3
  refine ⟨vp_in_nI hi3 (by omega), (mset_A hm).1, fun q => ?_, fun q => ?_⟩
  · rcases k3i with ⟨c1, c2, c3, c4⟩ | c'
    · rw [c3] at q
      refine ⟨vp_in_nI hi3 (by omega), s_copy (a := 9) (by decide) hm (by omega) (fun τ1 f1 m1 => ?_)⟩
      simp only [oN, E_H_again, fIsA, fRt, fLen, fLit, fBool]
      rw [N_Past_clear]
      simp only [E_Past_clear, oN, E_H_again, fIsA, fRt, fLen, fLit, fBool]
      rw [N_M_again]
      simp only [E_M_again, fIsA, fRt, fLen, fLit, fBool, sI_1, reduceIte, Nat.reduceEqDiff]
      refine s_inI 0 rfl (nI 2) rfl (fun _ _ => ?_) (fun q => (inr q).elim)
      have g98 : τ1.1 98 i0 = 1 := (f1.c1 98 rfl i0).trans c1
      have g99 : τ1.1 99 i0 = nI ch := (f1.c1 99 rfl i0).trans c2
      have g6 : τ1.1 69 6 = nI ch := (f1.u1 69 6 rfl).trans k2
      simp only [oT, E_M_again, fIsA, fRt, fLen, fLit, fBool, sI_1, reduceIte, Nat.reduceEqDiff, nI_clamp (show i0 < 2 ^ 31 by omega), g98, g99, g6]
      refine ⟨vp_in_nI hi3 (by omega), vp_in_nI hi3 (by omega), ?_⟩
      refine s_Magain_loop hi3 (fun τ2 f2 e2 e3 => ok rfl ?_) 50 0 rfl _ Fr.rf (fun k hk => absurd hk (Nat.not_lt_zero k))
      have f3 : Fr [9, 10, 75] [(13, 2), (69, 0), (69, 28)] τ τ2 := (((f1.wk rfl).i rfl).i rfl).tr (f2.wk rfl)
      have q3 : Fr [75] [(13, 2), (69, 0), (69, 28)] τ1 τ2 := ((Fr.rf.i rfl).i rfl).tr (f2.wk rfl)
      have m2 : MoE 9 (46 + 2 * i0) τ τ2 := m1.fr (fun j => q3.c1 9 rfl j) (fun j => q3.c2 9 rfl j) (fun j => q3.c1 10 rfl j)
      have c' : MoI τ2 9 ns (R * C) (300 * (t + 1)) kd (τ2.1 75) := by
        refine c4.to m2 (fun j hj => ?_) (by omega) hn
        rw [e3 j hj]
        simp only [sI_1]
        rw [if_neg (by omega), if_neg (by omega), f1.c1 100 rfl]
      have b' : ShI τ2 ns := by
        refine ⟨hn, by rw [f3.u1 69 5 rfl]; exact b.2.1, ?_, fun s hs => ?_⟩
        · rw [m2.1.1]; exact c3
        · rw [f3.c1 52 rfl, f3.c1 73 rfl]; exact b.2.2.2 s hs
      obtain ⟨fi, un, u1, u2, u3, u4, u5, u6⟩ := d
      have d' : UnI τ2 ns (R * C) (300 * (t + 1)) kd := ⟨fi, 0, u1, by omega, by rw [f3.u1 13 1 rfl]; exact u3, by rw [f2.u1 13 2 rfl]; rfl, e2, fun i hi => absurd hi (Nat.not_lt_zero i)⟩
      have e' : KeI τ t ns (R * C) (300 * t) kd := ⟨ch, k1, k2, k3⟩
      exact ⟨R, C, kd, ht, ns, n, ⟨a.fr f3 rfl, b', c', d', e'.fr f3 rfl (by omega) (by omega) hn, f.fr f3 rfl, g.fr f3 rfl, i.fr f3 rfl, j.fr f3 rfl⟩, hT.fr f3 rfl, hR.fr f3 rfl⟩
    · exfalso
      rcases c'.2 with w | ⟨m, w1, w2⟩
      · rw [w] at q
        have := nI_pos' (n := ns) (by omega)
        rw [← q] at this
        exact absurd this (by decide)
      · rw [w2, nI_eq (by omega) (by omega)] at q
        omega
  · rcases k3i with ⟨c1, c2, c3, c4⟩ | c'
    · exact absurd c3 q
    · rw [N_M_again]
      simp only [E_M_again, fIsA, fRt, fLen, fLit, fBool, sI_1, reduceIte, Nat.reduceEqDiff]
      have fin := ok rfl (hA.inv3 hT hR (fr690 (v := 0)) rfl) (x := 0)
      refine s_inI 0 rfl (nI 2) rfl (fun c1 c2 => ?_) (fun q => (inr q).elim)
      simp only [oT, E_M_again, fIsA, fRt, fLen, fLit, fBool, sI_1, reduceIte, Nat.reduceEqDiff, nI_clamp (show i0 < 2 ^ 31 by omega), k2]
      refine ⟨vp_in_nI hi3 (by omega), fun _ => fin, fun w => ⟨vp_in_nI hi3 (by omega), fun w2 => ?_, fun _ => fin⟩⟩
      exfalso
      rcases c'.1 with w3 | ⟨w3, cc, w4, w5⟩
      · exact w w3
      · rw [w5, nI_eq (by omega) (by omega)] at w2
        omega
