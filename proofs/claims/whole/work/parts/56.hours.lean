/-! HOURS; what is remembered -/
section HG
variable {d ns n B : Nat} {kd : Nat → Nat} {Q : Qt} {τ : St} {r : Nat → Int32} {e : Int32}
/-- an hour goes by -/
def hgR (e : Int32) (r : Nat → Int32) (j : Nat) : Int32 := if j = 44 ∨ j = 45 ∨ j = 48 then 0 else if j = 49 then (if e < r 48 then r 49 + 1 else r 49) else if j = 47 then (if r 47 + 1 = 10 then 0 else r 47 + 1) else if j = 46 then (if r 47 + 1 = 10 then r 46 + 1 else r 46) else r j
theorem hg44 : hgR e r 44 = 0 := rfl
theorem hg45 : hgR e r 45 = 0 := rfl
theorem hg48 : hgR e r 48 = 0 := rfl
theorem hg49 : hgR e r 49 = if e < r 48 then r 49 + 1 else r 49 := rfl
theorem hg47 : hgR e r 47 = if r 47 + 1 = 10 then 0 else r 47 + 1 := rfl
theorem hg46 : hgR e r 46 = if r 47 + 1 = 10 then r 46 + 1 else r 46 := rfl
theorem hgL {j : Nat} (h : j < 44) : hgR e r j = r j := by
  unfold hgR
  rw [if_neg (by omega), if_neg (by omega), if_neg (by omega), if_neg (by omega)]
theorem s_letHour (mo : MoI τ 9 ns n B kd r) (hns : ns ≤ 8) (hQ : ∀ τ', Fr [9] [] τ τ' → τ'.1 9 1 = τ.1 9 1 → MoI τ' 9 ns n (B + 1) kd (hgR e r) → Q none τ') : Cl (d + 1) m_Moment_letHourPass [.ref 9, .int e] τ Q := by
  obtain ⟨m1, ⟨k2, k4, k5, k6, k7, k8⟩, m3, m4, ⟨i, i1, i2⟩, ⟨h, h1, h2⟩, m7, m8⟩ := mo
  rw [N_Moment_letHourPass]
  simp only [E_Moment_letHourPass, fIsA, fRt, fLen, fLit, fBool, sI_1, reduceIte, Nat.reduceEqDiff, k5, k6, k7, k8]
  have p2 : 0 < 2 ^ ns := Nat.pow_pos (by omega)
  have t10 : nI h + 1 = 10 ↔ h = 9 := by rw [nI_1, show (10 : Int32) = nI 10 from rfl, nI_eq (by omega) (by omega)]; omega
  have fin : ∀ (τ' : St), Fr [9] [] τ τ' → τ'.1 9 1 = τ.1 9 1 → τ'.2 9 3 = τ.2 9 3 → τ'.1 9 2 = 0 → τ'.1 9 4 = 0 → τ'.1 9 7 = 0 → τ'.1 9 8 = hgR e r 49 → τ'.1 9 6 = hgR e r 47 → τ'.1 9 5 = hgR e r 46 → Q none τ' := fun τ' f s1 p d2 u4 n7 a8 h6 n5 => by
    refine hQ τ' f s1 ⟨fun s q => ?_, ⟨by rw [d2, hg44], by rw [u4, hg45], n5, h6, by rw [n7, hg48], a8⟩, fun q hq => ?_, fun q hq hq2 => ?_, ?_, ?_, ⟨0, p2, hg44⟩, ⟨0, by omega, hg45⟩⟩
    · rw [hgL (by omega), (f (9 + 1) s (by decide) (by simp)).1]; exact m1 s q
    · rw [hgL (by omega), p]; exact m3 q hq
    · rw [p]; exact m4 q hq hq2
    · rw [hg46, h2, i2]
      split
      · exact ⟨i + 1, by omega, nI_1 i⟩
      · exact ⟨i, by omega, rfl⟩
    · rw [hg47, h2]
      split
      · exact ⟨0, by omega, rfl⟩
      · next c => exact ⟨h + 1, by have : h ≠ 9 := fun z => c (t10.mpr z); omega, nI_1 h⟩
  refine ⟨fun c => ⟨fun c2 => ?_, fun c2 => ?_⟩, fun c => ⟨fun c2 => ?_, fun c2 => ?_⟩⟩
  · exact fin _ ((((Fr.rf.ic rfl).ic rfl).ic rfl).ic rfl) rfl rfl rfl rfl rfl (by show τ.1 9 8 = _; rw [k8, hg49, if_neg (nlt c)]) (by rw [hg47, if_neg c2]; rfl) (by show τ.1 9 5 = _; rw [k5, hg46, if_neg c2])
  · exact fin _ ((((((Fr.rf.ic rfl).ic rfl).ic rfl).ic rfl).ic rfl).ic rfl) rfl rfl rfl rfl rfl (by show τ.1 9 8 = _; rw [k8, hg49, if_neg (nlt c)]) (by rw [hg47, if_pos c2]; rfl) (by rw [hg46, if_pos c2]; rfl)
  · exact fin _ (((((Fr.rf.ic rfl).ic rfl).ic rfl).ic rfl).ic rfl) rfl rfl rfl rfl rfl (by rw [hg49, if_pos (Int32.not_le.mp c)]; rfl) (by rw [hg47, if_neg c2]; rfl) (by show τ.1 9 5 = _; rw [k5, hg46, if_neg c2])
  · exact fin _ (((((((Fr.rf.ic rfl).ic rfl).ic rfl).ic rfl).ic rfl).ic rfl).ic rfl) rfl rfl rfl rfl rfl (by rw [hg49, if_pos (Int32.not_le.mp c)]; rfl) (by rw [hg47, if_pos c2]; rfl) (by rw [hg46, if_pos c2]; rfl)
theorem s_hourGoes (hr : ∀ j, j < 50 → τ.1 75 j = r j) (he : τ.1 74 1 = e) (hQ : ∀ τ', Fr [75] [] τ τ' → (∀ j, j < 50 → τ'.1 75 j = hgR e r j) → Q none τ') : Cl (d + 2) m_M_hourGoes [.ref 69, .ref 75] τ Q := by
  rw [N_M_hourGoes]
  simp only [E_M_hourGoes, fIsA, fRt, fLen, fLit, fBool, fIx, he, hr 48 (by omega), hr 49 (by omega)]
  have go : ∀ x : Int32, (x = 0 ∨ x = 1) → r 49 + x = hgR e r 49 → Rs M_M_hourGoes (d + 1) Q 23 [some (Value.ref 69), some (Value.ref 75)] [Value.int x, Value.int (r 49), Value.int 49, Value.ref 75] τ := fun x hx ex => by
    rw [Rs_eq]
    simp only [E_M_hourGoes, fIsA, fRt, fLen, fLit, fBool, fIx]
    refine s_flag hx ?_
    simp only [oT, E_M_hourGoes, fIsA, fRt, fLen, fLit, fBool, fIx, sI_1, reduceIte, Nat.reduceEqDiff, hr 46 (by omega), hr 47 (by omega), ex]
    have fin : ∀ (τ' : St), Fr [75] [] τ τ' → (∀ j, j < 44 → τ'.1 75 j = τ.1 75 j) → τ'.1 75 44 = 0 → τ'.1 75 45 = 0 → τ'.1 75 48 = 0 → τ'.1 75 49 = hgR e r 49 → τ'.1 75 47 = hgR e r 47 → τ'.1 75 46 = hgR e r 46 → Q none τ' := fun τ' f lo a b c dd ee ff => by
      refine hQ τ' f (fun j hj => ?_)
      rcases (show j < 44 ∨ j = 44 ∨ j = 45 ∨ j = 46 ∨ j = 47 ∨ j = 48 ∨ j = 49 by omega) with q | rfl | rfl | rfl | rfl | rfl | rfl
      · rw [lo j q, hr j hj, hgL q]
      · rw [a, hg44]
      · rw [b, hg45]
      · exact ff
      · exact ee
      · rw [c, hg48]
      · exact dd
    have lt : ∀ (j : Nat), j < 44 → (sI (sI (sI (sI (sI τ 75 49 (hgR e r 49)) 75 45 0) 75 48 0) 75 44 0) 75 47 (r 47 + 1)).1 75 j = τ.1 75 j := fun j hj => by
      simp only [sI_1, reduceIte]
      rw [if_neg (by omega), if_neg (by omega), if_neg (by omega), if_neg (by omega), if_neg (by omega)]
    refine ⟨fun c => ?_, fun c => ?_⟩
    · exact fin _ (((((Fr.rf.ic rfl).ic rfl).ic rfl).ic rfl).ic rfl) lt rfl rfl rfl rfl (by rw [hg47, if_neg c]; rfl) (by show τ.1 75 46 = _; rw [hr 46 (by omega), hg46, if_neg c])
    · refine fin _ (((((((Fr.rf.ic rfl).ic rfl).ic rfl).ic rfl).ic rfl).ic rfl).ic rfl) (fun j hj => ?_) rfl rfl rfl rfl (by rw [hg47, if_pos c]; rfl) (by rw [hg46, if_pos c]; rfl)
      rw [← lt j hj]
      simp only [sI_1, reduceIte]
      rw [if_neg (by omega), if_neg (by omega)]
  refine ⟨fun c => go 0 (Or.inl rfl) ?_, fun c => go 1 (Or.inr rfl) ?_⟩
  · rw [hg49, if_neg (nlt c), Int32.add_zero]
  · rw [hg49, if_pos (Int32.not_le.mp c)]
/-- m hours go by -/
def hgN (e : Int32) : Nat → (Nat → Int32) → Nat → Int32
  | 0, r => r
  | m + 1, r => hgN e m (hgR e r)
end HG
section RM
variable {d R C ns n B : Nat} {kd : Nat → Nat} {Q : Qt} {τ : St} {r : Nat → Int32}
theorem s_MputsBy {un : Nat} (hu : un ≤ 15) (h1 : τ.1 69 28 = nI un) (hQ : ∀ τ', Fr [84] [] τ τ' → (∀ j, j < 50 → τ'.1 84 (50 * un + j) = τ.1 75 j) → (∀ j, j < 50 * un → τ'.1 84 j = τ.1 84 j) → Q none τ') : Cl (d + 1) m_M_putsBy [.ref 69] τ Q := by
  rw [N_M_putsBy]
  simp only [E_M_putsBy, fIsA, fRt, fLen, fLit, fBool]
  have loop : ∀ (m j : Nat), j + m = 50 → ∀ τ1 : St, Fr [84] [] τ τ1 → (∀ k, k < j → τ1.1 84 (50 * un + k) = τ.1 75 k) → (∀ k, k < 50 * un → τ1.1 84 k = τ.1 84 k) → Rs M_M_putsBy d Q 2 [some (.ref 69), some (.int (nI j))] [] τ1 := by
    intro m
    induction m with
    | zero =>
      intro j hj τ1 f a b
      obtain rfl : j = 50 := by omega
      rw [Rs_eq]
      simp only [E_M_putsBy, fIsA, fRt, fLen, fLit, fBool]
      exact ⟨fun _ => hQ τ1 f a b, fun q => absurd (Int32.le_refl _) q⟩
    | succ m ih =>
      intro j hj τ1 f a b
      have e : (50 : Int32) * nI un + nI j = nI (50 * un + j) := by rw [show (50 : Int32) * nI un = nI (50 * un) from pk_mul 50 un]; exact nI_add _ _
      rw [Rs_eq]
      simp only [E_M_putsBy, fIsA, fRt, fLen, fLit, fBool, f.u1 69 28 rfl, h1, e, nI_1]
      refine ⟨fun q => absurd q (nI_ge (b := 50) (by omega) (by omega)), fun _ => ⟨vp_in_nI (by omega) (by omega), vp_in_nI (by omega) (by omega), ?_⟩⟩
      rw [nI_clamp (by omega), nI_clamp (by omega)]
      refine ih (j + 1) (by omega) _ (f.ic rfl) (fun k hk => ?_) (fun k hk => ?_)
      · simp only [sI_1, reduceIte]
        by_cases c : k = j
        · subst c; rw [if_pos rfl, f.c1 75 rfl]
        · rw [if_neg (by omega)]; exact a k (by omega)
      · simp only [sI_1, reduceIte]
        rw [if_neg (by omega)]; exact b k hk
  exact loop 50 0 rfl τ Fr.rf (fun k hk => absurd hk (Nat.not_lt_zero k)) (fun _ _ => rfl)
theorem s_Madds {un : Nat} {x : Int32} (hu : un ≤ 15) (h1 : τ.1 69 28 = nI un) (hQ : ∀ τ', Fr [84] [(69, 28)] τ τ' → τ'.1 69 28 = nI (if un = 15 then 15 else un + 1) → (∀ i j, i ≤ (if un = 15 then 14 else un) → j < 50 → τ'.1 84 (50 * i + j) = τ.1 84 (50 * (if un = 15 then i + 1 else i) + j)) → Q (some (.int x)) τ') : Cl (d + 1) m_M_adds [.ref 69, .int x] τ Q := by
  rw [N_M_adds]
  simp only [E_M_adds, fIsA, fRt, fLen, fLit, fBool, h1, nI_1, sI_1, reduceIte, Nat.reduceEqDiff]
  refine ⟨fun c => ?_, fun c => ?_⟩
  · have c := (nI_leI (b := 15) (by omega) (by omega)).mp c
    have c2 : un ≠ 15 := by omega
    rw [if_neg c2, if_neg c2] at hQ
    refine hQ _ (Fr.rf.i rfl) rfl (fun i j hi hj => ?_)
    rw [if_neg c2]
    rfl
  · have c2 : un = 15 := by
      have : ¬ un + 1 ≤ 15 := fun z => c (nI_le (a := un + 1) (b := 15) z (by omega))
      omega
    subst c2
    rw [if_pos rfl, if_pos rfl] at hQ
    have loop : ∀ (m j : Nat), j + m = 750 → ∀ τ1 : St, Fr [84] [] (sI τ 69 28 (nI 16)) τ1 → (∀ k, k < j → τ1.1 84 k = τ.1 84 (k + 50)) → (∀ k, j ≤ k → τ1.1 84 k = τ.1 84 k) → Rs M_M_adds d Q 21 [some (.ref 69), some (.int x), some (.int (nI j))] [] τ1 := by
      intro m
      induction m with
      | zero =>
        intro j hj τ1 f a b
        obtain rfl : j = 750 := by omega
        have e16 : τ1.1 69 28 = nI (15 + 1) := (f.u1 69 28 rfl).trans rfl
        rw [Rs_eq]
        simp only [E_M_adds, fIsA, fRt, fLen, fLit, fBool, e16, nI_pred]
        refine ⟨fun _ => ?_, fun q => absurd (Int32.le_refl _) q⟩
        refine hQ _ (((Fr.rf.i rfl).tr (f.wk rfl)).i rfl) rfl (fun i j hi hj => ?_)
        rw [if_pos rfl]
        have e2 : 50 * (i + 1) + j = 50 * i + j + 50 := by omega
        rw [e2]
        exact a _ (by omega)
      | succ m ih =>
        intro j hj τ1 f a b
        have e : nI j + 50 = nI (j + 50) := nI_add j 50
        rw [Rs_eq]
        simp only [E_M_adds, fIsA, fRt, fLen, fLit, fBool, e, nI_1]
        refine ⟨fun q => absurd q (nI_ge (b := 750) (by omega) (by omega)), fun _ => ⟨vp_in_nI (by omega) (by omega), vp_in_nI (by omega) (by omega), ?_⟩⟩
        rw [nI_clamp (by omega), nI_clamp (by omega)]
        refine ih (j + 1) (by omega) _ (f.ic rfl) (fun k hk => ?_) (fun k hk => ?_)
        · simp only [sI_1, reduceIte]
          by_cases c : k = j
          · subst c; rw [if_pos rfl]; exact b _ (by omega)
          · rw [if_neg c]; exact a k (by omega)
        · simp only [sI_1, reduceIte]
          rw [if_neg (by omega)]; exact b k (by omega)
    exact loop 750 0 rfl _ Fr.rf (fun k hk => absurd hk (Nat.not_lt_zero k)) (fun _ _ => rfl)
end RM
