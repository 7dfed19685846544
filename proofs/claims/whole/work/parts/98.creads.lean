/-! RULES told: equations of what is told; the class reads -/
section PE
variable {g : Nat → Nat} {m f mode k p q q1 q2 : Nat} {l l' : List (Nat × Nat)}
theorem pr_n1 (c : mode < 3) (h1 : pR g m f (mode + 1) k p = (none, q)) : pR g m (f + 1) mode k p = (none, q) := by rw [pR, if_pos c, h1]
theorem pr_n2 (c : mode < 3) (h1 : pR g m f (mode + 1) k p = (some l, q1)) (h2 : pR g m f (mode + 4) k q1 = (none, q)) : pR g m (f + 1) mode k p = (none, q) := by
  rw [pR, if_pos c, h1]
  show (match pR g m f (mode + 4) k q1 with
    | (none, q') => (none, q')
    | (some l', q') => (some (l ++ l'), q')) = _
  rw [h2]
theorem pr_y (c : mode < 3) (h1 : pR g m f (mode + 1) k p = (some l, q1)) (h2 : pR g m f (mode + 4) k q1 = (some l', q)) : pR g m (f + 1) mode k p = (some (l ++ l'), q) := by
  rw [pR, if_pos c, h1]
  show (match pR g m f (mode + 4) k q1 with
    | (none, q') => (none, q')
    | (some l', q') => (some (l ++ l'), q')) = _
  rw [h2]
theorem p3_n (h1 : pR g m f 7 k (p + sgN g m 41 p) = (none, q)) : pR g m (f + 1) 3 k p = (none, q) := by rw [pR, if_neg (by decide), if_pos rfl, h1]
theorem p3_y (h1 : pR g m f 7 k (p + sgN g m 41 p) = (some l, q)) : pR g m (f + 1) 3 k p = (some (l ++ sgT (sgN g m 41 p)), q) := by rw [pR, if_neg (by decide), if_pos rfl, h1]
theorem lo_0 (c1 : 4 ≤ mode) (c2 : mode < 7) (h : ¬ (p < m ∧ lvB (g p) = mode - 4)) : pR g m (f + 1) mode k p = (some [], p) := by rw [pR, if_neg (by omega), if_neg (by omega), if_pos c2, if_neg h]
theorem lo_n1 (c1 : 4 ≤ mode) (c2 : mode < 7) (h : p < m ∧ lvB (g p) = mode - 4) (h1 : pR g m f (mode - 3) k (p + 1) = (none, q)) : pR g m (f + 1) mode k p = (none, q) := by rw [pR, if_neg (by omega), if_neg (by omega), if_pos c2, if_pos h, h1]
theorem lo_4 (h : p < m ∧ lvB (g p) = 0) (h1 : pR g m f 1 k (p + 1) = (some l, q)) : pR g m (f + 1) 4 k p = (some (l ++ [(2, g p)]), q) := by
  rw [pR, if_neg (by decide), if_neg (by decide), if_pos (by decide), if_pos h]
  show (match pR g m f 1 k (p + 1) with
    | (none, q) => (none, q)
    | (some l, q) => if 4 = 4 then (some (l ++ [(2, g p)]), q) else match pR g m f 4 k q with
      | (none, q') => (none, q')
      | (some l', q') => (some (l ++ (2, g p) :: l'), q')) = _
  rw [h1]
  rfl
theorem lo_n2 (c1 : 4 < mode) (c2 : mode < 7) (h : p < m ∧ lvB (g p) = mode - 4) (h1 : pR g m f (mode - 3) k (p + 1) = (some l, q1)) (h2 : pR g m f mode k q1 = (none, q)) : pR g m (f + 1) mode k p = (none, q) := by
  rw [pR, if_neg (by omega), if_neg (by omega), if_pos c2, if_pos h, h1]
  show (if mode = 4 then (some (l ++ [(2, g p)]), q1) else match pR g m f mode k q1 with
    | (none, q') => (none, q')
    | (some l', q') => (some (l ++ (2, g p) :: l'), q')) = _
  rw [if_neg (by omega), h2]
theorem lo_y (c1 : 4 < mode) (c2 : mode < 7) (h : p < m ∧ lvB (g p) = mode - 4) (h1 : pR g m f (mode - 3) k (p + 1) = (some l, q1)) (h2 : pR g m f mode k q1 = (some l', q)) : pR g m (f + 1) mode k p = (some (l ++ (2, g p) :: l'), q) := by
  rw [pR, if_neg (by omega), if_neg (by omega), if_pos c2, if_pos h, h1]
  show (if mode = 4 then (some (l ++ [(2, g p)]), q1) else match pR g m f mode k q1 with
    | (none, q') => (none, q')
    | (some l', q') => (some (l ++ (2, g p) :: l'), q')) = _
  rw [if_neg (by omega), h2]
theorem th_d (h : isDg g m p) : pR g m (f + 1) 7 k p = (some [(0, (nm g m 3 p 0).1)], (nm g m 3 p 0).2) := by rw [pR, if_neg (by decide), if_neg (by decide), if_neg (by decide), if_pos h]
theorem lt_nd {b : Nat} (h : isLt b) : ¬ (48 ≤ b ∧ b ≤ 57) ∧ b ≠ 40 := by omega
theorem th_l (h : p < m ∧ isLt (g p)) : pR g m (f + 1) 7 k p = (some [(1, g p)], p + 1) := by rw [pR, if_neg (by decide), if_neg (by decide), if_neg (by decide), if_neg (fun z => (lt_nd h.2).1 z.2), if_pos h]
theorem th_bn (h : p < m ∧ g p = 40 ∧ k < 4) (h1 : pR g m f 0 (k + 1) (p + 1) = (none, q)) : pR g m (f + 1) 7 k p = (none, q) := by rw [pR, if_neg (by decide), if_neg (by decide), if_neg (by decide), if_neg (fun z => by omega), if_neg (fun z => by omega), if_pos h, h1]
theorem th_by (h : p < m ∧ g p = 40 ∧ k < 4) (h1 : pR g m f 0 (k + 1) (p + 1) = (some l, q)) : (q < m ∧ g q = 41 → pR g m (f + 1) 7 k p = (some l, q + 1)) ∧ (¬ (q < m ∧ g q = 41) → pR g m (f + 1) 7 k p = (none, q)) := by
  rw [pR, if_neg (by decide), if_neg (by decide), if_neg (by decide), if_neg (fun z => by omega), if_neg (fun z => by omega), if_pos h, h1]
  show (q < m ∧ g q = 41 → (if q < m ∧ g q = 41 then (some l, q + 1) else (none, q)) = _) ∧ (¬ (q < m ∧ g q = 41) → (if q < m ∧ g q = 41 then (some l, q + 1) else (none, q)) = _)
  exact ⟨fun c => if_pos c, fun c => if_neg c⟩
theorem th_no (h1 : ¬ isDg g m p) (h2 : ¬ (p < m ∧ isLt (g p))) (h3 : ¬ (p < m ∧ g p = 40 ∧ k < 4)) : pR g m (f + 1) 7 k p = (none, p) := by rw [pR, if_neg (by decide), if_neg (by decide), if_neg (by decide), if_neg h1, if_neg h2, if_neg h3]
end PE
def CRead (g : Nat → Nat) (n m f : Nat) : Prop := ∀ (mode k p s D : Nat) (τ : St) (Q : Qt), 2 * f + 12 ≤ D → 8 * (m - p) + wM mode ≤ f → TT τ g n p m → τ.1 56 1 = nI s → s ≤ p → p ≤ m → k ≤ 4 → CN Q τ g m f mode k p → CY Q τ g m f mode k p s →
  ((mode ≤ 3 → Cl D m_Rule_readJoined [.ref 56, .ref 1, .int (nI mode), .int (nI k)] τ Q) ∧ (mode = 7 → Cl D m_Rule_readThing [.ref 56, .ref 1, .int (nI k)] τ Q)) ∧
  ∀ (i : Nat) (l : Option Value), 4 ≤ mode → mode < 7 → (mode = 4 → i = 0) → 2 * i + 1 ≤ p → Rs M_Rule_readJoined D Q 41 [some (.ref 56), some (.ref 1), some (.int (nI (mode - 4))), some (.int (nI k)), some (.int (nI (if mode = 4 then 1 else 40))), some (.int (nI i)), l] [] τ
section CR
variable {g : Nat → Nat} {n m f : Nat}
theorem c_rank (hm : m ≤ 40) (ih : CRead g n m f) {mode k p s D : Nat} {τ : St} {Q : Qt} (hD : 2 * (f + 1) + 12 ≤ D) (hf : 8 * (m - p) + wM mode ≤ f + 1) (T : TT τ g n p m) (h56 : τ.1 56 1 = nI s) (hs : s ≤ p) (hp : p ≤ m) (hk : k ≤ 4) (no : CN Q τ g m (f + 1) mode k p) (yes : CY Q τ g m (f + 1) mode k p s) (c3 : mode < 3) : Cl D m_Rule_readJoined [.ref 56, .ref 1, .int (nI mode), .int (nI k)] τ Q := by
  obtain ⟨D0, rfl⟩ : ∃ D0, D = D0 + 8 := ⟨D - 8, by omega⟩
  have w1 : wM (mode + 1) + 1 ≤ wM mode := by rcases (show mode = 0 ∨ mode = 1 ∨ mode = 2 by omega) with rfl | rfl | rfl <;> decide
  have w2 : wM (mode + 4) ≤ 6 := by rcases (show mode = 0 ∨ mode = 1 ∨ mode = 2 by omega) with rfl | rfl | rfl <;> decide
  have w3 : 3 ≤ wM mode := by rcases (show mode = 0 ∨ mode = 1 ∨ mode = 2 by omega) with rfl | rfl | rfl <;> decide
  rw [N_Rule_readJoined]
  simp only [E_Rule_readJoined, fIsA, fRt, fLen, fLit, fBool, nI_1]
  refine ⟨fun _ => ?_, fun z => absurd (nI_le (b := 2) (by omega) (by omega)) z⟩
  refine (ih (mode + 1) k p s (D0 + 7) τ _ (by omega) (by omega) T h56 hs hp hk (fun q τ1 h1 f1 e1 => ?_) (fun l q τ1 h1 f1 e1 e2 e3 e4 => ?_)).1.1 (by omega)
  · simp only [oT, E_Rule_readJoined, fIsA, fRt, fLen, fLit, fBool]
    exact no q τ1 (pr_n1 c3 h1) f1 e1
  · have o1 := pR_ok f (mode + 1) k p (some l) q (by omega) hp h1
    have o2 := o1.2 l rfl
    have o3 := (o2.2.2.1 (Or.inl (by omega))).1
    have T1 : TT τ1 g n q m := T.fr f1 rfl e1 (by omega)
    have loop := (ih (mode + 4) k q (s + (lC l).length) (D0 + 7) τ1 Q (by omega) (by omega) T1 e2 (by omega) o1.1.2 hk (fun q2 τ2 h2 f2 d1 => no q2 τ2 (pr_n2 c3 h1 h2) (f1.tr f2) d1) (fun l2 q2 τ2 h2 f2 d1 d2 d3 d4 => ?_)).2 0 none (by omega) (by omega) (fun _ => rfl) (by omega)
    · rw [show mode + 4 - 4 = mode by omega] at loop
      simp only [oT, E_Rule_readJoined, fIsA, fRt, fLen, fLit, fBool]
      refine ⟨fun z => ?_, fun z => ?_⟩
      · rw [if_neg (fun w => z (by rw [show mode = 0 by omega]; rfl))] at loop
        exact loop
      · have z := (nI_eq (b := 0) (by omega) (by omega)).mp z
        subst z
        rw [if_pos rfl] at loop
        exact loop
    · refine yes (l ++ l2) q2 τ2 (pr_y c3 h1 h2) (f1.tr f2) d1 ?_ (fun j hj => ?_) (fun j hj => ?_)
      · rw [d2, lC_app, List.length_append, Nat.add_assoc]
      · rw [lC_app] at hj ⊢
        rw [List.length_append] at hj
        by_cases c : j < (lC l).length
        · rw [getD_app.1 c, d4 _ (by omega)]; exact e3 j c
        · rw [getD_app.2 (by omega), ← d3 (j - (lC l).length) (by omega), show s + (lC l).length + (j - (lC l).length) = s + j by omega]
      · rw [d4 j (by omega)]; exact e4 j hj
theorem c_loop (hm : m ≤ 40) (ih : CRead g n m f) {mode k p s D : Nat} {τ : St} {Q : Qt} (hD : 2 * (f + 1) + 12 ≤ D) (hf : 8 * (m - p) + wM mode ≤ f + 1) (T : TT τ g n p m) (h56 : τ.1 56 1 = nI s) (hs : s ≤ p) (hp : p ≤ m) (hk : k ≤ 4) (no : CN Q τ g m (f + 1) mode k p) (yes : CY Q τ g m (f + 1) mode k p s) (i : Nat) (lo : Option Value) (c4 : 4 ≤ mode) (c7 : mode < 7) (hi0 : mode = 4 → i = 0) (hi : 2 * i + 1 ≤ p) : Rs M_Rule_readJoined D Q 41 [some (.ref 56), some (.ref 1), some (.int (nI (mode - 4))), some (.int (nI k)), some (.int (nI (if mode = 4 then 1 else 40))), some (.int (nI i)), lo] [] τ := by
  obtain ⟨D0, rfl⟩ : ∃ D0, D = D0 + 8 := ⟨D - 8, by omega⟩
  have hmost : i < (if mode = 4 then 1 else 40) ∧ (if mode = 4 then 1 else 40) ≤ 40 := by
    by_cases c : mode = 4
    · rw [if_pos c, hi0 c]; omega
    · rw [if_neg c]; omega
  have w2 : wM mode = 6 := by rcases (show mode = 4 ∨ mode = 5 ∨ mode = 6 by omega) with rfl | rfl | rfl <;> rfl
  have w3 : wM (mode - 3) ≤ 4 := by rcases (show mode = 4 ∨ mode = 5 ∨ mode = 6 by omega) with rfl | rfl | rfl <;> decide
  -- no sign of the level
  have none' : ¬ (p < m ∧ lvB (g p) = mode - 4) → Q (some (.int 1)) τ := fun c => by
    refine yes [] p τ (lo_0 c4 c7 c) Fr.rf T.2.1 h56 (fun j hj => absurd hj (Nat.not_lt_zero j)) (fun _ _ => rfl)
  rw [Rs_eq]
  simp only [E_Rule_readJoined, fIsA, fRt, fLen, fLit, fBool]
  refine ⟨fun z => absurd z (nI_ge hmost.1 (by omega)), fun _ => ?_⟩
  refine s_peek T ?_
  by_cases cm : p < m
  · rw [if_pos cm]
    have gb := (T.2.2.2.2.2.2 p (by have := T.2.2.2.2.1; omega)).2
    simp only [oT, E_Rule_readJoined, fIsA, fRt, fLen, fLit, fBool]
    refine s_levelOf gb (fun c1 => ?_) (fun c1 => ?_)
    · simp only [oT, E_Rule_readJoined, fIsA, fRt, fLen, fLit, fBool]
      refine ⟨fun z => none' (fun w => z (by rw [w.2])), fun z => ?_⟩
      have z : lvB (g p) = mode - 4 := (nI_eq (by omega) (by omega)).mp z
      refine s_peek T ?_
      rw [if_pos cm]
      simp only [oT, E_Rule_readJoined, fIsA, fRt, fLen, fLit, fBool]
      refine s_step (p := p) T.2.1 ?_
      simp only [oN, E_Rule_readJoined, fIsA, fRt, fLen, fLit, fBool, nI_1]
      rw [show mode - 4 + 1 = mode - 3 by omega]
      have f0 : Fr [57] [(56, 1), (1, 2)] τ (sI τ 1 2 (nI (p + 1))) := Fr.rf.i rfl
      refine (ih (mode - 3) k (p + 1) s (D0 + 8) _ _ (by omega) (by omega) (T.go (by omega)) (by exact h56) (by omega) cm hk (fun q τ1 h1 f1 e1 => ?_) (fun l q τ1 h1 f1 e1 e2 e3 e4 => ?_)).1.1 (by omega)
      · simp only [oT, E_Rule_readJoined, fIsA, fRt, fLen, fLit, fBool]
        exact no q τ1 (lo_n1 c4 c7 ⟨cm, z⟩ h1) (f0.tr f1) e1
      · have o1 := pR_ok f (mode - 3) k (p + 1) (some l) q (by omega) cm h1
        have o2 := o1.2 l rfl
        have o3 := (o2.2.2.1 (Or.inl (by omega))).1
        simp only [oT, E_Rule_readJoined, fIsA, fRt, fLen, fLit, fBool]
        have e1000 : (1000 : Int32) + nI (g p) = nI (1000 + g p) := nI_add 1000 (g p)
        rw [e1000]
        refine s_addStep e2 (by omega) ?_
        simp only [oT, E_Rule_readJoined, fIsA, fRt, fLen, fLit, fBool, nI_1]
        generalize hA : sI (sI τ1 57 (s + (lC l).length) (nI (1000 + g p))) 56 1 (nI (s + (lC l).length + 1)) = A
        have fA : Fr [57] [(56, 1), (1, 2)] τ A := by rw [← hA]; exact ((f0.tr f1).ic rfl).i rfl
        have a12 : A.1 1 2 = nI q := by rw [← hA]; exact e1
        have a56 : A.1 56 1 = nI (s + (lC l).length + 1) := by rw [← hA]; rfl
        have a57 : ∀ j, A.1 57 j = if j = s + (lC l).length then nI (1000 + g p) else τ1.1 57 j := fun j => by rw [← hA]; simp only [sI_1, reduceIte, Nat.reduceEqDiff]
        have lap : lC (l ++ [(2, g p)]) = lC l ++ [nI (1000 + g p)] := by rw [lC_app]; rfl
        have aNew : ∀ j, j < (lC (l ++ [(2, g p)])).length → A.1 57 (s + j) = (lC (l ++ [(2, g p)])).getD j 0 := fun j hj => by
          rw [lap] at hj ⊢
          rw [List.length_append] at hj
          have hj : j < (lC l).length + 1 := hj
          by_cases c : j < (lC l).length
          · rw [getD_app.1 c, a57, if_neg (by omega)]; exact e3 j c
          · rw [getD_app.2 (by omega), a57, if_pos (by omega), show j - (lC l).length = 0 by omega]; rfl
        have aOld : ∀ j, j < s → A.1 57 j = τ.1 57 j := fun j hj => by
          rw [a57, if_neg (by omega)]; exact e4 j hj
        have len1 : (lC (l ++ [(2, g p)])).length = (lC l).length + 1 := by rw [lap, List.length_append]; rfl
        by_cases c44 : mode = 4
        · subst c44
          have i0 := hi0 rfl
          subst i0
          rw [Rs_eq]
          simp only [E_Rule_readJoined, fIsA, fRt, fLen, fLit, fBool]
          refine ⟨fun _ => ?_, fun w => absurd (Int32.le_refl _) w⟩
          exact yes _ q A (lo_4 ⟨cm, z⟩ h1) fA a12 (by rw [len1, a56, Nat.add_assoc]) aNew aOld
        · refine (ih mode k q (s + (lC l).length + 1) (D0 + 8) A Q (by omega) (by omega) (T.fr fA rfl a12 (by omega)) a56 (by omega) o1.1.2 hk (fun q2 τ2 h2 f2 d1 => no q2 τ2 (lo_n2 (by omega) c7 ⟨cm, z⟩ h1 h2) (fA.tr f2) d1) (fun l2 q2 τ2 h2 f2 d1 d2 d3 d4 => ?_)).2 (i + 1) _ c4 c7 (fun w => absurd w c44) (by omega)
          have lap2 : l ++ (2, g p) :: l2 = (l ++ [(2, g p)]) ++ l2 := by rw [List.append_assoc]; rfl
          refine yes (l ++ (2, g p) :: l2) q2 τ2 (lo_y (by omega) c7 ⟨cm, z⟩ h1 h2) (fA.tr f2) d1 ?_ (fun j hj => ?_) (fun j hj => ?_)
          · rw [d2, lap2, lC_app, List.length_append, len1]
            congr 1
            omega
          · rw [lap2, lC_app] at hj ⊢
            rw [List.length_append] at hj
            by_cases c : j < (lC (l ++ [(2, g p)])).length
            · rw [getD_app.1 c, d4 _ (by omega)]; exact aNew j c
            · rw [getD_app.2 (by omega), ← d3 (j - (lC (l ++ [(2, g p)])).length) (by omega), show s + (lC l).length + 1 + (j - (lC (l ++ [(2, g p)])).length) = s + j by omega]
          · rw [d4 j (by omega)]; exact aOld j hj
    · simp only [oT, E_Rule_readJoined, fIsA, fRt, fLen, fLit, fBool]
      exact ⟨fun _ => none' (fun w => c1 (by omega)), fun z => absurd z.symm (nIm (by omega))⟩
  · rw [if_neg cm]
    simp only [oT, E_Rule_readJoined, fIsA, fRt, fLen, fLit, fBool]
    refine s_levelOfE ?_
    simp only [oT, E_Rule_readJoined, fIsA, fRt, fLen, fLit, fBool]
    exact ⟨fun _ => none' (fun w => cm w.1), fun z => absurd z.symm (nIm (by omega))⟩
end CR
