/-! RULES told: the reference reads -/
theorem am1 : ∀ b, b < 256 → ixO (sBy.getD 1 []) 0 (nI b) = if isLt b then nI (ltN b) else -1 := by decide +kernel
theorem am2 : ∀ b, b < 256 → ixO (sBy.getD 2 []) 0 (nI b) = if lvB b = 0 then nI (opN b) else -1 := by decide +kernel
theorem am3 : ∀ b, b < 256 → ixO (sBy.getD 3 []) 0 (nI b) = if lvB b = 1 then nI (opN b - 3) else -1 := by decide +kernel
theorem am4 : ∀ b, b < 256 → ixO (sBy.getD 4 []) 0 (nI b) = if lvB b = 2 then nI (opN b - 5) else -1 := by decide +kernel
theorem amG {i : Nat} {g : Nat → Nat} {p m : Nat} {P : Nat → Prop} {X : Nat → Nat} (h : ∀ b, b < 256 → (P b → ixO (sBy.getD i []) 0 (nI b) = nI (X b)) ∧ (¬ P b → ixO (sBy.getD i []) 0 (nI b) = -1)) (hg : p < m → g p < 256) : (p < m ∧ P (g p) → amO i g p m = nI (X (g p))) ∧ (¬ (p < m ∧ P (g p)) → amO i g p m = -1) := by
  refine ⟨fun c => ?_, fun c => ?_⟩
  · unfold amO
    rw [if_pos c.1]
    exact (h _ (hg c.1)).1 c.2
  · unfold amO
    by_cases q : p < m
    · rw [if_pos q]
      exact (h _ (hg q)).2 (fun z => c ⟨q, z⟩)
    · rw [if_neg q]
theorem opN_lv {b : Nat} : (lvB b = 1 → 3 ≤ opN b) ∧ (lvB b = 2 → 5 ≤ opN b) ∧ opN b ≤ 6 := by
  have h6 : opN b ≤ 6 := by unfold opN; split <;> (try split) <;> (try split) <;> (try split) <;> (try split) <;> (try split) <;> omega
  refine ⟨fun h => ?_, fun h => ?_, h6⟩
  · rcases lvB_op (show lvB b < 3 by omega) with rfl | rfl | rfl | rfl | rfl | rfl | rfl <;> revert h <;> decide
  · rcases lvB_op (show lvB b < 3 by omega) with rfl | rfl | rfl | rfl | rfl | rfl | rfl <;> revert h <;> decide
theorem s_codes {d s : Nat} {v : Int32} {Q : Qt} {τ : St} (h : τ.1 69 25 = nI s) (hs : s < 80) (hQ : Q none (sI (sI τ 81 s v) 69 25 (nI (s + 1)))) : Cl (d + 1) m_M_codes [.ref 69, .int v] τ Q := by
  rw [N_M_codes]
  simp only [E_M_codes, fIsA, fRt, fLen, fLit, fBool, h, nI_clamp (show s < 2 ^ 31 by omega), sI_1, reduceIte, Nat.reduceEqDiff, nI_1]
  exact ⟨vp_in_nI (by omega) (by omega), hQ⟩
/-- what the reference's reading leaves -/
def MN (Q : Qt) (τ : St) (g : Nat → Nat) (m f mode k p s : Nat) : Prop := ∀ q τ', pR g m f mode k p = (none, q) → Fr [81] [(69, 15), (69, 17), (69, 25)] τ τ' → τ'.1 69 15 = nI q → (∃ s', τ'.1 69 25 = nI s' ∧ s' + p ≤ s + q) → Q (some (.int 0)) τ'
def MY (Q : Qt) (τ : St) (g : Nat → Nat) (m f mode k p s : Nat) : Prop := ∀ l q τ', pR g m f mode k p = (some l, q) → Fr [81] [(69, 15), (69, 17), (69, 25)] τ τ' → τ'.1 69 15 = nI q → τ'.1 69 17 = nI k → τ'.1 69 25 = nI (s + (lM l).length) → (∀ j, j < (lM l).length → τ'.1 81 (s + j) = (lM l).getD j 0) → (∀ j, j < s → τ'.1 81 j = τ.1 81 j) → Q (some (.int 1)) τ'
def MRead (g : Nat → Nat) (n m f : Nat) : Prop := ∀ (mode k p s D : Nat) (τ : St) (Q : Qt), 2 * f + (m - p) + 20 ≤ D → 8 * (m - p) + wM mode ≤ f → MR τ g n p m → τ.1 69 25 = nI s → τ.1 69 17 = nI k → s ≤ p → p ≤ m → k ≤ 4 → MN Q τ g m f mode k p s → MY Q τ g m f mode k p s →
  ((mode ≤ 3 → Cl D m_M_readsRank [.ref 69, .int (nI mode)] τ Q) ∧ (mode = 7 → ¬ (p < m ∧ g p = 45) → Cl D m_M_readsThing [.ref 69] τ Q)) ∧
  ∀ (l : Option Value), 4 ≤ mode → mode < 7 → Rs M_M_readsRank D Q 24 [some (.ref 69), some (.int (nI (mode - 4))), some (.int 1), l] [] τ
section MRS
variable {g : Nat → Nat} {n m f : Nat}
theorem m_rank (hm : m ≤ 40) (ih : MRead g n m f) {mode k p s D : Nat} {τ : St} {Q : Qt} (hD : 2 * (f + 1) + (m - p) + 20 ≤ D) (hf : 8 * (m - p) + wM mode ≤ f + 1) (M : MR τ g n p m) (h25 : τ.1 69 25 = nI s) (h17 : τ.1 69 17 = nI k) (hs : s ≤ p) (hp : p ≤ m) (hk : k ≤ 4) (no : MN Q τ g m (f + 1) mode k p s) (yes : MY Q τ g m (f + 1) mode k p s) (c3 : mode < 3) : Cl D m_M_readsRank [.ref 69, .int (nI mode)] τ Q := by
  obtain ⟨D0, rfl⟩ : ∃ D0, D = D0 + 8 := ⟨D - 8, by omega⟩
  have w1 : wM (mode + 1) + 1 ≤ wM mode := by rcases (show mode = 0 ∨ mode = 1 ∨ mode = 2 by omega) with rfl | rfl | rfl <;> decide
  have w2 : wM (mode + 4) ≤ 6 := by rcases (show mode = 0 ∨ mode = 1 ∨ mode = 2 by omega) with rfl | rfl | rfl <;> decide
  have w3 : 3 ≤ wM mode := by rcases (show mode = 0 ∨ mode = 1 ∨ mode = 2 by omega) with rfl | rfl | rfl <;> decide
  rw [N_M_readsRank]
  simp only [E_M_readsRank, fIsA, fRt, fLen, fLit, fBool, nI_1]
  refine ⟨fun _ => ?_, fun z => absurd ((nI_eq (b := 3) (by omega) (by omega)).mp z) (by omega)⟩
  refine (ih (mode + 1) k p s (D0 + 7) τ _ (by omega) (by omega) M h25 h17 hs hp hk (fun q τ1 h1 f1 e1 b1 => ?_) (fun l q τ1 h1 f1 e1 e17 e2 e3 e4 => ?_)).1.1 (by omega)
  · simp only [oT, E_M_readsRank, fIsA, fRt, fLen, fLit, fBool]
    exact no q τ1 (pr_n1 c3 h1) f1 e1 b1
  · have o1 := pR_ok f (mode + 1) k p (some l) q (by omega) hp h1
    have o2 := o1.2 l rfl
    have o3 := (o2.2.2.1 (Or.inl (by omega))).1
    have M1 : MR τ1 g n q m := M.fr f1 rfl e1 (by omega)
    have loop := (ih (mode + 4) k q (s + (lM l).length) (D0 + 7) τ1 Q (by omega) (by omega) M1 e2 e17 (by omega) o1.1.2 hk (fun q2 τ2 h2 f2 d1 dd => no q2 τ2 (pr_n2 c3 h1 h2) (f1.tr f2) d1 (by obtain ⟨s', d2, d3⟩ := dd; exact ⟨s', d2, by omega⟩)) (fun l2 q2 τ2 h2 f2 d1 d17 d2 d3 d4 => ?_)).2 none (by omega) (by omega)
    · rw [show mode + 4 - 4 = mode by omega] at loop
      simp only [oT, E_M_readsRank, fIsA, fRt, fLen, fLit, fBool]
      exact loop
    · refine yes (l ++ l2) q2 τ2 (pr_y c3 h1 h2) (f1.tr f2) d1 d17 ?_ (fun j hj => ?_) (fun j hj => ?_)
      · rw [d2, lM_app, List.length_append, Nat.add_assoc]
      · rw [lM_app] at hj ⊢
        rw [List.length_append] at hj
        by_cases c : j < (lM l).length
        · rw [getD_app.1 c, d4 _ (by omega)]; exact e3 j c
        · rw [getD_app.2 (by omega), ← d3 (j - (lM l).length) (by omega), show s + (lM l).length + (j - (lM l).length) = s + j by omega]
      · rw [d4 j (by omega)]; exact e4 j hj
theorem m_loop (hm : m ≤ 40) (ih : MRead g n m f) {mode k p s D : Nat} {τ : St} {Q : Qt} (hD : 2 * (f + 1) + (m - p) + 20 ≤ D) (hf : 8 * (m - p) + wM mode ≤ f + 1) (M : MR τ g n p m) (h25 : τ.1 69 25 = nI s) (h17 : τ.1 69 17 = nI k) (hs : s ≤ p) (hp : p ≤ m) (hk : k ≤ 4) (no : MN Q τ g m (f + 1) mode k p s) (yes : MY Q τ g m (f + 1) mode k p s) (lo : Option Value) (c4 : 4 ≤ mode) (c7 : mode < 7) : Rs M_M_readsRank D Q 24 [some (.ref 69), some (.int (nI (mode - 4))), some (.int 1), lo] [] τ := by
  obtain ⟨D0, rfl⟩ : ∃ D0, D = D0 + 8 := ⟨D - 8, by omega⟩
  have hmn : m ≤ n ∧ n ≤ 80 := ⟨M.2.2.2.1, M.2.2.2.2.1⟩
  have w2 : wM mode = 6 := by rcases (show mode = 4 ∨ mode = 5 ∨ mode = 6 by omega) with rfl | rfl | rfl <;> rfl
  have w3 : wM (mode - 3) ≤ 4 := by rcases (show mode = 4 ∨ mode = 5 ∨ mode = 6 by omega) with rfl | rfl | rfl <;> decide
  have ol := @opN_lv (g p)
  have hg : p < m → g p < 256 := fun h => (M.2.2.2.2.2 p (by omega)).2
  -- the block behind the choice of signs: i, what is added
  have blk : ∀ (i off : Nat), i < 6 → (p < m ∧ lvB (g p) = mode - 4 → amO i g p m = nI (opN (g p) - off)) → (¬ (p < m ∧ lvB (g p) = mode - 4) → amO i g p m = -1) → (lvB (g p) = mode - 4 → off ≤ opN (g p)) → (mode = 4 → off = 0) → (mode = 5 → off = 3) → (mode = 6 → off = 5) → Rs M_M_readsRank (D0 + 8) Q 50 [some (.ref 69), some (.int (nI (mode - 4))), some (.int 1), lo] [.ref (1000 + i), .ref 69] τ := fun i off hi a1 a2 hoff o4 o5 o6 => by
    rw [Rs_eq]
    simp only [E_M_readsRank, fIsA, fRt, fLen, fLit, fBool]
    by_cases c : p < m ∧ lvB (g p) = mode - 4
    · have av := a1 c
      refine s_takesOf M hi (fun w => absurd w (by rw [av]; exact nI_pos (by omega))) (fun _ => ?_)
      rw [av]
      simp only [oT, E_M_readsRank, fIsA, fRt, fLen, fLit, fBool, nI_1]
      refine ⟨fun _ => ?_, fun z => absurd (nI_pos' (by omega)) z⟩
      rw [show mode - 4 + 1 = mode - 3 by omega]
      have f0 : Fr [81] [(69, 15), (69, 17), (69, 25)] τ (sI τ 69 15 (nI (p + 1))) := Fr.rf.i rfl
      refine (ih (mode - 3) k (p + 1) s (D0 + 8) _ _ (by omega) (by omega) (M.go (by omega)) (by exact h25) (by exact h17) (by omega) c.1 hk (fun q τ1 h1 f1 e1 bb => ?_) (fun l q τ1 h1 f1 e1 e17 e2 e3 e4 => ?_)).1.1 (by omega)
      · obtain ⟨s', b1, b2⟩ := bb
        simp only [oT, E_M_readsRank, fIsA, fRt, fLen, fLit, fBool]
        exact no q τ1 (lo_n1 c4 c7 c h1) (f0.tr f1) e1 ⟨s', b1, by omega⟩
      · have o1 := pR_ok f (mode - 3) k (p + 1) (some l) q (by omega) c.1 h1
        have o2 := o1.2 l rfl
        have o3 := (o2.2.2.1 (Or.inl (by omega))).1
        have lap : lM (l ++ [(2, g p)]) = lM l ++ [nI (2000 + opN (g p))] := by rw [lM_app]; rfl
        have len1 : (lM (l ++ [(2, g p)])).length = (lM l).length + 1 := by rw [lap, List.length_append]; rfl
        have ec : ∀ x : Nat, x = off → (2000 : Int32) + nI (opN (g p) - off) + nI x = nI (2000 + opN (g p)) := fun x hx => by
          have := hoff c.2
          rw [hx, show (2000 : Int32) + nI (opN (g p) - off) = nI (2000 + (opN (g p) - off)) from nI_add 2000 _, nI_add]
          congr 1
          omega
        -- the code is laid
        have cod : ∀ (Q' : Qt), (∀ A : St, Fr [81] [(69, 15), (69, 17), (69, 25)] τ A → A.1 69 15 = nI q → A.1 69 17 = nI k → A.1 69 25 = nI (s + (lM l).length + 1) → (∀ j, j < (lM (l ++ [(2, g p)])).length → A.1 81 (s + j) = (lM (l ++ [(2, g p)])).getD j 0) → (∀ j, j < s → A.1 81 j = τ.1 81 j) → Q' none A) → Cl (D0 + 8) m_M_codes [.ref 69, .int (nI (2000 + opN (g p)))] τ1 Q' := fun Q' hA => by
          refine s_codes e2 (by omega) (hA _ (((f0.tr f1).ic rfl).i rfl) e1 e17 rfl (fun j hj => ?_) (fun j hj => ?_))
          · rw [lap] at hj ⊢
            rw [List.length_append] at hj
            have hj : j < (lM l).length + 1 := hj
            simp only [sI_1, reduceIte, Nat.reduceEqDiff]
            by_cases c : j < (lM l).length
            · rw [getD_app.1 c, if_neg (by omega)]; exact e3 j c
            · rw [getD_app.2 (by omega), if_pos (by omega), show j - (lM l).length = 0 by omega]; rfl
          · simp only [sI_1, reduceIte, Nat.reduceEqDiff]
            rw [if_neg (by omega)]
            exact e4 j hj
        -- on with the loop
        have go : ∀ (A : St) (lv : Option Value), mode ≠ 4 → Fr [81] [(69, 15), (69, 17), (69, 25)] τ A → A.1 69 15 = nI q → A.1 69 17 = nI k → A.1 69 25 = nI (s + (lM l).length + 1) → (∀ j, j < (lM (l ++ [(2, g p)])).length → A.1 81 (s + j) = (lM (l ++ [(2, g p)])).getD j 0) → (∀ j, j < s → A.1 81 j = τ.1 81 j) → Rs M_M_readsRank (D0 + 8) Q 24 [some (.ref 69), some (.int (nI (mode - 4))), some (.int 1), lv] [] A := fun A lv c44 fA a15 a17 a25 aNew aOld => by
          refine (ih mode k q (s + (lM l).length + 1) (D0 + 8) A Q (by omega) (by omega) (M.fr fA rfl a15 (by omega)) a25 a17 (by omega) o1.1.2 hk (fun q2 τ2 h2 f2 d1 dd => no q2 τ2 (lo_n2 (by omega) c7 c h1 h2) (fA.tr f2) d1 (by obtain ⟨s', d2, d3⟩ := dd; exact ⟨s', d2, by omega⟩)) (fun l2 q2 τ2 h2 f2 d1 d17 d2 d3 d4 => ?_)).2 lv c4 c7
          have lap2 : l ++ (2, g p) :: l2 = (l ++ [(2, g p)]) ++ l2 := by rw [List.append_assoc]; rfl
          refine yes (l ++ (2, g p) :: l2) q2 τ2 (lo_y (by omega) c7 c h1 h2) (fA.tr f2) d1 d17 ?_ (fun j hj => ?_) (fun j hj => ?_)
          · rw [d2, lap2, lM_app, List.length_append, len1]
            congr 1
            omega
          · rw [lap2, lM_app] at hj ⊢
            rw [List.length_append] at hj
            by_cases c : j < (lM (l ++ [(2, g p)])).length
            · rw [getD_app.1 c, d4 _ (by omega)]; exact aNew j c
            · rw [getD_app.2 (by omega), ← d3 (j - (lM (l ++ [(2, g p)])).length) (by omega), show s + (lM l).length + 1 + (j - (lM (l ++ [(2, g p)])).length) = s + j by omega]
          · rw [d4 j (by omega)]; exact aOld j hj
        simp only [oT, E_M_readsRank, fIsA, fRt, fLen, fLit, fBool]
        refine ⟨fun z => ⟨fun z1 => ?_, fun z1 => ?_⟩, fun z => ?_⟩
        · have m6 : mode = 6 := by
            have a : mode - 4 ≠ 0 := fun w => z (by rw [w]; rfl)
            have b : mode - 4 ≠ 1 := fun w => z1 (by rw [w]; rfl)
            omega
          rw [show (2000 : Int32) + nI (opN (g p) - off) + 5 = nI (2000 + opN (g p)) from ec 5 (o6 m6).symm]
          refine cod _ (fun A fA a15 a17 a25 aNew aOld => ?_)
          simp only [oN, E_M_readsRank, fIsA, fRt, fLen, fLit, fBool]
          refine ⟨fun w => absurd ((nI_leI (b := 0) (by omega) (by omega)).mp w) (by omega), fun _ => go A _ (by omega) fA a15 a17 a25 aNew aOld⟩
        · have m5 : mode = 5 := by have := (nI_eq (b := 1) (by omega) (by omega)).mp z1; omega
          rw [show (2000 : Int32) + nI (opN (g p) - off) + 3 = nI (2000 + opN (g p)) from ec 3 (o5 m5).symm]
          refine cod _ (fun A fA a15 a17 a25 aNew aOld => ?_)
          simp only [oN, E_M_readsRank, fIsA, fRt, fLen, fLit, fBool]
          refine ⟨fun w => absurd ((nI_leI (b := 0) (by omega) (by omega)).mp w) (by omega), fun _ => go A _ (by omega) fA a15 a17 a25 aNew aOld⟩
        · have m4 : mode = 4 := by have := (nI_eq (b := 0) (by omega) (by omega)).mp z; omega
          rw [show (2000 : Int32) + nI (opN (g p) - off) + 0 = nI (2000 + opN (g p)) from ec 0 (o4 m4).symm]
          refine cod _ (fun A fA a15 a17 a25 aNew aOld => ?_)
          simp only [oN, E_M_readsRank, fIsA, fRt, fLen, fLit, fBool]
          refine ⟨fun _ => ?_, fun w => absurd (nI_le (b := 0) (by omega) (by omega)) w⟩
          rw [Rs_eq]
          simp only [E_M_readsRank, fIsA, fRt, fLen, fLit, fBool]
          subst m4
          exact yes _ q A (lo_4 c h1) fA a15 a17 (by rw [len1, a25, Nat.add_assoc]) aNew aOld
    · have av := a2 c
      refine s_takesOf M hi (fun _ => ?_) (fun w => absurd (by rw [av]; decide) w)
      rw [av]
      simp only [oT, E_M_readsRank, fIsA, fRt, fLen, fLit, fBool]
      exact yes [] p τ (lo_0 c4 c7 c) Fr.rf M.1 h17 h25 (fun j hj => absurd hj (Nat.not_lt_zero j)) (fun _ _ => rfl)
  rw [Rs_eq]
  simp only [E_M_readsRank, fIsA, fRt, fLen, fLit, fBool]
  refine ⟨fun z => ⟨fun z1 => ?_, fun z1 => ?_⟩, fun z => ?_⟩
  · have m6 : mode = 6 := by
      have a : mode - 4 ≠ 0 := fun w => z (by rw [w]; rfl)
      have b : mode - 4 ≠ 1 := fun w => z1 (by rw [w]; rfl)
      omega
    have a := amG (i := 4) (P := fun b => lvB b = 2) (X := fun b => opN b - 5) (g := g) (p := p) (m := m) (fun b hb => ⟨fun c => by rw [am4 b hb, if_pos c], fun c => by rw [am4 b hb, if_neg c]⟩) hg
    exact blk 4 5 (by omega) (fun c => a.1 ⟨c.1, by show lvB (g p) = 2; omega⟩) (fun c => a.2 (fun w => c ⟨w.1, by have : lvB (g p) = 2 := w.2; omega⟩)) (fun w => ol.2.1 (by omega)) (fun w => by omega) (fun w => by omega) (fun _ => rfl)
  · have m5 : mode = 5 := by have := (nI_eq (b := 1) (by omega) (by omega)).mp z1; omega
    have a := amG (i := 3) (P := fun b => lvB b = 1) (X := fun b => opN b - 3) (g := g) (p := p) (m := m) (fun b hb => ⟨fun c => by rw [am3 b hb, if_pos c], fun c => by rw [am3 b hb, if_neg c]⟩) hg
    exact blk 3 3 (by omega) (fun c => a.1 ⟨c.1, by show lvB (g p) = 1; omega⟩) (fun c => a.2 (fun w => c ⟨w.1, by have : lvB (g p) = 1 := w.2; omega⟩)) (fun w => ol.1 (by omega)) (fun w => by omega) (fun _ => rfl) (fun w => by omega)
  · have m4 : mode = 4 := by have := (nI_eq (b := 0) (by omega) (by omega)).mp z; omega
    have a := amG (i := 2) (P := fun b => lvB b = 0) (X := fun b => opN b) (g := g) (p := p) (m := m) (fun b hb => ⟨fun c => by rw [am2 b hb, if_pos c], fun c => by rw [am2 b hb, if_neg c]⟩) hg
    exact blk 2 0 (by omega) (fun c => a.1 ⟨c.1, by show lvB (g p) = 0; omega⟩) (fun c => a.2 (fun w => c ⟨w.1, by have : lvB (g p) = 0 := w.2; omega⟩)) (fun _ => Nat.zero_le _) (fun _ => rfl) (fun w => by omega) (fun w => by omega)
end MRS
