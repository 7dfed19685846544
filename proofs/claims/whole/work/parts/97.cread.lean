/-! RULES told: the class reads -/
def swL : List (Int32 × Nat) := [(42, 104), (43, 102), (44, 106), (45, 102), (46, 106), (47, 104), (48, 106), (49, 106), (50, 106), (51, 106), (52, 106), (53, 106), (54, 106), (55, 106), (56, 106), (57, 106), (58, 106), (59, 106), (60, 100), (61, 100), (62, 100)]
theorem s_levelOf {d b : Nat} {Q : Qt} {τ : St} (hb : b < 256) (h1 : lvB b < 3 → Q (some (.int (nI (lvB b)))) τ) (h0 : ¬ lvB b < 3 → Q (some (.int (-1))) τ) : Cl (d + 1) m_Rule_levelOf [.int (nI b)] τ Q := by
  rw [N_Rule_levelOf]
  simp only [E_Rule_levelOf, fIsA, fRt, fLen, fLit, fBool]
  refine ⟨fun q hq hx => ?_, fun hx => ?_⟩
  · simp only [List.mem_cons, List.not_mem_nil, or_false] at hq
    rcases hq with rfl | rfl | rfl | rfl | rfl | rfl | rfl | rfl | rfl | rfl | rfl | rfl | rfl | rfl | rfl | rfl | rfl | rfl | rfl | rfl | rfl
    · obtain rfl : b = 42 := (nI_eq (b := 42) (by omega) (by omega)).mp hx
      simp only [E_Rule_levelOf, fIsA, fRt, fLen, fLit, fBool]
      exact h1 (by decide)
    · obtain rfl : b = 43 := (nI_eq (b := 43) (by omega) (by omega)).mp hx
      simp only [E_Rule_levelOf, fIsA, fRt, fLen, fLit, fBool]
      exact h1 (by decide)
    · obtain rfl : b = 44 := (nI_eq (b := 44) (by omega) (by omega)).mp hx
      simp only [E_Rule_levelOf, fIsA, fRt, fLen, fLit, fBool]
      exact h0 (by decide)
    · obtain rfl : b = 45 := (nI_eq (b := 45) (by omega) (by omega)).mp hx
      simp only [E_Rule_levelOf, fIsA, fRt, fLen, fLit, fBool]
      exact h1 (by decide)
    · obtain rfl : b = 46 := (nI_eq (b := 46) (by omega) (by omega)).mp hx
      simp only [E_Rule_levelOf, fIsA, fRt, fLen, fLit, fBool]
      exact h0 (by decide)
    · obtain rfl : b = 47 := (nI_eq (b := 47) (by omega) (by omega)).mp hx
      simp only [E_Rule_levelOf, fIsA, fRt, fLen, fLit, fBool]
      exact h1 (by decide)
    · obtain rfl : b = 48 := (nI_eq (b := 48) (by omega) (by omega)).mp hx
      simp only [E_Rule_levelOf, fIsA, fRt, fLen, fLit, fBool]
      exact h0 (by decide)
    · obtain rfl : b = 49 := (nI_eq (b := 49) (by omega) (by omega)).mp hx
      simp only [E_Rule_levelOf, fIsA, fRt, fLen, fLit, fBool]
      exact h0 (by decide)
    · obtain rfl : b = 50 := (nI_eq (b := 50) (by omega) (by omega)).mp hx
      simp only [E_Rule_levelOf, fIsA, fRt, fLen, fLit, fBool]
      exact h0 (by decide)
    · obtain rfl : b = 51 := (nI_eq (b := 51) (by omega) (by omega)).mp hx
      simp only [E_Rule_levelOf, fIsA, fRt, fLen, fLit, fBool]
      exact h0 (by decide)
    · obtain rfl : b = 52 := (nI_eq (b := 52) (by omega) (by omega)).mp hx
      simp only [E_Rule_levelOf, fIsA, fRt, fLen, fLit, fBool]
      exact h0 (by decide)
    · obtain rfl : b = 53 := (nI_eq (b := 53) (by omega) (by omega)).mp hx
      simp only [E_Rule_levelOf, fIsA, fRt, fLen, fLit, fBool]
      exact h0 (by decide)
    · obtain rfl : b = 54 := (nI_eq (b := 54) (by omega) (by omega)).mp hx
      simp only [E_Rule_levelOf, fIsA, fRt, fLen, fLit, fBool]
      exact h0 (by decide)
    · obtain rfl : b = 55 := (nI_eq (b := 55) (by omega) (by omega)).mp hx
      simp only [E_Rule_levelOf, fIsA, fRt, fLen, fLit, fBool]
      exact h0 (by decide)
    · obtain rfl : b = 56 := (nI_eq (b := 56) (by omega) (by omega)).mp hx
      simp only [E_Rule_levelOf, fIsA, fRt, fLen, fLit, fBool]
      exact h0 (by decide)
    · obtain rfl : b = 57 := (nI_eq (b := 57) (by omega) (by omega)).mp hx
      simp only [E_Rule_levelOf, fIsA, fRt, fLen, fLit, fBool]
      exact h0 (by decide)
    · obtain rfl : b = 58 := (nI_eq (b := 58) (by omega) (by omega)).mp hx
      simp only [E_Rule_levelOf, fIsA, fRt, fLen, fLit, fBool]
      exact h0 (by decide)
    · obtain rfl : b = 59 := (nI_eq (b := 59) (by omega) (by omega)).mp hx
      simp only [E_Rule_levelOf, fIsA, fRt, fLen, fLit, fBool]
      exact h0 (by decide)
    · obtain rfl : b = 60 := (nI_eq (b := 60) (by omega) (by omega)).mp hx
      simp only [E_Rule_levelOf, fIsA, fRt, fLen, fLit, fBool]
      exact h1 (by decide)
    · obtain rfl : b = 61 := (nI_eq (b := 61) (by omega) (by omega)).mp hx
      simp only [E_Rule_levelOf, fIsA, fRt, fLen, fLit, fBool]
      exact h1 (by decide)
    · obtain rfl : b = 62 := (nI_eq (b := 62) (by omega) (by omega)).mp hx
      simp only [E_Rule_levelOf, fIsA, fRt, fLen, fLit, fBool]
      exact h1 (by decide)
  · have ne : ∀ c pc, (c, pc) ∈ swL → ¬ nI b = c := fun c pc hm => hx (c, pc) hm
    refine h0 (fun z => ?_)
    rcases lvB_op z with rfl | rfl | rfl | rfl | rfl | rfl | rfl
    · exact ne 60 100 (by decide) rfl
    · exact ne 61 100 (by decide) rfl
    · exact ne 62 100 (by decide) rfl
    · exact ne 43 102 (by decide) rfl
    · exact ne 45 102 (by decide) rfl
    · exact ne 42 104 (by decide) rfl
    · exact ne 47 104 (by decide) rfl
theorem s_levelOfE {d : Nat} {Q : Qt} {τ : St} (h0 : Q (some (.int (-1))) τ) : Cl (d + 1) m_Rule_levelOf [.int (-1)] τ Q := by
  rw [N_Rule_levelOf]
  simp only [E_Rule_levelOf, fIsA, fRt, fLen, fLit, fBool]
  exact ⟨fun q hq hx => absurd hx ((by decide : ∀ q ∈ swL, ¬ (-1 : Int32) = q.1) q hq), fun _ => h0⟩
theorem s_addStep {d s : Nat} {v : Int32} {Q : Qt} {τ : St} (h : τ.1 56 1 = nI s) (hs : s < 40) (hQ : Q (some (.int 1)) (sI (sI τ 57 s v) 56 1 (nI (s + 1)))) : Cl (d + 1) m_Rule_addStep [.ref 56, .int v] τ Q := by
  rw [N_Rule_addStep]
  simp only [E_Rule_addStep, fIsA, fRt, fLen, fLit, fBool, h, nI_clamp (show s < 2 ^ 31 by omega), sI_1, reduceIte, Nat.reduceEqDiff, nI_1]
  exact ⟨fun z => absurd z (nI_pos (by omega)), fun _ => ⟨fun _ => ⟨vp_in_nI (by omega) (by omega), hQ⟩, fun z => absurd (nI_lt (b := 40) hs (by omega)) z⟩⟩
theorem sg_at {g : Nat → Nat} {m : Nat} : ∀ (f p : Nat), (∀ i, i < sgN g m f p → p + i < m ∧ g (p + i) = 45) ∧ (sgN g m f p < f → ¬ (p + sgN g m f p < m ∧ g (p + sgN g m f p) = 45))
  | 0, p => ⟨fun i hi => absurd hi (Nat.not_lt_zero i), fun z => absurd z (Nat.lt_irrefl 0)⟩
  | f + 1, p => by
    rw [sgN]
    by_cases c : p < m ∧ g p = 45
    · rw [if_pos c]
      have ih := sg_at (g := g) (m := m) f (p + 1)
      refine ⟨fun i hi => ?_, fun z => ?_⟩
      · by_cases e : i = 0
        · subst e; exact c
        · have := ih.1 (i - 1) (by omega)
          rw [show p + 1 + (i - 1) = p + i by omega] at this
          exact this
      · have := ih.2 (by omega)
        rw [show p + 1 + sgN g m f (p + 1) = p + (sgN g m f (p + 1) + 1) by omega] at this
        exact this
    · rw [if_neg c]
      exact ⟨fun i hi => absurd hi (Nat.not_lt_zero i), fun _ => c⟩
/-- what the class's reading leaves -/
def CN (Q : Qt) (τ : St) (g : Nat → Nat) (m f mode k p : Nat) : Prop := ∀ q τ', pR g m f mode k p = (none, q) → Fr [57] [(56, 1), (1, 2)] τ τ' → τ'.1 1 2 = nI q → Q (some (.int 0)) τ'
def CY (Q : Qt) (τ : St) (g : Nat → Nat) (m f mode k p s : Nat) : Prop := ∀ l q τ', pR g m f mode k p = (some l, q) → Fr [57] [(56, 1), (1, 2)] τ τ' → τ'.1 1 2 = nI q → τ'.1 56 1 = nI (s + (lC l).length) → (∀ j, j < (lC l).length → τ'.1 57 (s + j) = (lC l).getD j 0) → (∀ j, j < s → τ'.1 57 j = τ.1 57 j) → Q (some (.int 1)) τ'
def wM (mode : Nat) : Nat := if mode = 7 then 1 else if mode = 3 then 2 else if mode = 2 then 3 else if mode = 1 then 4 else if mode = 0 then 5 else 6
theorem getD_app {l l' : List Int32} {j : Nat} : (j < l.length → (l ++ l').getD j 0 = l.getD j 0) ∧ (l.length ≤ j → (l ++ l').getD j 0 = l'.getD (j - l.length) 0) := by
  refine ⟨fun h => ?_, fun h => ?_⟩
  · rw [List.getD_eq_getElem?_getD, List.getElem?_append_left h, List.getD_eq_getElem?_getD]
  · rw [List.getD_eq_getElem?_getD, List.getElem?_append_right h, List.getD_eq_getElem?_getD]
