/-! RULES worked out -/
def SK (f : Nat → Int32) : List Int32 → Prop
  | [] => True
  | x :: r => f r.length = x ∧ SK f r
theorem SK_up {f g : Nat → Int32} : ∀ {st : List Int32}, SK f st → (∀ j, j < st.length → g j = f j) → SK g st
  | [], _, _ => trivial
  | x :: r, h, e => ⟨by rw [e _ (by simp)]; exact h.1, SK_up h.2 (fun j hj => e j (by simp; omega))⟩
theorem rho {ρ : Nat} (h : ρ = 53 ∨ ρ = 56) : isA 5 ρ ∧ rtab ρ 0 = ρ + 1 ∧ rtab ρ 2 = ρ + 2 ∧ len (ρ + 1) = 40 ∧ len (ρ + 2) = 40 ∧ isA 14 (ρ + 1) ∧ isA 14 (ρ + 2) := by
  rcases h with rfl | rfl <;> simp only [Nat.reduceAdd, fIsA, fRt, fLen, and_self]
section RW
variable {d ρ n : Nat} {Q : Qt} {τ : St}
theorem s_push (hρ : ρ = 53 ∨ ρ = 56) {k : Nat} {x : Int32} (h : τ.1 ρ 3 = nI k) (hk : k < 40) (hQ : Q none (sI (sI τ (ρ + 2) k x) ρ 3 (nI (k + 1)))) : Cl (d + 1) m_Rule_push [.ref ρ, .int x] τ Q := by
  obtain ⟨r1, r2, r3, r4, r5, r6, r7⟩ := rho hρ
  have ne : (ρ = ρ + 2) = False := eq_false (by omega)
  rw [N_Rule_push]
  simp only [E_Rule_push, fIsA, fRt, fLen, fLit, fBool, r1, r2, r3, r4, r5, r6, r7, h, sI_1, ne, reduceIte, nI_1]
  refine ⟨fun z => absurd z (nI_pos (by omega)), fun _ => ⟨fun z => absurd z (nI_ge (b := 40) (by omega) (by omega)), fun _ => ⟨vp_in_nI (by omega) (by omega), ?_⟩⟩⟩
  rw [nI_clamp (by omega)]
  exact hQ
theorem s_pop (hρ : ρ = 53 ∨ ρ = 56) {k : Nat} (h : τ.1 ρ 3 = nI (k + 1)) (hk : k < 40) (hQ : Q (some (.int (τ.1 (ρ + 2) k))) (sI τ ρ 3 (nI k))) : Cl (d + 1) m_Rule_pop [.ref ρ] τ Q := by
  obtain ⟨r1, r2, r3, r4, r5, r6, r7⟩ := rho hρ
  have ne : (ρ + 2 = ρ) = False := eq_false (by omega)
  rw [N_Rule_pop]
  simp only [E_Rule_pop, fIsA, fRt, fLen, fLit, fBool, r1, r2, r3, r4, r5, r6, r7, h, sI_1, ne, reduceIte, nI_pred]
  refine ⟨fun z => absurd z (nI_nlt (b := 1) (by omega) (by omega)), fun _ => ⟨fun _ => ⟨vp_in_nI (by omega) (by omega), ?_⟩, fun z => absurd (nI_le (b := 40) (by omega) (by omega)) z⟩⟩
  rw [nI_clamp (by omega)]
  exact hQ
theorem s_joined {k y x : Int32} (hQ : Q (some (.int (jnC k y x))) τ) : Cl (d + 1) m_Rule_joined [.int k, .int y, .int x] τ Q := by
  rw [N_Rule_joined]
  simp only [E_Rule_joined, fIsA, fRt, fLen, fLit, fBool]
  unfold jnC at hQ
  refine ⟨fun q hq hx => ?_, fun hn => ?_⟩
  · simp only [List.mem_cons, List.not_mem_nil, or_false] at hq
    rcases hq with rfl | rfl | rfl | rfl | rfl | rfl
    · subst hx
      rw [if_neg (by decide), if_neg (by decide), if_pos rfl] at hQ
      simp only [E_Rule_joined, fIsA, fRt, fLen, fLit, fBool]
      exact hQ
    · subst hx
      rw [if_pos rfl] at hQ
      simp only [E_Rule_joined, fIsA, fRt, fLen, fLit, fBool]
      exact hQ
    · subst hx
      rw [if_neg (by decide), if_pos rfl] at hQ
      simp only [E_Rule_joined, fIsA, fRt, fLen, fLit, fBool]
      exact hQ
    · subst hx
      rw [if_neg (by decide), if_neg (by decide), if_neg (by decide), if_pos rfl] at hQ
      simp only [E_Rule_joined, fIsA, fRt, fLen, fLit, fBool]
      refine ⟨fun z => ⟨z, ?_⟩, fun z => ?_⟩
      · rwa [if_neg z] at hQ
      · rwa [if_pos z] at hQ
    · subst hx
      rw [if_neg (by decide), if_neg (by decide), if_neg (by decide), if_neg (by decide), if_pos rfl] at hQ
      simp only [E_Rule_joined, fIsA, fRt, fLen, fLit, fBool]
      refine ⟨fun z => ?_, fun z => ?_⟩
      · rwa [if_neg (nlt z)] at hQ
      · rwa [if_pos (Int32.not_le.mp z)] at hQ
    · subst hx
      rw [if_neg (by decide), if_neg (by decide), if_neg (by decide), if_neg (by decide), if_neg (by decide), if_pos rfl] at hQ
      simp only [E_Rule_joined, fIsA, fRt, fLen, fLit, fBool]
      refine ⟨fun z => ?_, fun z => ?_⟩
      · rwa [if_neg (nlt z)] at hQ
      · rwa [if_pos (Int32.not_le.mp z)] at hQ
  · rw [if_neg (hn (43, 60) (by decide)), if_neg (hn (45, 64) (by decide)), if_neg (hn (42, 68) (by decide)), if_neg (hn (47, 72) (by decide)), if_neg (hn (60, 84) (by decide)), if_neg (hn (62, 95) (by decide))] at hQ
    refine ⟨fun z => ?_, fun z => ?_⟩
    · rwa [if_neg z] at hQ
    · rwa [if_pos z] at hQ
theorem s_Mworked {k y x : Int32} (hQ : Q (some (.int (jnM k y x))) τ) : Cl (d + 2) m_M_worked [.int k, .int x, .int y] τ Q := by
  rw [N_M_worked]
  simp only [E_M_worked, fIsA, fRt, fLen, fLit, fBool]
  unfold jnM at hQ
  refine ⟨fun q hq hx => ?_, fun hn => ?_⟩
  · simp only [List.mem_cons, List.not_mem_nil, or_false] at hq
    rcases hq with rfl | rfl | rfl | rfl | rfl | rfl
    · subst hx
      rw [if_pos rfl] at hQ
      simp only [E_M_worked, fIsA, fRt, fLen, fLit, fBool]
      refine ⟨fun z => ?_, fun z => ?_⟩
      · rw [if_neg (nlt z)] at hQ
        refine s_flag (Or.inl rfl) ?_
        simp only [oT, E_M_worked, fIsA, fRt, fLen, fLit, fBool]
        exact hQ
      · rw [if_pos (Int32.not_le.mp z)] at hQ
        refine s_flag (Or.inr rfl) ?_
        simp only [oT, E_M_worked, fIsA, fRt, fLen, fLit, fBool]
        exact hQ
    · subst hx
      rw [if_neg (by decide), if_pos rfl] at hQ
      simp only [E_M_worked, fIsA, fRt, fLen, fLit, fBool]
      refine ⟨fun z => ?_, fun z => ?_⟩
      · rw [if_neg (nlt z)] at hQ
        refine s_flag (Or.inl rfl) ?_
        simp only [oT, E_M_worked, fIsA, fRt, fLen, fLit, fBool]
        exact hQ
      · rw [if_pos (Int32.not_le.mp z)] at hQ
        refine s_flag (Or.inr rfl) ?_
        simp only [oT, E_M_worked, fIsA, fRt, fLen, fLit, fBool]
        exact hQ
    · subst hx
      rw [if_neg (by decide), if_neg (by decide), if_pos rfl] at hQ
      simp only [E_M_worked, fIsA, fRt, fLen, fLit, fBool]
      refine ⟨fun z => ?_, fun z => ?_⟩
      · rw [if_neg (z)] at hQ
        refine s_flag (Or.inl rfl) ?_
        simp only [oT, E_M_worked, fIsA, fRt, fLen, fLit, fBool]
        exact hQ
      · rw [if_pos (z)] at hQ
        refine s_flag (Or.inr rfl) ?_
        simp only [oT, E_M_worked, fIsA, fRt, fLen, fLit, fBool]
        exact hQ
    · subst hx
      rw [if_neg (by decide), if_neg (by decide), if_neg (by decide), if_pos rfl] at hQ
      simp only [E_M_worked, fIsA, fRt, fLen, fLit, fBool]
      exact hQ
    · subst hx
      rw [if_neg (by decide), if_neg (by decide), if_neg (by decide), if_neg (by decide), if_pos rfl] at hQ
      simp only [E_M_worked, fIsA, fRt, fLen, fLit, fBool]
      exact hQ
    · subst hx
      rw [if_neg (by decide), if_neg (by decide), if_neg (by decide), if_neg (by decide), if_neg (by decide), if_pos rfl] at hQ
      simp only [E_M_worked, fIsA, fRt, fLen, fLit, fBool]
      exact hQ
  · rw [if_neg (hn (0, 40) (by decide)), if_neg (hn (1, 54) (by decide)), if_neg (hn (2, 68) (by decide)), if_neg (hn (3, 82) (by decide)), if_neg (hn (4, 86) (by decide)), if_neg (hn (5, 90) (by decide))] at hQ
    refine ⟨fun z => ⟨z, ?_⟩, fun z => ?_⟩
    · rwa [if_neg z] at hQ
    · rwa [if_pos z] at hQ
end RW
