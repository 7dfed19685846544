/-! WAYS: the nearest field not taken, the class -/
theorem s_Wnearest {d R C : Nat} {kd ht c : Nat → Nat} {Q : Qt} {τ : St} {U : Int64} (g : GI τ R C kd ht) (hc : ∀ f, f < R * C → τ.1 62 f = nI (c f) ∧ c f ≤ 2 ^ 30)
    (no : (∀ f, f < R * C → bitL U f = true → c f = 2 ^ 30) → Q (some (.int (-1))) τ) (yes : ∀ p, p < R * C → bitL U p = true → c p < 2 ^ 30 → (∀ f, f < R * C → bitL U f = true → c p ≤ c f) → Q (some (.int (nI p))) τ) : Cl (d + 1) m_Ways_nearest [.ref 59, .long U] τ Q := by
  have hn := g.n36
  have loop : ∀ (u k b : Nat) (x : Int32), k + u = R * C → b ≤ 2 ^ 30 → (∀ f, f < k → bitL U f = true → b ≤ c f) → (x = -1 ∧ b = 2 ^ 30 ∨ ∃ p, p < k ∧ x = nI p ∧ bitL U p = true ∧ c p = b ∧ b < 2 ^ 30) → Rs M_Ways_nearest d Q 9 [some (.ref 59), some (.long U), none, some (.int x), some (.int (nI b)), some (.int (nI k))] [] τ := by
    intro u
    induction u with
    | zero =>
      intro k b x hk hb h1 h2
      obtain rfl : k = R * C := by omega
      rw [Rs_eq]
      simp only [E_Ways_nearest, fIsA, fRt, fLen, fLit, fBool, g.2.1]
      refine ⟨fun _ => ?_, fun z => absurd (Int32.le_refl _) z⟩
      rcases h2 with ⟨rfl, b0⟩ | ⟨p, hp, rfl, a, e, f⟩
      · exact no (fun f hf hb' => by have := h1 f hf hb'; have := (hc f hf).2; omega)
      · exact yes p hp a (by omega) (fun f hf hb' => by have := h1 f hf hb'; omega)
    | succ u ih =>
      intro k b x hk hb h1 h2
      have ck := hc k (by omega)
      rw [Rs_eq]
      simp only [E_Ways_nearest, fIsA, fRt, fLen, fLit, fBool, g.2.1, ubitL (show k < 64 by omega), nI_1, nI_clamp (show k < 2 ^ 31 by omega), ck.1]
      refine ⟨fun z => absurd z (nI_ge (by omega) (by omega)), fun _ => ?_⟩
      have same : (bitL U k = true → b ≤ c k) → Rs M_Ways_nearest d Q 9 [some (.ref 59), some (.long U), none, some (.int x), some (.int (nI b)), some (.int (nI (k + 1)))] [] τ := fun w => ih (k + 1) b x (by omega) hb (fun f hf hb' => by
        by_cases z : f = k
        · subst z; exact w hb'
        · exact h1 f (by omega) hb') (h2.imp id (fun ⟨p, a, b⟩ => ⟨p, by omega, b⟩))
      cases hU : bitL U k with
      | false =>
        refine ⟨fun _ => same (fun z => absurd (hU.symm.trans z) (by decide)), fun z => absurd (by decide) z⟩
      | true =>
        refine ⟨fun z => absurd z (by decide), fun _ => ⟨vp_in_nI (by omega) (by omega), ?_⟩⟩
        refine ⟨fun z => same (fun _ => (nI_leI (by omega) (by omega)).mp z), fun z => ⟨vp_in_nI (by omega) (by omega), ?_⟩⟩
        have z : c k < b := Nat.lt_of_not_le (fun w => z (nI_le w (by omega)))
        refine ih (k + 1) (c k) (nI k) (by omega) ck.2 (fun f hf hb' => ?_) (Or.inr ⟨k, by omega, rfl, hU, rfl, by omega⟩)
        by_cases q : f = k
        · subst q; exact Nat.le_refl _
        · have := h1 f (by omega) hb'
          omega
  rw [N_Ways_nearest]
  simp only [E_Ways_nearest, fIsA, fRt, fLen, fLit, fBool]
  exact loop (R * C) 0 (2 ^ 30) (-1) (by omega) (by omega) (fun f hf => absurd hf (Nat.not_lt_zero _)) (Or.inl ⟨rfl, rfl⟩)
