/-! WAYS: costs around a field, the class -/
/-- costs after the fields beside p (h of its headings) were measured -/
def arP (kd : Nat → Nat) (R C : Nat) (P : Nat → Nat → Nat) (p lim s h : Nat) (c c' : Nat → Nat) : Prop := c' p = c p ∧ (∀ f, c' f ≤ c f) ∧ (∀ f, c' f = c f ∨ ∃ h', h' < h ∧ nk kd R C p h' = some f ∧ P f p ≤ lim ∧ c' f = c p + P f p * s + 1) ∧ ∀ f h', h' < h → nk kd R C p h' = some f → P f p ≤ lim → c' f ≤ c p + P f p * s + 1
theorem s_WmeasureAround {d R C m i p lim s : Nat} {kd ht c : Nat → Nat} {S r : Nat → Int32} {w hh : Int32} {P : Nat → Nat → Nat} {Q : Qt} {τ : St} (g : GI τ R C kd ht) (wa : WzI R C ht m S w r hh i τ) (hP : ∀ f q, plF ht m S w r hh i f q = nI (P f q) ∧ P f q ≤ 1498) (hc : ∀ f, f < R * C → τ.1 62 f = nI (c f) ∧ c f ≤ 2 ^ 30) (hp : p < R * C) (cp : c p < 2 ^ 30) (hl : lim ≤ 1498) (hs : s ≤ 64)
    (hQ : ∀ τ' c', Fr [62] [] τ τ' → (∀ f, f < R * C → τ'.1 62 f = nI (c' f) ∧ c' f ≤ 2 ^ 30) → arP kd R C P p lim s 4 c c' → Q none τ') : Cl (d + 4) m_Ways_measureAround [.ref 59, .int (nI p), .int (nI lim), .int (nI s)] τ Q := by
  have hn := g.n36
  have loop : ∀ (u h : Nat) (τ1 : St) (c1 : Nat → Nat) (l1 l2 l3 : Option Value), h + u = 4 → Fr [62] [] τ τ1 → (∀ f, f < R * C → τ1.1 62 f = nI (c1 f) ∧ c1 f ≤ 2 ^ 30) → arP kd R C P p lim s h c c1 → Rs M_Ways_measureAround (d + 3) Q 3 [some (.ref 59), some (.int (nI p)), some (.int (nI lim)), some (.int (nI s)), some (.int (nI h)), l1, l2, l3] [] τ1 := by
    intro u
    induction u with
    | zero =>
      intro h τ1 c1 l1 l2 l3 hh fr h1 ar
      obtain rfl : h = 4 := by omega
      rw [Rs_eq]
      simp only [E_Ways_measureAround, fIsA, fRt, fLen, fLit, fBool]
      exact ⟨fun _ => hQ τ1 c1 fr h1 ar, fun z => absurd (Int32.le_refl _) z⟩
    | succ u ih =>
      intro h τ1 c1 l1 l2 l3 hh fr h1 ar
      have g1 := g.fr fr rfl
      have wa1 := wa.fr fr rfl rfl rfl rfl rfl rfl rfl
      have same : (∀ f, nk kd R C p h = some f → P f p ≤ lim → c1 f ≤ c p + P f p * s + 1) → arP kd R C P p lim s (h + 1) c c1 := fun w => ⟨ar.1, ar.2.1, fun f => (ar.2.2.1 f).imp id (fun ⟨h', a, b⟩ => ⟨h', by omega, b⟩), fun f h' a b e => by
        by_cases z : h' = h
        · subst z; exact w f b e
        · exact ar.2.2.2 f h' (by omega) b e⟩
      rw [Rs_eq]
      simp only [E_Ways_measureAround, fIsA, fRt, fLen, fLit, fBool]
      refine ⟨fun z => absurd z (nI_ge (b := 4) (by omega) (by omega)), fun _ => ?_⟩
      refine s_Gbeside g1 hp (by omega) ?_
      simp only [oT, oN, E_Ways_measureAround, fIsA, fRt, fLen, fLit, fBool, nI_1]
      cases hnk : nk kd R C p h with
      | none =>
        have nx := ih (h + 1) τ1 c1 (some (.int (-1))) l2 l3 (by omega) fr h1 (same (fun f w => by rw [hnk] at w; exact absurd w (by simp)))
        exact ⟨fun z => absurd (show oI none = -1 from rfl) z, fun _ => nx⟩
      | some q =>
        have hq : q < R * C := nk_lt hp (by omega) hnk
        rw [show oI (some q) = nI q from rfl]
        refine ⟨fun _ => ?_, fun z => absurd (z ▸ nI_pos (show q < 2 ^ 31 by omega)) (by decide)⟩
        refine wa1.pt g1 hq hp ?_
        simp only [oT, oN, E_Ways_measureAround, fIsA, fRt, fLen, fLit, fBool, nI_1, (hP q p).1, nI_clamp (show p < 2 ^ 31 by omega), nI_clamp (show q < 2 ^ 31 by omega), (h1 p hp).1, (h1 q hq).1, ar.1]
        have hk := (hP q p).2
        have ps : P q p * s ≤ 1498 * 64 := Nat.mul_le_mul hk hs
        have ec : nI (c p) + nI (P q p) * nI s + 1 = nI (c p + P q p * s + 1) := by rw [pk_mul, nI_add, nI_1]
        simp only [ec]
        have cq := (h1 q hq).2
        have of_q : ∀ f, nk kd R C p h = some f → f = q := fun f w => by rw [hnk] at w; exact (Option.some.inj w).symm
        refine ⟨vp_in_nI (by omega) (by omega), fun z => ?_, fun z => ⟨vp_in_nI (by omega) (by omega), fun y => ?_, fun y => ⟨vp_in_nI (by omega) (by omega), ?_⟩⟩⟩
        · have z := (nI_ltI (by omega) (by omega)).mp z
          refine ih (h + 1) τ1 c1 _ _ _ (by omega) fr h1 (same (fun f w e => ?_))
          obtain rfl := of_q f w
          omega
        · have y := (nI_leI (by omega) (by omega)).mp y
          refine ih (h + 1) τ1 c1 _ _ _ (by omega) fr h1 (same (fun f w e => ?_))
          obtain rfl := of_q f w
          exact y
        · have z : P q p ≤ lim := Nat.le_of_not_lt (fun w => z (nI_lt w (by omega)))
          have y : c p + P q p * s + 1 < c1 q := Nat.lt_of_not_le (fun w => y (nI_le w (by omega)))
          refine ih (h + 1) _ (fun f => if f = q then c p + P q p * s + 1 else c1 f) _ _ _ (by omega) (fr.ic rfl) (fun f hf => ?_) ⟨?_, fun f => ?_, fun f => ?_, fun f h' a b e => ?_⟩
          · simp only [sI_1, reduceIte]
            by_cases x : f = q
            · rw [if_pos x, if_pos x]; exact ⟨rfl, by omega⟩
            · rw [if_neg x, if_neg x]; exact h1 f hf
          · show (if p = q then _ else c1 p) = c p
            rw [if_neg (fun x => by subst x; rw [ar.1] at y; omega)]
            exact ar.1
          · show (if f = q then _ else c1 f) ≤ c f
            by_cases x : f = q
            · rw [if_pos x, x]; have := ar.2.1 q; omega
            · rw [if_neg x]; exact ar.2.1 f
          · show (if f = q then _ else c1 f) = c f ∨ ∃ h', h' < h + 1 ∧ nk kd R C p h' = some f ∧ P f p ≤ lim ∧ (if f = q then _ else c1 f) = c p + P f p * s + 1
            by_cases x : f = q
            · right
              subst x
              exact ⟨h, by omega, hnk, z, if_pos rfl⟩
            · rw [if_neg x]
              exact (ar.2.2.1 f).imp id (fun ⟨h', a, b⟩ => ⟨h', by omega, b⟩)
          · show (if f = q then _ else c1 f) ≤ c p + P f p * s + 1
            by_cases x : f = q
            · rw [if_pos x, x]; exact Nat.le_refl _
            · rw [if_neg x]
              by_cases v : h' = h
              · subst v; exact absurd (of_q f b) x
              · exact ar.2.2.2 f h' (by omega) b e
  rw [N_Ways_measureAround]
  simp only [E_Ways_measureAround, fIsA, fRt, fLen, fLit, fBool]
  exact loop 4 0 τ c none none none (by omega) Fr.rf hc ⟨rfl, fun f => Nat.le_refl _, fun f => Or.inl rfl, fun f h' z => absurd z (Nat.not_lt_zero _)⟩
