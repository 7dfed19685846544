/-! WAYS: the class's measure -/
theorem s_fill62 {d : Nat} {Q : Qt} {τ : St} {v : Int32} (hQ : ∀ τ', Fr [62] [] τ τ' → (∀ j, j < 36 → τ'.1 62 j = v) → Q none τ') : Cl (d + 1) m_fill [.ref 62, .int v] τ Q := by
  have loop : ∀ (u k : Nat) (τ1 : St), k + u = 36 → Fr [62] [] τ τ1 → (∀ j, j < k → τ1.1 62 j = v) → Rs M_fill d Q 5 [some (.ref 62), some (.int v), some (.int (nI k)), some (.int (nI 36))] [] τ1 := by
    intro u
    induction u with
    | zero =>
      intro k τ1 hk fr h
      obtain rfl : k = 36 := by omega
      rw [Rs_eq]
      simp only [E_fill, fIsA, fRt, fLen, fLit, fBool]
      exact ⟨fun _ => hQ τ1 fr h, fun z => absurd (Int32.le_refl _) z⟩
    | succ u ih =>
      intro k τ1 hk fr h
      rw [Rs_eq]
      simp only [E_fill, fIsA, fRt, fLen, fLit, fBool, nI_1, nI_clamp (show k < 2 ^ 31 by omega)]
      refine ⟨fun z => absurd z (nI_ge (b := 36) (by omega) (by omega)), fun _ => ?_⟩
      have nx := ih (k + 1) (sI τ1 62 k v) (by omega) (fr.ic rfl) (fun j hj => by
        simp only [sI_1, reduceIte]
        by_cases q : j = k
        · rw [if_pos q]
        · rw [if_neg q]; exact h j (by omega))
      first
        | exact ⟨vp_in_nI (by omega) (by omega), nx⟩
        | exact ⟨by decide, by decide, vp_in_nI (by omega) (by omega), nx⟩
  rw [N_fill]
  simp only [E_fill, fIsA, fRt, fLen, fLit, fBool]
  first
    | exact loop 36 0 τ (by omega) Fr.rf (fun j hj => absurd hj (Nat.not_lt_zero _))
    | exact ⟨by decide, by decide, loop 36 0 τ (by omega) Fr.rf (fun j hj => absurd hj (Nat.not_lt_zero _))⟩
theorem s_Wmeasure {d R C m i t lim s : Nat} {kd ht : Nat → Nat} {S r : Nat → Int32} {w hh : Int32} {P : Nat → Nat → Nat} {Q : Qt} {τ : St} (g : GI τ R C kd ht) (wa : WzI R C ht m S w r hh i τ) (hP : ∀ f q, plF ht m S w r hh i f q = nI (P f q) ∧ P f q ≤ 1498) (ht2 : t < R * C) (hl : lim ≤ 1498) (hs : s ≤ 64)
    (hQ : ∀ τ' c, Fr [62] [] τ τ' → (∀ f, f < R * C → τ'.1 62 f = nI (c f) ∧ c f ≤ 2 ^ 30) → mzP kd R C P t lim s c → Q none τ') : Cl (d + 5) m_Ways_measure [.ref 59, .int (nI t), .int (nI lim), .int (nI s)] τ Q := by
  have hn := g.n36
  have loop : ∀ (u k : Nat) (τ1 : St) (c : Nat → Nat) (U : Int64) (l7 : Option Value), k + u = 36 → Fr [62] [] τ τ1 → (∀ f, f < R * C → τ1.1 62 f = nI (c f) ∧ c f ≤ 2 ^ 30) → mwP kd R C P t lim s U c → cnL U (R * C) + k ≤ R * C → Rs M_Ways_measure (d + 4) Q 36 [some (.ref 59), some (.int (nI t)), some (.int (nI lim)), some (.int (nI s)), some (.long U), none, some (.int (nI k)), l7] [] τ1 := by
    intro u
    induction u with
    | zero =>
      intro k τ1 c U l7 hk fr h1 mw cn
      obtain rfl : k = 36 := by omega
      rw [Rs_eq]
      simp only [E_Ways_measure, fIsA, fRt, fLen, fLit, fBool]
      refine ⟨fun _ => hQ τ1 c fr h1 (mw_end mw (fun f hf => (h1 f hf).2) (fun f hf z => ?_)), fun z => absurd (Int32.le_refl _) z⟩
      have := cnL_lt (X := 0) (Y := U) (fun q z => by rw [bL_0] at z; exact absurd z (by decide)) (bL_0 f) z (R * C) hf
      omega
    | succ u ih =>
      intro k τ1 c U l7 hk fr h1 mw cn
      have g1 := g.fr fr rfl
      have wa1 := wa.fr fr rfl rfl rfl rfl rfl rfl rfl
      rw [Rs_eq]
      simp only [E_Ways_measure, fIsA, fRt, fLen, fLit, fBool]
      refine ⟨fun z => absurd z (nI_ge (b := 36) (by omega) (by omega)), fun _ => ?_⟩
      refine s_Wnearest g1 h1 (fun hu => ?_) (fun p hp hU cp hm => ?_)
      · simp only [oT, oN, E_Ways_measure, fIsA, fRt, fLen, fLit, fBool]
        have en := hQ τ1 c fr h1 (mw_end mw (fun f hf => (h1 f hf).2) hu)
        exact en
      · simp only [oT, oN, E_Ways_measure, fIsA, fRt, fLen, fLit, fBool, nI_1]
        refine ⟨fun _ => ?_, fun z => absurd (z ▸ nI_pos (show p < 2 ^ 31 by omega)) (by decide)⟩
        refine s_WmeasureAround g1 wa1 hP h1 hp cp hl hs (fun τ2 c' f2 h2 ar => ?_)
        simp only [oT, oN, E_Ways_measure, fIsA, fRt, fLen, fLit, fBool, nI_1]
        have hb : ∀ f, f < R * C → bitL (U &&& ((1 <<< ((nI p).toInt64 &&& 63)) ^^^ (-1))) f = (bitL U f && decide (f ≠ p)) := fun f hf => by
          rw [bL_and, bL_xor, bL_shl1 (by omega) (by omega), bL_m1 f (by omega)]
          by_cases q : f = p
          · rw [decide_eq_true q, decide_eq_false (fun w => w q)]; rfl
          · rw [decide_eq_false q, decide_eq_true q]; rfl
        refine ih (k + 1) τ2 c' _ _ (by omega) (fr.tr f2) h2 (mw_step mw hp hU cp hm ar hb) ?_
        have := cnL_lt (X := U &&& ((1 <<< ((nI p).toInt64 &&& 63)) ^^^ (-1))) (Y := U) (fun q z => by rw [bL_and, Bool.and_eq_true] at z; exact z.1) (p := p) (by rw [hb p hp, decide_eq_false (fun w => w rfl), Bool.and_false]) hU (R * C) hp
        omega
  rw [N_Ways_measure]
  simp only [E_Ways_measure, fIsA, fRt, fLen, fLit, fBool]
  refine s_fill62 (fun τ1 f1 h1 => ?_)
  simp only [oT, oN, E_Ways_measure, fIsA, fRt, fLen, fLit, fBool]
  refine s_Ghas (g.fr f1 rfl) (fun f hf e => ?_) (fun z => absurd ⟨nI_pos' (by omega), nI_lt ht2 (by omega)⟩ z)
  simp only [oT, oN, E_Ways_measure, fIsA, fRt, fLen, fLit, fBool, nI_clamp (show t < 2 ^ 31 by omega)]
  have f2 : Fr [62] [] τ (sI τ1 62 t 0) := f1.ic rfl
  have h2 : ∀ f, f < R * C → (sI τ1 62 t 0).1 62 f = nI (if f = t then 0 else 2 ^ 30) ∧ (if f = t then 0 else 2 ^ 30) ≤ 2 ^ 30 := fun f hf => by
    simp only [sI_1, reduceIte]
    by_cases q : f = t
    · rw [if_pos q, if_pos q]; exact ⟨rfl, by omega⟩
    · rw [if_neg q, if_neg q, h1 f (by omega)]; exact ⟨rfl, Nat.le_refl _⟩
  have mw : mwP kd R C P t lim s (-1) (fun f => if f = t then 0 else 2 ^ 30) := by
    refine ⟨if_pos rfl, fun p hp z => ?_, fun f hf ft z => ?_⟩
    · rw [bL_m1 p (by omega)] at z
      exact absurd z (by decide)
    · have z : (if f = t then 0 else 2 ^ 30) < 2 ^ 30 := z
      rw [if_neg ft] at z
      exact absurd z (Nat.lt_irrefl _)
  have := cnL_le (-1) (R * C)
  exact ⟨vp_in_nI (by omega) (by omega), loop 36 0 (sI τ1 62 t 0) _ (-1) _ (by omega) f2 h2 mw (by omega)⟩
