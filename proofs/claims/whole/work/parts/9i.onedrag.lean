/-! WAYS: one drag from fields, the class -/
/-- q is one drag off fields of A by h' < 4, not in L, by a pull of lim at most -/
def odP (kd : Nat → Nat) (R C : Nat) (pl : Nat → Nat → Int32) (A L : Int64) (lim : Int32) (q f h : Nat) : Prop := f < R * C ∧ h < 4 ∧ bitL A f = true ∧ nk kd R C f h = some q ∧ bitL L q = false ∧ ¬ lim < pl f q
theorem odP_f {kd : Nat → Nat} {R C : Nat} {pl : Nat → Nat → Int32} {A L : Int64} {lim : Int32} {X : Int64} {f h : Nat} (hX : ∀ q, q < 64 → (bitL X q = true ↔ ∃ f' h', (f' < f ∨ f' = f ∧ h' < h) ∧ odP kd R C pl A L lim q f' h')) (no : ∀ q, q < 64 → ¬ odP kd R C pl A L lim q f h) : ∀ q, q < 64 → (bitL X q = true ↔ ∃ f' h', (f' < f ∨ f' = f ∧ h' < h + 1) ∧ odP kd R C pl A L lim q f' h') := fun q hq => by
  rw [hX q hq]
  constructor
  · rintro ⟨f', h', a, b⟩
    exact ⟨f', h', a.imp id (fun w => ⟨w.1, by omega⟩), b⟩
  · rintro ⟨f', h', a, b⟩
    refine ⟨f', h', a.imp id (fun w => ⟨w.1, ?_⟩), b⟩
    obtain ⟨rfl, w⟩ := w
    by_cases c : h' = h
    · subst c; exact absurd b (no q hq)
    · omega
theorem nk_lt {kd : Nat → Nat} {R C : Nat} {f h q : Nat} (hf : f < R * C) (hh : h < 4) (e : nk kd R C f h = some q) : q < R * C := by
  unfold nk at e
  cases hb : nb R C f h with
  | none => rw [hb] at e; exact absurd e (by simp)
  | some p =>
    rw [hb] at e
    have e : (if kd p = 3 then none else some p) = some q := e
    by_cases c : kd p = 3
    · rw [if_pos c] at e; exact absurd e (by simp)
    · rw [if_neg c] at e
      obtain rfl : p = q := Option.some.inj e
      exact nb_lt hf hh hb
theorem bit_more {X : Int64} {p : Nat} {O : Nat → Nat → Nat → Prop} {f h : Nat} (hp : p < 64) (hX : ∀ q, q < 64 → (bitL X q = true ↔ ∃ f' h', (f' < f ∨ f' = f ∧ h' < h) ∧ O q f' h')) (o : ∀ q, O q f h ↔ q = p) : ∀ q, q < 64 → (bitL (X ||| (1 <<< ((nI p).toInt64 &&& 63))) q = true ↔ ∃ f' h', (f' < f ∨ f' = f ∧ h' < h + 1) ∧ O q f' h') := fun q hq => by
  rw [bL_or, bL_shl1 hp hq, Bool.or_eq_true, hX q hq, decide_eq_true_iff]
  constructor
  · rintro (⟨f', h', a, b⟩ | w)
    · exact ⟨f', h', a.imp id (fun w => ⟨w.1, by omega⟩), b⟩
    · exact ⟨f, h, Or.inr ⟨rfl, by omega⟩, (o q).mpr w⟩
  · rintro ⟨f', h', a, b⟩
    by_cases c : f' = f ∧ h' = h
    · obtain ⟨rfl, rfl⟩ := c
      exact Or.inr ((o q).mp b)
    · exact Or.inl ⟨f', h', by omega, b⟩
theorem s_WoneDrag {d R C : Nat} {kd ht : Nat → Nat} {Q : Qt} {τ : St} {pl : Nat → Nat → Int32} {A L : Int64} {lim : Int32} (g : GI τ R C kd ht)
    (pt : ∀ (f q : Nat) (Q' : Qt), f < R * C → q < R * C → Q' (some (.int (pl f q))) τ → Cl (d + 3) m_Ways_pullTo [.ref 59, .int (nI f), .int (nI q)] τ Q')
    (hQ : ∀ X : Int64, (∀ q, q < 64 → (bitL X q = true ↔ ∃ f h, odP kd R C pl A L lim q f h)) → Q (some (.long X)) τ) : Cl (d + 4) m_Ways_oneDragFrom [.ref 59, .long A, .long L, .int lim] τ Q := by
  have hn := g.n36
  have outer : ∀ (u f : Nat) (X : Int64) (l1 l2 : Option Value), f + u = R * C → (∀ q, q < 64 → (bitL X q = true ↔ ∃ f' h', f' < f ∧ odP kd R C pl A L lim q f' h')) → Rs M_Ways_oneDragFrom (d + 3) Q 6 [some (.ref 59), some (.long A), none, some (.long L), none, some (.int lim), some (.long X), none, some (.int (nI f)), l1, l2] [] τ := by
    intro u
    induction u with
    | zero =>
      intro f X l1 l2 hf hX
      obtain rfl : f = R * C := by omega
      rw [Rs_eq]
      simp only [E_Ways_oneDragFrom, fIsA, fRt, fLen, fLit, fBool, g.2.1]
      refine ⟨fun _ => hQ X (fun q hq => ?_), fun z => absurd (Int32.le_refl _) z⟩
      rw [hX q hq]
      exact ⟨fun ⟨f', h', _, b⟩ => ⟨f', h', b⟩, fun ⟨f', h', b⟩ => ⟨f', h', b.1, b⟩⟩
    | succ u ih =>
      intro f X l1 l2 hf hX
      have hfl : f < R * C := by omega
      have inner : ∀ (v h : Nat) (X : Int64) (l2 : Option Value), h + v = 4 → (∀ q, q < 64 → (bitL X q = true ↔ ∃ f' h', (f' < f ∨ f' = f ∧ h' < h) ∧ odP kd R C pl A L lim q f' h')) → bitL A f = true → Rs M_Ways_oneDragFrom (d + 3) Q 35 [some (.ref 59), some (.long A), none, some (.long L), none, some (.int lim), some (.long X), none, some (.int (nI f)), some (.int (nI h)), l2] [] τ := by
        intro v
        induction v with
        | zero =>
          intro h X l2 hh hX hA
          obtain rfl : h = 4 := by omega
          rw [Rs_eq]
          simp only [E_Ways_oneDragFrom, fIsA, fRt, fLen, fLit, fBool, nI_1]
          refine ⟨fun _ => ih (f + 1) X _ _ (by omega) (fun q hq => ?_), fun z => absurd (Int32.le_refl _) z⟩
          rw [hX q hq]
          constructor
          · rintro ⟨f', h', a, b⟩
            exact ⟨f', h', by omega, b⟩
          · rintro ⟨f', h', a, b⟩
            have := b.2.1
            exact ⟨f', h', by omega, b⟩
        | succ v ih2 =>
          intro h X l2 hh hX hA
          rw [Rs_eq]
          simp only [E_Ways_oneDragFrom, fIsA, fRt, fLen, fLit, fBool]
          refine ⟨fun z => absurd z (nI_ge (b := 4) (by omega) (by omega)), fun _ => ?_⟩
          refine s_Gbeside g hfl (by omega) ?_
          simp only [oT, oN, E_Ways_oneDragFrom, fIsA, fRt, fLen, fLit, fBool, nI_1]
          cases hnk : nk kd R C f h with
          | none =>
            refine ⟨fun _ => ih2 (h + 1) X _ (by omega) (odP_f hX (fun q hq w => ?_)) hA, fun z => absurd (show (-1 : Int32) = -1 from rfl) z⟩
            have := w.2.2.2.1
            rw [hnk] at this
            exact absurd this (by simp)
          | some p =>
            have hp : p < R * C := nk_lt hfl (by omega) hnk
            rw [show oI (some p) = nI p from rfl]
            refine ⟨fun z => absurd (z ▸ nI_pos (show p < 2 ^ 31 by omega)) (by decide), fun _ => ?_⟩
            simp only [ubitL (show p < 64 by omega)]
            cases hL : bitL L p with
            | true =>
              refine ⟨fun _ => ih2 (h + 1) X _ (by omega) (odP_f hX (fun q hq w => ?_)) hA, fun z => absurd z (by decide)⟩
              obtain ⟨_, _, _, w4, w5, _⟩ := w
              rw [hnk] at w4
              obtain rfl : p = q := Option.some.inj w4
              rw [hL] at w5
              exact absurd w5 (by decide)
            | false =>
              refine ⟨fun z => absurd rfl z, fun _ => ?_⟩
              refine pt f p _ hfl hp ?_
              simp only [oT, oN, E_Ways_oneDragFrom, fIsA, fRt, fLen, fLit, fBool, nI_1]
              refine ⟨fun z => ih2 (h + 1) X _ (by omega) (odP_f hX (fun q hq w => ?_)) hA, fun z => ih2 (h + 1) _ _ (by omega) (bit_more (by omega) hX (fun q => ⟨fun w => ?_, fun w => ?_⟩)) hA⟩
              · obtain ⟨_, _, _, w4, _, w6⟩ := w
                rw [hnk] at w4
                obtain rfl : p = q := Option.some.inj w4
                exact w6 z
              · have w4 := w.2.2.2.1
                rw [hnk] at w4
                exact (Option.some.inj w4).symm
              · subst w
                exact ⟨hfl, by omega, hA, hnk, hL, z⟩
      rw [Rs_eq]
      simp only [E_Ways_oneDragFrom, fIsA, fRt, fLen, fLit, fBool, g.2.1, ubitL (show f < 64 by omega), nI_1]
      refine ⟨fun z => absurd z (nI_ge (by omega) (by omega)), fun _ => ?_⟩
      cases hA : bitL A f with
      | true =>
        refine ⟨fun _ => inner 4 0 X l2 (by omega) (fun q hq => ?_) hA, fun z => absurd z (by decide)⟩
        rw [hX q hq]
        constructor
        · rintro ⟨f', h', a, b⟩
          exact ⟨f', h', Or.inl a, b⟩
        · rintro ⟨f', h', a, b⟩
          exact ⟨f', h', by omega, b⟩
      | false =>
        refine ⟨fun z => absurd rfl z, fun _ => ih (f + 1) X _ _ (by omega) (fun q hq => ?_)⟩
        rw [hX q hq]
        constructor
        · rintro ⟨f', h', a, b⟩
          exact ⟨f', h', by omega, b⟩
        · rintro ⟨f', h', a, b⟩
          refine ⟨f', h', ?_, b⟩
          by_cases c : f' = f
          · subst c
            have := b.2.2.1
            rw [hA] at this
            exact absurd this (by decide)
          · omega
  rw [N_Ways_oneDragFrom]
  simp only [E_Ways_oneDragFrom, fIsA, fRt, fLen, fLit, fBool]
  refine outer (R * C) 0 0 none none (by omega) (fun q hq => ?_)
  rw [bL_0]
  exact ⟨fun z => absurd z (by decide), fun ⟨f', h', z, _⟩ => absurd z (Nat.not_lt_zero _)⟩
