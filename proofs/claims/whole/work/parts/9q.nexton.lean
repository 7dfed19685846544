/-! WAYS: the next field on, the class -/
theorem s_WcostFrom {d R C f : Nat} {kd ht c : Nat → Nat} {Q : Qt} {τ : St} (g : GI τ R C kd ht) (hf : f < R * C) (h : τ.1 62 f = nI (c f)) (hQ : Q (some (.int (nI (c f)))) τ) : Cl (d + 2) m_Ways_costFrom [.ref 59, .int (nI f)] τ Q := by
  have hn := g.n36
  rw [N_Ways_costFrom]
  simp only [E_Ways_costFrom, fIsA, fRt, fLen, fLit, fBool]
  refine s_Ghas g (fun f' hf' e => ?_) (fun z => absurd ⟨nI_pos' (by omega), nI_lt hf (by omega)⟩ z)
  simp only [oT, oN, E_Ways_costFrom, fIsA, fRt, fLen, fLit, fBool, nI_clamp (show f < 2 ^ 31 by omega), h]
  first
    | exact ⟨vp_in_nI (by omega) (by omega), hQ⟩
    | exact ⟨fun z => absurd z (by decide), fun _ => ⟨vp_in_nI (by omega) (by omega), hQ⟩⟩
    | exact ⟨fun _ => ⟨vp_in_nI (by omega) (by omega), hQ⟩, fun z => absurd z (by decide)⟩
/-- a way from f goes on to q -/
def onQ (P : Nat → Nat → Nat) (lim s : Nat) (c : Nat → Nat) (f q : Nat) : Prop := c q ≠ 2 ^ 30 ∧ P f q ≤ lim ∧ c q + P f q * s + 1 = c f
/-- the least field by which a way goes on, of h headings -/
def onB (kd : Nat → Nat) (R C : Nat) (P : Nat → Nat → Nat) (lim s : Nat) (c : Nat → Nat) (f h : Nat) (o : Option Nat) : Prop := (∀ q, o = some q → q < R * C ∧ onQ P lim s c f q ∧ ∃ h', h' < h ∧ nk kd R C f h' = some q) ∧ ∀ h' q', h' < h → nk kd R C f h' = some q' → onQ P lim s c f q' → ∃ q, o = some q ∧ q ≤ q'
theorem onB_skip {kd : Nat → Nat} {R C lim s f h : Nat} {P : Nat → Nat → Nat} {c : Nat → Nat} {o : Option Nat} (b : onB kd R C P lim s c f h o) (no : ∀ q, nk kd R C f h = some q → onQ P lim s c f q → ∃ p, o = some p ∧ p ≤ q) : onB kd R C P lim s c f (h + 1) o := by
  refine ⟨fun q e => ?_, fun h' q' a e k => ?_⟩
  · obtain ⟨a, b', h', e1, e2⟩ := b.1 q e
    exact ⟨a, b', h', by omega, e2⟩
  · by_cases z : h' = h
    · subst z; exact no q' e k
    · exact b.2 h' q' (by omega) e k
theorem onB_take {kd : Nat → Nat} {R C lim s f h q : Nat} {P : Nat → Nat → Nat} {c : Nat → Nat} {o : Option Nat} (b : onB kd R C P lim s c f h o) (hn : nk kd R C f h = some q) (hq : q < R * C) (on : onQ P lim s c f q) (lt : ∀ p, o = some p → q ≤ p) : onB kd R C P lim s c f (h + 1) (some q) := by
  refine ⟨fun q' e => ?_, fun h' q' a e k => ⟨q, rfl, ?_⟩⟩
  · obtain rfl : q = q' := Option.some.inj e
    exact ⟨hq, on, h, by omega, hn⟩
  · by_cases z : h' = h
    · subst z
      rw [hn] at e
      exact Nat.le_of_eq (Option.some.inj e)
    · obtain ⟨p, e1, e2⟩ := b.2 h' q' (by omega) e k
      exact Nat.le_trans (lt p e1) e2
theorem s_WnextOn {d R C m i lim s f : Nat} {kd ht c : Nat → Nat} {S r : Nat → Int32} {w hh : Int32} {P : Nat → Nat → Nat} {Q : Qt} {τ : St} (g : GI τ R C kd ht) (wa : WzI R C ht m S w r hh i τ) (hP : ∀ f q, plF ht m S w r hh i f q = nI (P f q) ∧ P f q ≤ 1498) (hc : ∀ f, f < R * C → τ.1 62 f = nI (c f) ∧ c f ≤ 2 ^ 30) (hf : f < R * C) (hl : lim ≤ 1498) (hs : s ≤ 64)
    (hQ : ∀ o, onB kd R C P lim s c f 4 o → Q (some (.int (oI o))) τ) : Cl (d + 4) m_Ways_nextOn [.ref 59, .int (nI f), .int (nI lim), .int (nI s)] τ Q := by
  have hn := g.n36
  have loop : ∀ (u h : Nat) (o : Option Nat) (l1 l2 l3 : Option Value), h + u = 4 → onB kd R C P lim s c f h o → Rs M_Ways_nextOn (d + 3) Q 13 [some (.ref 59), some (.int (nI f)), some (.int (nI lim)), some (.int (nI s)), some (.int (nI (c f))), some (.int (oI o)), some (.int (nI h)), l1, l2, l3] [] τ := by
    intro u
    induction u with
    | zero =>
      intro h o l1 l2 l3 hh b
      obtain rfl : h = 4 := by omega
      rw [Rs_eq]
      simp only [E_Ways_nextOn, fIsA, fRt, fLen, fLit, fBool]
      exact ⟨fun _ => hQ o b, fun z => absurd (Int32.le_refl _) z⟩
    | succ u ih =>
      intro h o l1 l2 l3 hh b
      rw [Rs_eq]
      simp only [E_Ways_nextOn, fIsA, fRt, fLen, fLit, fBool]
      refine ⟨fun z => absurd z (nI_ge (b := 4) (by omega) (by omega)), fun _ => ?_⟩
      refine s_Gbeside g hf (by omega) ?_
      simp only [oT, oN, E_Ways_nextOn, fIsA, fRt, fLen, fLit, fBool, nI_1]
      cases hnk : nk kd R C f h with
      | none =>
        have nx := ih (h + 1) o (some (.int (-1))) l2 l3 (by omega) (onB_skip b (fun q e => by rw [hnk] at e; exact absurd e (by simp)))
        first
          | exact ⟨fun z => absurd (show oI none = -1 from rfl) z, fun _ => nx⟩
          | exact ⟨fun _ => nx, fun z => absurd (show oI none = -1 from rfl) z⟩
      | some q =>
        have hq : q < R * C := nk_lt hf (by omega) hnk
        have hk := (hP f q).2
        have ps : P f q * s ≤ 1498 * 64 := Nat.mul_le_mul hk hs
        have cq := hc q hq
        rw [show oI (some q) = nI q from rfl]
        have skip : (onQ P lim s c f q → ∃ p, o = some p ∧ p ≤ q) → ∀ l1 l2 l3, Rs M_Ways_nextOn (d + 3) Q 13 [some (.ref 59), some (.int (nI f)), some (.int (nI lim)), some (.int (nI s)), some (.int (nI (c f))), some (.int (oI o)), some (.int (nI (h + 1))), l1, l2, l3] [] τ := fun z l1 l2 l3 => ih (h + 1) o l1 l2 l3 (by omega) (onB_skip b (fun q' e k => by
          rw [hnk] at e
          obtain rfl : q = q' := Option.some.inj e
          exact z k))
        have ne : ¬ nI q = -1 := fun z => absurd (z ▸ nI_pos (show q < 2 ^ 31 by omega)) (by decide)
        simp only [ne, nI_clamp (show q < 2 ^ 31 by omega), cq.1]
        refine ⟨fun z => absurd z id, fun _ => ⟨vp_in_nI (by omega) (by omega), fun z => ?_, fun z => ?_⟩⟩
        · have z : c q ≠ 2 ^ 30 := fun w => z (by rw [w]; rfl)
          have ec : nI (c q) + nI (P f q) * nI s + 1 = nI (c q + P f q * s + 1) := by rw [pk_mul, nI_add, nI_1]
          refine wa.pt g hf hq ?_
          simp only [oT, oN, E_Ways_nextOn, fIsA, fRt, fLen, fLit, fBool, nI_1, (hP f q).1, nI_clamp (show q < 2 ^ 31 by omega), cq.1, ec]
          have cf := (hc f hf).2
          have take : onQ P lim s c f q → (∀ p, o = some p → q ≤ p) → ∀ l1 l2 l3, Rs M_Ways_nextOn (d + 3) Q 13 [some (.ref 59), some (.int (nI f)), some (.int (nI lim)), some (.int (nI s)), some (.int (nI (c f))), some (.int (nI q)), some (.int (nI (h + 1))), l1, l2, l3] [] τ := fun on lt l1 l2 l3 => ih (h + 1) (some q) l1 l2 l3 (by omega) (onB_take b hnk hq on lt)
          refine ⟨fun y => ?_, fun y => ⟨vp_in_nI (by omega) (by omega), fun x => ?_, fun x => ?_⟩⟩
          · have y := (nI_ltI (by omega) (by omega)).mp y
            exact skip (fun w => absurd w.2.1 (by omega)) _ _ _
          · exact skip (fun w => absurd (by rw [w.2.2]) x) _ _ _
          · have y : P f q ≤ lim := Nat.le_of_not_lt (fun w => y (nI_lt w (by omega)))
            have x : c q + P f q * s + 1 = c f := (nI_eq (by omega) (by omega)).mp x
            have on : onQ P lim s c f q := ⟨z, y, x⟩
            cases ho : o with
            | none =>
              refine ⟨fun _ => take on (fun p e => by rw [ho] at e; exact absurd e (by simp)) _ _ _, fun w => absurd (show oI none = -1 from rfl) w⟩
            | some p =>
              have hp := (b.1 p ho).1
              rw [show oI (some p) = nI p from rfl]
              refine ⟨fun w => absurd (w ▸ nI_pos (show p < 2 ^ 31 by omega)) (by decide), fun _ => ⟨fun w => ?_, fun w => ?_⟩⟩
              · have w := (nI_leI (by omega) (by omega)).mp w
                have sk := skip (fun _ => ⟨p, ho, w⟩)
                rw [ho] at sk
                exact sk _ _ _
              · have w : q < p := Nat.lt_of_not_le (fun v => w (nI_le v (by omega)))
                refine take on (fun p' e => ?_) _ _ _
                rw [ho] at e
                obtain rfl : p = p' := Option.some.inj e
                omega
        · have z : c q = 2 ^ 30 := (nI_eq (b := 2 ^ 30) (by omega) (by omega)).mp z
          exact skip (fun w => absurd z w.1) _ _ _
  rw [N_Ways_nextOn]
  simp only [E_Ways_nextOn, fIsA, fRt, fLen, fLit, fBool]
  refine s_WcostFrom g hf (hc f hf).1 ?_
  simp only [oT, oN, E_Ways_nextOn, fIsA, fRt, fLen, fLit, fBool]
  exact loop 4 0 none none none none (by omega) ⟨fun q e => absurd e (by simp), fun h' q' z => absurd z (Nat.not_lt_zero _)⟩
