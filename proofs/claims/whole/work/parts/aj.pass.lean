/-! PAIRS: pass -/
/-- on a way from sea to harbour over fields of height h and less -/
def onP (kd ht : Nat → Nat) (R C h q : Nat) : Prop := ∃ f p, (f < R * C ∧ kd f = 1) ∧ hbP kd R C p ∧ cnH kd ht R C h f q ∧ cnH kd ht R C h f p
section PS
variable {kd ht : Nat → Nat} {R C h : Nat}
theorem jn_iff {A L : Int64} (hA : ∀ q, bitL A q = true → q < R * C ∧ kd q ≠ 3) (hn : R * C ≤ 36) (hL : ∀ q, q < 64 → (bitL L q = true ↔ lowP kd ht R C h q)) (q : Nat) : (∃ k, rcK kd R C (plL L) A 0 k q) ↔ ∃ a, bitL A a = true ∧ cnH kd ht R C h a q := by
  constructor
  · rintro ⟨k, z⟩
    have : ∀ k q, rcK kd R C (plL L) A 0 k q → ∃ a, bitL A a = true ∧ cnH kd ht R C h a q := by
      intro k
      induction k with
      | zero => intro q z; exact ⟨q, z, 0, rfl⟩
      | succ k ih =>
        intro q z
        rcases z with z | ⟨f, h', a, b, c, e, l⟩
        · exact ih q z
        · obtain ⟨a0, a1, k', z'⟩ := ih f c
          have gd := cn_good (hA a0 a1).1 (hA a0 a1).2 k' f z'
          have hq := nk_lt a b e
          exact ⟨a0, a1, k' + 1, Or.inr ⟨f, h', ⟨a, b, gd.2, e⟩, z', ((hL q (by omega)).mp (plL_is.mp l)).2.2⟩⟩
    exact this k q z
  · rintro ⟨a, a1, k, z⟩
    have : ∀ k q, cnK kd ht R C h a k q → ∃ k', rcK kd R C (plL L) A 0 k' q := by
      intro k
      induction k with
      | zero => intro q z; have z : q = a := z; subst z; exact ⟨0, a1⟩
      | succ k ih =>
        intro q z
        rcases z with z | ⟨p, h', e, w, l⟩
        · exact ih q z
        · obtain ⟨k', z'⟩ := ih p w
          have hq := eG_lt e
          exact ⟨k' + 1, Or.inr ⟨p, h', e.1, e.2.1, z', e.2.2.2, plL_is.mpr ((hL q (by omega)).mpr ⟨hq, (nk_nb e.2.2.2).2, l⟩)⟩⟩
    exact this k q z
end PS
theorem seaB {τ : St} {R C : Nat} {kd ht : Nat → Nat} (g : GI τ R C kd ht) : ∀ q, bitL (τ.2 5 7) q = true ↔ q < R * C ∧ kd q = 1 := fun q => by
  have hn := g.n36
  by_cases h : q < 64
  · rw [(g.2.2.2.2 q h).2.1, decide_eq_true_iff]
  · rw [bL_big (by omega)]
    exact ⟨fun z => absurd z (by decide), fun z => absurd z.1 (by omega)⟩
theorem s_Hpass {d R C : Nat} {kd ht : Nat → Nat} {Q : Qt} {τ : St} (g : GI τ R C kd ht) (no : (∀ h, h ≤ 9 → ∀ q, ¬ onP kd ht R C h q) → Q (some (.int (-2))) τ) (yes : ∀ h X, h ≤ 9 → (∀ k, k < h → ∀ q, ¬ onP kd ht R C k q) → (∃ q, onP kd ht R C h q) → (∀ q, bitL X q = true ↔ onP kd ht R C h q) → ∀ τ', Fr [4] [(3, 1)] τ τ' → τ'.1 3 1 = 1 → τ'.2 4 0 = X → Q (some (.int (nI h))) τ') : Cl (d + 6) m_H_pass [.ref 0] τ Q := by
  have hn := g.n36
  have loop : ∀ (u h : Nat) (l2 l4 : Option Value), h + u = 10 → (∀ k, k < h → ∀ q, ¬ onP kd ht R C k q) → Rs M_H_pass (d + 5) Q 2 [some (.ref 0), some (.int (nI h)), l2, none, l4, none] [] τ := by
    intro u
    induction u with
    | zero =>
      intro h l2 l4 hh hno
      obtain rfl : h = 10 := by omega
      rw [Rs_eq]
      simp only [E_H_pass, fIsA, fRt, fLen, fLit, fBool]
      exact ⟨fun _ => no (fun h hh => hno h (by omega)), fun z => absurd (nI_lt (a := 9) (b := 10) (by omega) (by omega)) z⟩
    | succ u ih =>
      intro h l2 l4 hh hno
      rw [Rs_eq]
      simp only [E_H_pass, fIsA, fRt, fLen, fLit, fBool]
      refine ⟨fun z => ?_, fun _ => ?_⟩
      · have := (nI_ltI (a := 9) (by omega) (by omega)).mp z
        omega
      refine s_GupTo g (by omega) (fun L hL => ?_)
      simp only [oT, oN, E_H_pass, fIsA, fRt, fLen, fLit, fBool]
      have sB := seaB g
      have hB := hbB g
      refine s_Gjoined g (fun q z => ((sB q).mp z).1) (fun X hX => ?_)
      simp only [oT, oN, E_H_pass, fIsA, fRt, fLen, fLit, fBool]
      refine s_Gjoined g (fun q z => ((hB q).mp z).1) (fun Y hY => ?_)
      have ht0 : ∀ q, q < R * C → kd q ≠ 0 → ht q = 0 := fun q hq => (g.2.2.1 q hq).1.2.2
      have on : ∀ q, bitL (X &&& Y) q = true ↔ onP kd ht R C h q := fun q => by
        rw [bL_and, Bool.and_eq_true]
        constructor
        · rintro ⟨a, b⟩
          have hq : q < 64 := Nat.lt_of_not_le (fun w => by rw [bL_big w] at a; exact absurd a (by decide))
          obtain ⟨f, f1, f2⟩ := (jn_iff (fun q z => ⟨((sB q).mp z).1, by have := ((sB q).mp z).2; omega⟩) hn.1 hL q).mp ((hX q hq).mp a)
          obtain ⟨p, p1, p2⟩ := (jn_iff (fun q z => ⟨((hB q).mp z).1, by have := ((hB q).mp z).2; omega⟩) hn.1 hL q).mp ((hY q hq).mp b)
          have hp := (hB p).mp p1
          have lp : lowP kd ht R C h p := ⟨hp.1, by have := hp.2; omega, by rw [ht0 p hp.1 (by have := hp.2; omega)]; omega⟩
          obtain ⟨k, pk⟩ := p2
          obtain ⟨k2, qk⟩ := cn_sy lp k q pk
          exact ⟨f, p, (sB f).mp f1, hp, f2, cn_tr f2 k2 p qk⟩
        · rintro ⟨f, p, f1, p1, f2, p2⟩
          have lf : lowP kd ht R C h f := ⟨f1.1, by have := f1.2; omega, by rw [ht0 f f1.1 (by have := f1.2; omega)]; omega⟩
          obtain ⟨k, fq⟩ := f2
          have hq := (cn_low lf k q fq).1
          obtain ⟨k2, fp⟩ := p2
          have pf := cn_sy lf k2 p fp
          exact ⟨(hX q (by omega)).mpr ((jn_iff (fun q z => ⟨((sB q).mp z).1, by have := ((sB q).mp z).2; omega⟩) hn.1 hL q).mpr ⟨f, (sB f).mpr f1, k, fq⟩), (hY q (by omega)).mpr ((jn_iff (fun q z => ⟨((hB q).mp z).1, by have := ((hB q).mp z).2; omega⟩) hn.1 hL q).mpr ⟨p, (hB p).mpr p1, cn_tr pf k q fq⟩)⟩
      by_cases z : (X &&& Y) = 0
      · have e0 : (lg_cmp (X &&& Y) 0 = 0) = True := eq_true (lcmp0.mpr z)
        simp only [oT, oN, E_H_pass, fIsA, fRt, fLen, fLit, fBool, nI_1, e0]
        exact ih (h + 1) _ _ (by omega) (fun k hk q w => by
          by_cases e : k = h
          · subst e
            have := (on q).mpr w
            rw [z, bL_0] at this
            exact absurd this (by decide)
          · exact hno k (by omega) q w)
      · have e0 : (lg_cmp (X &&& Y) 0 = 0) = False := eq_false (fun w => z (lcmp0.mp w))
        simp only [oT, oN, E_H_pass, fIsA, fRt, fLen, fLit, fBool, nI_1, e0]
        refine s_RowOnly ?_
        obtain ⟨q, _, hq⟩ := bit_ne z
        have en := yes h (X &&& Y) (by omega) hno ⟨q, (on q).mp hq⟩ on (sI (sL (sI τ 3 1 0) 4 0 (X &&& Y)) 3 1 1) (((Fr.rf.i rfl).lc rfl).i rfl) rfl rfl
        simp only [oT, oN, E_H_pass, fIsA, fRt, fLen, fLit, fBool, nI_1]
        exact en
  rw [N_H_pass]
  simp only [E_H_pass, fIsA, fRt, fLen, fLit, fBool]
  exact loop 10 0 _ _ (by omega) (fun k hk => absurd hk (Nat.not_lt_zero _))
theorem lcmpB {b : Bool} : (lg_cmp (if b = true then 1 else 0) 0 = 0) = (b = false) := by
  cases b with
  | true => exact propext ⟨fun z => absurd z (by decide), fun z => absurd z (by decide)⟩
  | false => exact propext ⟨fun _ => rfl, fun _ => by decide⟩
theorem s_Mpass {d R C : Nat} {kd ht : Nat → Nat} {Q : Qt} {τ : St} (g : GI τ R C kd ht) (no : (∀ h, h ≤ 9 → ∀ q, ¬ onP kd ht R C h q) → ∀ τ', Fr [] [(69, 0)] τ τ' → Q (some (.int (-2))) τ') (yes : ∀ h X, h ≤ 9 → (∀ k, k < h → ∀ q, ¬ onP kd ht R C k q) → (∃ q, onP kd ht R C h q) → (∀ q, bitL X q = true ↔ onP kd ht R C h q) → ∀ τ', Fr [70] [(69, 0), (69, 1)] τ τ' → τ'.1 69 1 = 1 → τ'.2 70 0 = X → Q (some (.int (nI h))) τ') : Cl (d + 6) m_M_pass [.ref 69] τ Q := by
  have hn := g.n36
  rw [N_M_pass]
  simp only [E_M_pass, fIsA, fRt, fLen, fLit, fBool]
  have f0 := fr690 (τ := τ) (v := 0)
  generalize sI τ 69 0 0 = τ0 at f0 ⊢
  have g0 := g.fr f0 rfl
  have loop : ∀ (u h : Nat) (l2 l4 l5 : Option Value), h + u = 10 → (∀ k, k < h → ∀ q, ¬ onP kd ht R C k q) → Rs M_M_pass (d + 5) Q 7 [some (.ref 69), some (.int (nI h)), l2, none, l4, l5, none] [] τ0 := by
    intro u
    induction u with
    | zero =>
      intro h l2 l4 l5 hh hno
      obtain rfl : h = 10 := by omega
      rw [Rs_eq]
      simp only [E_M_pass, fIsA, fRt, fLen, fLit, fBool]
      exact ⟨fun _ => no (fun h hh => hno h (by omega)) τ0 f0, fun z => absurd (nI_lt (a := 9) (b := 10) (by omega) (by omega)) z⟩
    | succ u ih =>
      intro h l2 l4 l5 hh hno
      have inner : ∀ (v f : Nat) (X : Int64) (l5 : Option Value), f + v = R * C → (∀ q, bitL X q = true ↔ ∃ f', f' < f ∧ kd f' = 1 ∧ (∃ p, hbP kd R C p ∧ cnH kd ht R C h f' p) ∧ cnH kd ht R C h f' q) → Rs M_M_pass (d + 5) Q 18 [some (.ref 69), some (.int (nI h)), some (.long X), none, some (.int (nI f)), l5, none] [] τ0 := by
        intro v
        induction v with
        | zero =>
          intro f X l5 hf hX
          obtain rfl : f = R * C := by omega
          have on : ∀ q, bitL X q = true ↔ onP kd ht R C h q := fun q => by
            rw [hX q]
            constructor
            · rintro ⟨f', a, b, ⟨p, p1, p2⟩, c⟩
              exact ⟨f', p, ⟨a, b⟩, p1, c, p2⟩
            · rintro ⟨f', p, ⟨a, b⟩, p1, c, p2⟩
              exact ⟨f', a, b, ⟨p, p1, p2⟩, c⟩
          rw [Rs_eq]
          simp only [E_M_pass, fIsA, fRt, fLen, fLit, fBool]
          refine s_Mfields g0 ?_
          by_cases z : X = 0
          · have e0 : (lg_cmp X 0 = 0) = True := eq_true (lcmp0.mpr z)
            simp only [oT, oN, E_M_pass, fIsA, fRt, fLen, fLit, fBool, nI_1, e0]
            refine ⟨fun _ => ih (h + 1) _ _ _ (by omega) (fun k hk q w => ?_), fun z => absurd (Int32.le_refl _) z⟩
            by_cases e : k = h
            · subst e
              have := (on q).mpr w
              rw [z, bL_0] at this
              exact absurd this (by decide)
            · exact hno k (by omega) q w
          · have e0 : (lg_cmp X 0 = 0) = False := eq_false (fun w => z (lcmp0.mp w))
            simp only [oT, oN, E_M_pass, fIsA, fRt, fLen, fLit, fBool, nI_1, e0]
            refine ⟨fun _ => ?_, fun z => absurd (Int32.le_refl _) z⟩
            refine s_Menters (n := 0) rfl (by omega) ?_
            obtain ⟨q, _, hq⟩ := bit_ne z
            have en := yes h X (by omega) hno ⟨q, (on q).mp hq⟩ on (sI (sL (sI τ0 69 1 0) 70 0 X) 69 1 (nI (0 + 1))) (((((f0.wk rfl).i rfl).lc rfl).i rfl)) rfl rfl
            simp only [oT, oN, E_M_pass, fIsA, fRt, fLen, fLit, fBool, nI_1]
            exact en
        | succ v ih2 =>
          intro f X l5 hf hX
          have hfl : f < R * C := by omega
          have k3 := g0.2.2.1 f hfl
          have k4 := k3.1
          have skip : (∀ q, (kd f = 1 ∧ (∃ p, hbP kd R C p ∧ cnH kd ht R C h f p) ∧ cnH kd ht R C h f q) → bitL X q = true) → ∀ l5, Rs M_M_pass (d + 5) Q 18 [some (.ref 69), some (.int (nI h)), some (.long X), none, some (.int (nI (f + 1))), l5, none] [] τ0 := fun w l5 => ih2 (f + 1) X l5 (by omega) (fun q => by
            constructor
            · intro z
              obtain ⟨f', a, b⟩ := (hX q).mp z
              exact ⟨f', by omega, b⟩
            · rintro ⟨f', a, b⟩
              by_cases e : f' = f
              · subst e; exact w q b
              · exact (hX q).mpr ⟨f', by omega, b⟩)
          rw [Rs_eq]
          simp only [E_M_pass, fIsA, fRt, fLen, fLit, fBool]
          refine s_Mfields g0 ?_
          simp only [oT, oN, E_M_pass, fIsA, fRt, fLen, fLit, fBool, nI_1, sbitL (show f < 64 by omega), lcmpB, Int64.or_zero, nI_clamp (show f < 2 ^ 31 by omega), k3.2.1]
          refine ⟨fun z => absurd z (nI_ge (by omega) (by omega)), fun _ => ⟨vp_in_nI (by omega) (by omega), fun z => skip (fun q w => absurd (by rw [w.1]; rfl) z) _, fun z => ⟨fun y => ?_, fun y => ?_⟩⟩⟩
          · have y : bitL X f = true := by
              cases c : bitL X f with
              | true => rfl
              | false => exact absurd c y
            obtain ⟨f', a, b, hp, k, fk⟩ := (hX f).mp y
            refine skip (fun q w => ?_) _
            obtain ⟨_, _, k2, qk⟩ := w
            exact (hX q).mpr ⟨f', a, b, hp, cn_tr ⟨k, fk⟩ k2 q qk⟩
          · have z : kd f = 1 := (nI_eq (b := 1) (by omega) (by omega)).mp z
            refine s_MhangsWith g0 hfl (by omega) (by omega) (fun Y hY => ?_)
            have gd : ∀ q, cnH kd ht R C h f q → q < R * C := fun q ⟨k, w⟩ => (cn_good hfl (by omega) k q w).1
            have hY2 : ∀ q, bitL Y q = true ↔ cnH kd ht R C h f q := fun q => by
              by_cases q64 : q < 64
              · exact hY q q64
              · rw [bL_big (by omega)]
                exact ⟨fun w => absurd w (by decide), fun w => absurd (gd q w) (by omega)⟩
            simp only [oT, oN, E_M_pass, fIsA, fRt, fLen, fLit, fBool, nI_1]
            refine s_MhasKind g0 (fun ⟨p, p1, p2, p3⟩ => ?_) (fun w => ?_)
            · have nx := ih2 (f + 1) (X ||| Y) (some (.long Y)) (by omega) (fun q => by
                rw [bL_or, Bool.or_eq_true, hX q, hY2 q]
                constructor
                · rintro (⟨f', a, b⟩ | c)
                  · exact ⟨f', by omega, b⟩
                  · exact ⟨f, by omega, z, ⟨p, ⟨p1, p3⟩, (hY2 p).mp p2⟩, c⟩
                · rintro ⟨f', a, b⟩
                  by_cases e : f' = f
                  · subst e; exact Or.inr b.2.2
                  · exact Or.inl ⟨f', by omega, b⟩)
              simp only [oT, oN, E_M_pass, fIsA, fRt, fLen, fLit, fBool, nI_1, Int64.or_zero]
              exact nx
            · have nx := skip (fun q v => by
                obtain ⟨_, ⟨p, p1, p2⟩, _⟩ := v
                exact absurd p1.2 (w p p1.1 ((hY2 p).mpr p2))) (some (.long Y))
              simp only [oT, oN, E_M_pass, fIsA, fRt, fLen, fLit, fBool, nI_1, Int64.or_zero]
              exact nx
      rw [Rs_eq]
      simp only [E_M_pass, fIsA, fRt, fLen, fLit, fBool]
      refine ⟨fun z => ?_, fun _ => inner (R * C) 0 0 _ (by omega) (fun q => ?_)⟩
      · have := (nI_ltI (a := 9) (by omega) (by omega)).mp z
        omega
      · rw [bL_0]
        exact ⟨fun z => absurd z (by decide), fun ⟨f', a, _⟩ => absurd a (Nat.not_lt_zero _)⟩
  exact loop 10 0 _ _ _ (by omega) (fun k hk => absurd hk (Nat.not_lt_zero _))
theorem p_pass (t : Nat) : PrI t m_H_pass m_M_pass [] := by
  intro ht0 τ h
  obtain ⟨R, C, kd, ht, ns, n, hA, hT, hR⟩ := h
  have ⟨ga, sh, c, _, _, _, _, wa, ru⟩ := hA
  refine s_Hpass (d := 894) ga (fun no => ?_) (fun h X hh hno ex on τ1 f1 r1 r2 => ?_)
  · refine s_Mpass (d := 894) ga (fun _ τ2 f2 => ok rfl (hA.inv3 hT hR f2 rfl)) (fun h X hh _ ex => ?_)
    obtain ⟨q, hq⟩ := ex
    exact absurd hq (no h hh q)
  · refine s_Mpass (d := 894) (ga.fr f1 rfl) (fun no => ?_) (fun h' X' hh' hno' ex' on' τ2 f2 a1 a2 => ?_)
    · obtain ⟨q, hq⟩ := ex
      exact absurd hq (no h hh q)
    · have eh : h' = h := by
        obtain ⟨q, hq⟩ := ex
        obtain ⟨q', hq'⟩ := ex'
        rcases Nat.lt_trichotomy h h' with z | z | z
        · exact absurd hq (hno' h z q)
        · exact z.symm
        · exact absurd hq' (hno h' z q')
      subst eh
      have eX : X = X' := bL_ext (fun i _ => by
        cases c : bitL X i with
        | true => exact ((on' i).mpr ((on i).mp c)).symm
        | false =>
          cases c' : bitL X' i with
          | false => rfl
          | true => have := (on i).mpr ((on' i).mp c'); rw [c] at this; exact absurd this (by decide))
      subst eX
      have F : Fr [4, 70] [(3, 1), (69, 0), (69, 1)] τ τ2 := (f1.wk rfl).tr (f2.wk rfl)
      exact ok rfl (hA.inv F rfl (hT.fr F rfl) (RoI.one ((f2.u1 3 1 rfl).trans r1) a1 ((f2.c2 4 rfl 0).trans r2) a2))
