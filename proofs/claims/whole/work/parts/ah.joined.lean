/-! PASS: fields joined, the class -/
def lowP (kd ht : Nat → Nat) (R C h q : Nat) : Prop := q < R * C ∧ kd q ≠ 3 ∧ ht q ≤ h
theorem s_GupTo {d R C h : Nat} {kd ht : Nat → Nat} {Q : Qt} {τ : St} (g : GI τ R C kd ht) (hh : h ≤ 9) (hQ : ∀ L : Int64, (∀ q, q < 64 → (bitL L q = true ↔ lowP kd ht R C h q)) → Q (some (.long L)) τ) : Cl (d + 3) m_Ground_upTo [.ref 5, .int (nI h)] τ Q := by
  have hn := g.n36
  have loop : ∀ (u k : Nat) (X : Int64), k + u = R * C → (∀ q, q < 64 → (bitL X q = true ↔ (q < R * C ∧ (kd q = 1 ∨ kd q = 2)) ∨ (q < k ∧ kd q = 0 ∧ ht q ≤ h))) → Rs M_Ground_upTo (d + 2) Q 13 [some (.ref 5), some (.int (nI h)), some (.long X), none, some (.int (nI k))] [] τ := by
    intro u
    induction u with
    | zero =>
      intro k X hk hX
      obtain rfl : k = R * C := by omega
      rw [Rs_eq]
      simp only [E_Ground_upTo, fIsA, fRt, fLen, fLit, fBool, g.2.1]
      refine ⟨fun _ => hQ X (fun q hq => ?_), fun z => absurd (Int32.le_refl _) z⟩
      rw [hX q hq]
      unfold lowP
      constructor
      · rintro (⟨a, b⟩ | ⟨a, b, c⟩)
        · have := (g.2.2.1 q a).1.2.2 (by omega)
          exact ⟨a, by omega, by omega⟩
        · exact ⟨a, by omega, c⟩
      · rintro ⟨a, b, c⟩
        have := (g.2.2.1 q a).1.1
        by_cases z : kd q = 0
        · exact Or.inr ⟨a, z, c⟩
        · exact Or.inl ⟨a, by omega⟩
    | succ u ih =>
      intro k X hk hX
      have hkl : k < R * C := by omega
      have k4 := (g.2.2.1 k hkl).1
      have skip : ¬ (kd k = 0 ∧ ht k ≤ h) → Rs M_Ground_upTo (d + 2) Q 13 [some (.ref 5), some (.int (nI h)), some (.long X), none, some (.int (nI (k + 1)))] [] τ := fun w => ih (k + 1) X (by omega) (fun q hq => by
        rw [hX q hq]
        refine or_congr Iff.rfl ⟨fun ⟨a, b⟩ => ⟨by omega, b⟩, fun ⟨a, b⟩ => ⟨?_, b⟩⟩
        have : q ≠ k := fun e => w (e ▸ b)
        omega)
      rw [Rs_eq]
      simp only [E_Ground_upTo, fIsA, fRt, fLen, fLit, fBool, g.2.1]
      refine ⟨fun z => absurd z (nI_ge (by omega) (by omega)), fun _ => ?_⟩
      refine s_Gkind g hkl ?_
      simp only [oT, oN, E_Ground_upTo, fIsA, fRt, fLen, fLit, fBool, nI_1]
      refine ⟨fun z => skip (fun w => z (by rw [w.1]; rfl)), fun z => ?_⟩
      have z : kd k = 0 := (nI_eq (b := 0) (by omega) (by omega)).mp z
      refine s_Gheight g hkl ?_
      simp only [oT, oN, E_Ground_upTo, fIsA, fRt, fLen, fLit, fBool, nI_1]
      refine ⟨fun y => ?_, fun y => ?_⟩
      · have y := (nI_ltI (by omega) (by omega)).mp y
        exact skip (fun w => by omega)
      · have y : ht k ≤ h := Nat.le_of_not_lt (fun w => y (nI_lt w (by omega)))
        refine ih (k + 1) _ (by omega) (fun q hq => ?_)
        rw [bL_or, bL_shl1 (by omega) hq, Bool.or_eq_true, decide_eq_true_iff, hX q hq]
        constructor
        · rintro ((a | ⟨a, b⟩) | e)
          · exact Or.inl a
          · exact Or.inr ⟨by omega, b⟩
          · subst e; exact Or.inr ⟨by omega, z, y⟩
        · rintro (a | ⟨a, b⟩)
          · exact Or.inl (Or.inl a)
          · by_cases e : q = k
            · exact Or.inr e
            · exact Or.inl (Or.inr ⟨by omega, b⟩)
  rw [N_Ground_upTo]
  simp only [E_Ground_upTo, fIsA, fRt, fLen, fLit, fBool]
  refine loop (R * C) 0 _ (by omega) (fun q hq => ?_)
  rw [bL_or, Bool.or_eq_true, (g.2.2.2.2 q hq).2.1, (g.2.2.2.2 q hq).2.2, decide_eq_true_iff, decide_eq_true_iff]
  constructor
  · rintro (⟨a, b⟩ | ⟨a, b⟩)
    · exact Or.inl ⟨a, Or.inl b⟩
    · exact Or.inl ⟨a, Or.inr b⟩
  · rintro (⟨a, b | b⟩ | ⟨a, _⟩)
    · exact Or.inl ⟨a, b⟩
    · exact Or.inr ⟨a, b⟩
    · exact absurd a (Nat.not_lt_zero _)
theorem s_GbesideAny {d R C : Nat} {kd ht : Nat → Nat} {Q : Qt} {τ : St} {A : Int64} (g : GI τ R C kd ht) (hQ : ∀ X : Int64, (∀ q, q < 64 → (bitL X q = true ↔ ∃ f h, f < R * C ∧ h < 4 ∧ bitL A f = true ∧ nk kd R C f h = some q)) → Q (some (.long X)) τ) : Cl (d + 3) m_Ground_besideAny [.ref 5, .long A] τ Q := by
  have hn := g.n36
  have od : ∀ q f h, odP kd R C (fun _ _ => 0) A 0 0 q f h ↔ (f < R * C ∧ h < 4 ∧ bitL A f = true ∧ nk kd R C f h = some q) := fun q f h => by
    unfold odP
    exact ⟨fun ⟨a, b, c, e, _⟩ => ⟨a, b, c, e⟩, fun ⟨a, b, c, e⟩ => ⟨a, b, c, e, bL_0 q, show ¬ (0 : Int32) < 0 by decide⟩⟩
  have outer : ∀ (u f : Nat) (X : Int64) (l6 l7 : Option Value), f + u = R * C → (∀ q, q < 64 → (bitL X q = true ↔ ∃ f' h', f' < f ∧ odP kd R C (fun _ _ => 0) A 0 0 q f' h')) → Rs M_Ground_besideAny (d + 2) Q 5 [some (.ref 5), some (.long A), none, some (.long X), none, some (.int (nI f)), l6, l7] [] τ := by
    intro u
    induction u with
    | zero =>
      intro f X l6 l7 hf hX
      obtain rfl : f = R * C := by omega
      rw [Rs_eq]
      simp only [E_Ground_besideAny, fIsA, fRt, fLen, fLit, fBool, g.2.1]
      refine ⟨fun _ => hQ X (fun q hq => ?_), fun z => absurd (Int32.le_refl _) z⟩
      rw [hX q hq]
      exact ⟨fun ⟨f', h', _, b⟩ => ⟨f', h', (od q f' h').mp b⟩, fun ⟨f', h', b⟩ => ⟨f', h', b.1, (od q f' h').mpr b⟩⟩
    | succ u ih =>
      intro f X l6 l7 hf hX
      have hfl : f < R * C := by omega
      have inner : ∀ (v h : Nat) (X : Int64) (l7 : Option Value), h + v = 4 → (∀ q, q < 64 → (bitL X q = true ↔ ∃ f' h', (f' < f ∨ f' = f ∧ h' < h) ∧ odP kd R C (fun _ _ => 0) A 0 0 q f' h')) → bitL A f = true → Rs M_Ground_besideAny (d + 2) Q 31 [some (.ref 5), some (.long A), none, some (.long X), none, some (.int (nI f)), some (.int (nI h)), l7] [] τ := by
        intro v
        induction v with
        | zero =>
          intro h X l7 hh hX hA
          obtain rfl : h = 4 := by omega
          rw [Rs_eq]
          simp only [E_Ground_besideAny, fIsA, fRt, fLen, fLit, fBool, nI_1]
          refine ⟨fun _ => ih (f + 1) X _ _ (by omega) (fun q hq => ?_), fun z => absurd (Int32.le_refl _) z⟩
          rw [hX q hq]
          constructor
          · rintro ⟨f', h', a, b⟩
            exact ⟨f', h', by omega, b⟩
          · rintro ⟨f', h', a, b⟩
            have := b.2.1
            exact ⟨f', h', by omega, b⟩
        | succ v ih2 =>
          intro h X l7 hh hX hA
          rw [Rs_eq]
          simp only [E_Ground_besideAny, fIsA, fRt, fLen, fLit, fBool]
          refine ⟨fun z => absurd z (nI_ge (b := 4) (by omega) (by omega)), fun _ => ?_⟩
          refine s_Gbeside g hfl (by omega) ?_
          simp only [oT, oN, E_Ground_besideAny, fIsA, fRt, fLen, fLit, fBool, nI_1]
          cases hnk : nk kd R C f h with
          | none =>
            refine ⟨fun _ => ih2 (h + 1) X _ (by omega) (odP_f hX (fun q hq w => ?_)) hA, fun z => absurd (show (-1 : Int32) = -1 from rfl) z⟩
            have := w.2.2.2.1
            rw [hnk] at this
            exact absurd this (by simp)
          | some p =>
            have hp : p < R * C := nk_lt hfl (by omega) hnk
            rw [show oI (some p) = nI p from rfl]
            refine ⟨fun z => absurd (z ▸ nI_pos (show p < 2 ^ 31 by omega)) (by decide), fun _ => ?_⟩
            refine ih2 (h + 1) _ _ (by omega) (bit_more (by omega) hX (fun q => ⟨fun w => ?_, fun w => ?_⟩)) hA
            · have w4 := w.2.2.2.1
              rw [hnk] at w4
              exact (Option.some.inj w4).symm
            · subst w
              exact ⟨hfl, by omega, hA, hnk, bL_0 q, show ¬ (0 : Int32) < 0 by decide⟩
      rw [Rs_eq]
      simp only [E_Ground_besideAny, fIsA, fRt, fLen, fLit, fBool, g.2.1, ubitL (show f < 64 by omega), nI_1]
      refine ⟨fun z => absurd z (nI_ge (by omega) (by omega)), fun _ => ?_⟩
      cases hA : bitL A f with
      | true =>
        have st := inner 4 0 X l7 (by omega) (fun q hq => by
          rw [hX q hq]
          constructor
          · rintro ⟨f', h', a, b⟩
            exact ⟨f', h', Or.inl a, b⟩
          · rintro ⟨f', h', a, b⟩
            exact ⟨f', h', by omega, b⟩) hA
        first
          | exact ⟨fun _ => st, fun z => absurd z (by decide)⟩
          | exact ⟨fun z => absurd z (by decide), fun _ => st⟩
      | false =>
        have st := ih (f + 1) X l6 l7 (by omega) (fun q hq => by
          rw [hX q hq]
          constructor
          · rintro ⟨f', h', a, b⟩
            exact ⟨f', h', by omega, b⟩
          · rintro ⟨f', h', a, b⟩
            refine ⟨f', h', ?_, b⟩
            by_cases c : f' = f
            · subst c
              have := b.2.2.1
              rw [hA] at this
              exact absurd this (by decide)
            · omega)
        first
          | exact ⟨fun z => absurd (by decide) z, fun _ => st⟩
          | exact ⟨fun z => absurd rfl z, fun _ => st⟩
          | exact ⟨fun _ => st, fun z => absurd (by decide) z⟩
  rw [N_Ground_besideAny]
  simp only [E_Ground_besideAny, fIsA, fRt, fLen, fLit, fBool]
  refine outer (R * C) 0 0 none none (by omega) (fun q hq => ?_)
  rw [bL_0]
  exact ⟨fun z => absurd z (by decide), fun ⟨f', h', z, _⟩ => absurd z (Nat.not_lt_zero _)⟩
/-- a step is allowed to fields of L alone -/
def plL (L : Int64) : Nat → Nat → Int32 := fun _ q => if bitL L q = true then 0 else 1
theorem plL_is {L : Int64} {f q : Nat} : ¬ (0 : Int32) < plL L f q ↔ bitL L q = true := by
  unfold plL
  by_cases c : bitL L q = true
  · rw [if_pos c]; exact ⟨fun _ => c, fun _ => by decide⟩
  · rw [if_neg c]; exact ⟨fun w => absurd (by decide) w, fun w => absurd w c⟩
theorem s_Gjoined {d R C : Nat} {kd ht : Nat → Nat} {Q : Qt} {τ : St} {A L : Int64} (g : GI τ R C kd ht) (hA : ∀ q, bitL A q = true → q < R * C)
    (hQ : ∀ X : Int64, (∀ q, q < 64 → (bitL X q = true ↔ ∃ k, rcK kd R C (plL L) A 0 k q)) → Q (some (.long X)) τ) : Cl (d + 4) m_Ground_joined [.ref 5, .long A, .long L] τ Q := by
  have hn := g.n36
  have done : ∀ (i : Nat) (X : Int64), (∀ q, q < 64 → (bitL X q = true ↔ rcK kd R C (plL L) A 0 i q)) → (∀ f h q, f < R * C → h < 4 → rcK kd R C (plL L) A 0 i f → nk kd R C f h = some q → ¬ (0 : Int32) < plL L f q → rcK kd R C (plL L) A 0 i q) → Q (some (.long X)) τ := fun i X h1 h2 => hQ X (fun q hq => by
    rw [h1 q hq]
    exact ⟨fun z => ⟨i, z⟩, fun ⟨k, z⟩ => rc_stable h2 k q z⟩)
  have loop : ∀ (u i : Nat) (S F : Int64), i + u = 36 → (∀ q, q < 64 → (bitL S q = true ↔ rcK kd R C (plL L) A 0 i q)) → (∀ q, bitL F q = true → q < R * C ∧ rcK kd R C (plL L) A 0 i q) → (∀ f h q, f < R * C → h < 4 → rcK kd R C (plL L) A 0 i f → bitL F f = false → nk kd R C f h = some q → ¬ (0 : Int32) < plL L f q → rcK kd R C (plL L) A 0 i q) → (F = 0 ∨ i + 1 ≤ cnL S 36) → Rs M_Ground_joined (d + 3) Q 9 [some (.ref 5), some (.long A), none, some (.long L), none, some (.long S), none, some (.long F), none, some (.int (nI i))] [] τ := by
    intro u
    induction u with
    | zero =>
      intro i S F hi hS hF hc hN
      obtain rfl : i = 36 := by omega
      have F0 : F = 0 := by
        rcases hN with z | z
        · exact z
        · have := cnL_le S 36
          omega
      rw [Rs_eq]
      simp only [E_Ground_joined, fIsA, fRt, fLen, fLit, fBool]
      refine ⟨fun _ => done 36 S hS (fun f h q a b c e k => hc f h q a b c (by rw [F0, bL_0]) e k), fun z => absurd (Int32.le_refl _) z⟩
    | succ u ih =>
      intro i S F hi hS hF hc hN
      rw [Rs_eq]
      simp only [E_Ground_joined, fIsA, fRt, fLen, fLit, fBool]
      refine ⟨fun z => absurd z (nI_ge (b := 36) (by omega) (by omega)), fun _ => ?_⟩
      by_cases F0 : F = 0
      · refine ⟨fun _ => done i S hS (fun f h q a b c e k => hc f h q a b c (by rw [F0, bL_0]) e k), fun z => absurd (lcmp0.mpr F0) z⟩
      · refine ⟨fun z => absurd (lcmp0.mp z) F0, fun _ => ?_⟩
        refine s_GbesideAny g (fun X0 hX0 => ?_)
        simp only [oT, oN, E_Ground_joined, fIsA, fRt, fLen, fLit, fBool, nI_1]
        have hX : ∀ q, q < 64 → (bitL ((X0 &&& L) &&& (S ^^^ (-1))) q = true ↔ ∃ f h, f < R * C ∧ h < 4 ∧ bitL F f = true ∧ nk kd R C f h = some q ∧ bitL S q = false ∧ ¬ (0 : Int32) < plL L f q) := fun q hq => by
          rw [bL_and, bL_and, bL_xor, bL_m1 q hq, Bool.and_eq_true, Bool.and_eq_true, hX0 q hq]
          constructor
          · rintro ⟨⟨⟨f, h, a, b, c, e⟩, l⟩, s⟩
            refine ⟨f, h, a, b, c, e, ?_, plL_is.mpr l⟩
            cases hs : bitL S q with
            | false => rfl
            | true => rw [hs] at s; exact absurd s (by decide)
          · rintro ⟨f, h, a, b, c, e, s, l⟩
            exact ⟨⟨⟨f, h, a, b, c, e⟩, plL_is.mp l⟩, by rw [s]; rfl⟩
        generalize ((X0 &&& L) &&& (S ^^^ (-1))) = X at hX ⊢
        have bX : ∀ q, bitL X q = true → q < R * C ∧ bitL S q = false ∧ rcK kd R C (plL L) A 0 (i + 1) q := fun q z => by
          have hq : q < 64 := Nat.lt_of_not_le (fun w => by rw [bL_big w] at z; exact absurd z (by decide))
          obtain ⟨f, h, a, b, c, e, k, l⟩ := (hX q hq).mp z
          exact ⟨nk_lt a b e, k, Or.inr ⟨f, h, a, b, (hF f c).2, e, l⟩⟩
        refine ih (i + 1) (S ||| X) X (by omega) (fun q hq => ?_) (fun q z => ⟨(bX q z).1, (bX q z).2.2⟩) (fun f h q a b c e k l => ?_) ?_
        · rw [bL_or, Bool.or_eq_true]
          constructor
          · rintro (z | z)
            · exact Or.inl ((hS q hq).mp z)
            · exact (bX q z).2.2
          · rintro (z | ⟨f, h, a, b, c, e, k⟩)
            · exact Or.inl ((hS q hq).mpr z)
            · cases cF : bitL F f with
              | false => exact Or.inl ((hS q hq).mpr (hc f h q a b c cF e k))
              | true =>
                cases cS : bitL S q with
                | true => exact Or.inl rfl
                | false => exact Or.inr ((hX q hq).mpr ⟨f, h, a, b, cF, e, cS, k⟩)
        · refine Or.inr ⟨f, h, a, b, ?_, k, l⟩
          rcases c with c | ⟨f', h', a', b', c', e', k'⟩
          · exact c
          · have hf : f < 64 := by omega
            cases cF : bitL F f' with
            | false => exact hc f' h' f a' b' c' cF e' k'
            | true =>
              cases cS : bitL S f with
              | true => exact (hS f hf).mp cS
              | false =>
                have := (hX f hf).mpr ⟨f', h', a', b', cF, e', cS, k'⟩
                rw [e] at this
                exact absurd this (by decide)
        · by_cases X0 : X = 0
          · exact Or.inl X0
          · right
            obtain ⟨p, _, hp⟩ := bit_ne X0
            have b := bX p hp
            have := cnL_lt (X := S) (Y := S ||| X) (fun q z => by rw [bL_or, z, Bool.true_or]) b.2.1 (by rw [bL_or, hp, Bool.or_true]) 36 (by omega)
            rcases hN with z | z
            · exact absurd z F0
            · omega
  rw [N_Ground_joined]
  simp only [E_Ground_joined, fIsA, fRt, fLen, fLit, fBool]
  refine loop 36 0 A A (by omega) (fun q hq => Iff.rfl) (fun q z => ⟨hA q z, z⟩) (fun f h q a b c e => by rw [show bitL A f = true from c] at e; exact absurd e (by decide)) ?_
  by_cases A0 : A = 0
  · exact Or.inl A0
  · right
    obtain ⟨p, _, hp⟩ := bit_ne A0
    have := hA p hp
    have := cnL_lt (X := 0) (Y := A) (fun q z => by rw [bL_0] at z; exact absurd z (by decide)) (bL_0 p) hp 36 (by omega)
    omega
