/-! WAYS: fields reached, the class -/
/-- q is reached from A in k drags by pulls of lim at most -/
def rcK (kd : Nat → Nat) (R C : Nat) (pl : Nat → Nat → Int32) (A : Int64) (lim : Int32) : Nat → Nat → Prop
  | 0, q => bitL A q = true
  | k + 1, q => rcK kd R C pl A lim k q ∨ ∃ f h, f < R * C ∧ h < 4 ∧ rcK kd R C pl A lim k f ∧ nk kd R C f h = some q ∧ ¬ lim < pl f q
theorem rc_mono {kd : Nat → Nat} {R C : Nat} {pl : Nat → Nat → Int32} {A : Int64} {lim : Int32} {q : Nat} : ∀ {k : Nat} (j : Nat), rcK kd R C pl A lim k q → rcK kd R C pl A lim (k + j) q
  | _, 0, h => h
  | _, j + 1, h => Or.inl (rc_mono j h)
theorem rc_stable {kd : Nat → Nat} {R C : Nat} {pl : Nat → Nat → Int32} {A : Int64} {lim : Int32} {i : Nat} (cl : ∀ f h q, f < R * C → h < 4 → rcK kd R C pl A lim i f → nk kd R C f h = some q → ¬ lim < pl f q → rcK kd R C pl A lim i q) : ∀ k q, rcK kd R C pl A lim k q → rcK kd R C pl A lim i q
  | 0, q, h => by have := rc_mono i h; rwa [Nat.zero_add] at this
  | k + 1, q, h => by
    rcases h with h | ⟨f, h', a, b, c, e, g⟩
    · exact rc_stable cl k q h
    · exact cl f h' q a b (rc_stable cl k f c) e g
def cnL (X : Int64) : Nat → Nat
  | 0 => 0
  | n + 1 => cnL X n + (if bitL X n then 1 else 0)
theorem cnL_le (X : Int64) : ∀ n, cnL X n ≤ n
  | 0 => Nat.le_refl _
  | n + 1 => by
    have := cnL_le X n
    show cnL X n + (if bitL X n then 1 else 0) ≤ n + 1
    split <;> omega
theorem cnL_mono {X Y : Int64} (h : ∀ q, bitL X q = true → bitL Y q = true) : ∀ n, cnL X n ≤ cnL Y n
  | 0 => Nat.le_refl _
  | n + 1 => by
    have := cnL_mono h n
    show cnL X n + (if bitL X n then 1 else 0) ≤ cnL Y n + (if bitL Y n then 1 else 0)
    cases c : bitL X n with
    | true => rw [h n c]; omega
    | false => rw [if_neg (by decide)]; omega
theorem cnL_lt {X Y : Int64} (h : ∀ q, bitL X q = true → bitL Y q = true) {p : Nat} (h1 : bitL X p = false) (h2 : bitL Y p = true) : ∀ n, p < n → cnL X n + 1 ≤ cnL Y n
  | 0, w => absurd w (Nat.not_lt_zero _)
  | n + 1, w => by
    show cnL X n + (if bitL X n then 1 else 0) + 1 ≤ cnL Y n + (if bitL Y n then 1 else 0)
    by_cases c : p = n
    · subst c
      have := cnL_mono h p
      rw [h1, h2, if_neg (by decide), if_pos rfl]
      omega
    · have := cnL_lt h h1 h2 n (by omega)
      cases c : bitL X n with
      | true => rw [h n c]; omega
      | false => rw [if_neg (by decide)]; omega
theorem lcmp0 {x : Int64} : lg_cmp x 0 = 0 ↔ x = 0 := by
  unfold lg_cmp
  by_cases c : x = 0
  · subst c; decide
  · constructor
    · intro z
      exfalso
      revert z
      split
      · decide
      · decide
    · intro z; exact absurd z c
theorem bit_ne {X : Int64} (h : X ≠ 0) : ∃ q, q < 64 ∧ bitL X q = true := by
  refine Classical.byContradiction (fun w => h (bL_ext (fun i hi => ?_)))
  rw [bL_0]
  cases c : bitL X i with
  | false => rfl
  | true => exact absurd ⟨i, hi, c⟩ w
theorem s_Wreached {d R C : Nat} {kd ht : Nat → Nat} {Q : Qt} {τ : St} {pl : Nat → Nat → Int32} {A : Int64} {lim : Int32} (g : GI τ R C kd ht)
    (pt : ∀ (f q : Nat) (Q' : Qt), f < R * C → q < R * C → Q' (some (.int (pl f q))) τ → Cl (d + 3) m_Ways_pullTo [.ref 59, .int (nI f), .int (nI q)] τ Q')
    (hA : ∀ q, bitL A q = true → q < R * C)
    (hQ : ∀ X : Int64, (∀ q, q < 64 → (bitL X q = true ↔ ∃ k, rcK kd R C pl A lim k q)) → Q (some (.long X)) τ) : Cl (d + 5) m_Ways_reached [.ref 59, .long A, .int lim] τ Q := by
  have hn := g.n36
  have done : ∀ (i : Nat) (X : Int64), (∀ q, q < 64 → (bitL X q = true ↔ rcK kd R C pl A lim i q)) → (∀ f h q, f < R * C → h < 4 → rcK kd R C pl A lim i f → nk kd R C f h = some q → ¬ lim < pl f q → rcK kd R C pl A lim i q) → Q (some (.long X)) τ := fun i X h1 h2 => hQ X (fun q hq => by
    rw [h1 q hq]
    exact ⟨fun z => ⟨i, z⟩, fun ⟨k, z⟩ => rc_stable h2 k q z⟩)
  have loop : ∀ (u i : Nat) (S F : Int64), i + u = 36 → (∀ q, q < 64 → (bitL S q = true ↔ rcK kd R C pl A lim i q)) → (∀ q, bitL F q = true → q < R * C ∧ rcK kd R C pl A lim i q) → (∀ f h q, f < R * C → h < 4 → rcK kd R C pl A lim i f → bitL F f = false → nk kd R C f h = some q → ¬ lim < pl f q → rcK kd R C pl A lim i q) → (F = 0 ∨ i + 1 ≤ cnL S 36) → Rs M_Ways_reached (d + 4) Q 9 [some (.ref 59), some (.long A), none, some (.int lim), some (.long S), none, some (.long F), none, some (.int (nI i))] [] τ := by
    intro u
    induction u with
    | zero =>
      intro i S F hi hS hF hc hN
      obtain rfl : i = 36 := by omega
      have F0 : F = 0 := by
        rcases hN with z | z
        · exact z
        · have := cnL_le S 36
          omega
      rw [Rs_eq]
      simp only [E_Ways_reached, fIsA, fRt, fLen, fLit, fBool]
      refine ⟨fun _ => done 36 S hS (fun f h q a b c e k => hc f h q a b c (by rw [F0, bL_0]) e k), fun z => absurd (Int32.le_refl _) z⟩
    | succ u ih =>
      intro i S F hi hS hF hc hN
      rw [Rs_eq]
      simp only [E_Ways_reached, fIsA, fRt, fLen, fLit, fBool]
      refine ⟨fun z => absurd z (nI_ge (b := 36) (by omega) (by omega)), fun _ => ?_⟩
      by_cases F0 : F = 0
      · refine ⟨fun _ => done i S hS (fun f h q a b c e k => hc f h q a b c (by rw [F0, bL_0]) e k), fun z => absurd (lcmp0.mpr F0) z⟩
      · refine ⟨fun z => absurd (lcmp0.mp z) F0, fun _ => ?_⟩
        refine s_WoneDrag g pt (fun X hX => ?_)
        simp only [oT, oN, E_Ways_reached, fIsA, fRt, fLen, fLit, fBool, nI_1]
        have bX : ∀ q, bitL X q = true → q < R * C ∧ bitL S q = false ∧ rcK kd R C pl A lim (i + 1) q := fun q z => by
          have hq : q < 64 := Nat.lt_of_not_le (fun w => by rw [bL_big w] at z; exact absurd z (by decide))
          obtain ⟨f, h, a, b, c, e, k, l⟩ := (hX q hq).mp z
          exact ⟨nk_lt a b e, k, Or.inr ⟨f, h, a, b, (hF f c).2, e, l⟩⟩
        refine ih (i + 1) (S ||| X) X (by omega) (fun q hq => ?_) (fun q z => ⟨(bX q z).1, (bX q z).2.2⟩) (fun f h q a b c e k l => ?_) ?_
        · rw [bL_or, Bool.or_eq_true]
          constructor
          · rintro (z | z)
            · exact Or.inl ((hS q hq).mp z)
            · exact (bX q z).2.2
          · rintro (z | ⟨f, h, a, b, c, e, k⟩)
            · exact Or.inl ((hS q hq).mpr z)
            · cases cF : bitL F f with
              | false => exact Or.inl ((hS q hq).mpr (hc f h q a b c cF e k))
              | true =>
                cases cS : bitL S q with
                | true => exact Or.inl rfl
                | false => exact Or.inr ((hX q hq).mpr ⟨f, h, a, b, cF, e, cS, k⟩)
        · refine Or.inr ⟨f, h, a, b, ?_, k, l⟩
          rcases c with c | ⟨f', h', a', b', c', e', k'⟩
          · exact c
          · have hf : f < 64 := by omega
            cases cF : bitL F f' with
            | false => exact hc f' h' f a' b' c' cF e' k'
            | true =>
              cases cS : bitL S f with
              | true => exact (hS f hf).mp cS
              | false =>
                have := (hX f hf).mpr ⟨f', h', a', b', cF, e', cS, k'⟩
                rw [e] at this
                exact absurd this (by decide)
        · by_cases X0 : X = 0
          · exact Or.inl X0
          · right
            obtain ⟨p, _, hp⟩ := bit_ne X0
            have b := bX p hp
            have := cnL_lt (X := S) (Y := S ||| X) (fun q z => by rw [bL_or, z, Bool.true_or]) b.2.1 (by rw [bL_or, hp, Bool.or_true]) 36 (by omega)
            rcases hN with z | z
            · exact absurd z F0
            · omega
  rw [N_Ways_reached]
  simp only [E_Ways_reached, fIsA, fRt, fLen, fLit, fBool]
  refine loop 36 0 A A (by omega) (fun q hq => Iff.rfl) (fun q z => ⟨hA q z, z⟩) (fun f h q a b c e => by rw [show bitL A f = true from c] at e; exact absurd e (by decide)) ?_
  by_cases A0 : A = 0
  · exact Or.inl A0
  · right
    obtain ⟨p, _, hp⟩ := bit_ne A0
    have := hA p hp
    have := cnL_lt (X := 0) (Y := A) (fun q z => by rw [bL_0] at z; exact absurd z (by decide)) (bL_0 p) hp 36 (by omega)
    omega
