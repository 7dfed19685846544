/-! WAYS to harbours: the fewest oxen -/
/-- harbours -/
def hbP (kd : Nat → Nat) (R C : Nat) (q : Nat) : Prop := q < R * C ∧ kd q = 2
theorem rc_one {kd : Nat → Nat} {R C x l q : Nat} {P : Nat → Nat → Nat} {pl : Nat → Nat → Int32} (hpl : ∀ f q, pl f q = nI (P f q)) (hP : ∀ f q, P f q ≤ 1498) (hl : l < 2 ^ 31) (hx : x < R * C) (hn : R * C ≤ 36) (kx : kd x ≠ 3) : (∃ k, rcK kd R C pl (1 <<< ((nI x).toInt64 &&& 63)) (nI l) k q) ↔ ∃ j, toK kd R C P (fun p => p = q) l j x := by
  have oA := one_bit hx hn
  constructor
  · rintro ⟨k, z⟩
    obtain ⟨f, j, a, b⟩ := rc_to (T := fun p => p = q) hpl hP hl (fun p z => by rw [oA p] at z; subst z; exact ⟨hx, kx⟩) k q 0 z rfl
    rw [oA f] at a
    subst a
    exact ⟨j, b⟩
  · rintro ⟨j, z⟩
    obtain ⟨q', k, a, b⟩ := to_rc (A := 1 <<< ((nI x).toInt64 &&& 63)) hpl hP hl j x 0 z ((oA x).mpr rfl)
    have a : q' = q := a
    subst a
    exact ⟨k, b⟩
theorem s_HfirstOf {d : Nat} {x : Int64} {Q : Qt} {τ : St} (yes : ∀ q, q < 36 → bitL x q = true → (∀ p, p < q → bitL x p = false) → Q (some (.int (nI q))) τ) (no : (∀ q, q < 36 → bitL x q = false) → Q (some (.int (-1))) τ) : Cl (d + 1) m_H_firstOf [.long x] τ Q := by
  have loop : ∀ (u k : Nat), k + u = 36 → (∀ p, p < k → bitL x p = false) → Rs M_H_firstOf d Q 2 [some (.long x), none, some (.int (nI k))] [] τ := by
    intro u
    induction u with
    | zero =>
      intro k hk h
      obtain rfl : k = 36 := by omega
      rw [Rs_eq]
      simp only [E_H_firstOf, fIsA, fRt, fLen, fLit, fBool]
      exact ⟨fun _ => no h, fun z => absurd (Int32.le_refl _) z⟩
    | succ u ih =>
      intro k hk h
      rw [Rs_eq]
      simp only [E_H_firstOf, fIsA, fRt, fLen, fLit, fBool, ubitL (show k < 64 by omega), nI_1]
      refine ⟨fun z => absurd z (nI_ge (b := 36) (by omega) (by omega)), fun _ => ?_⟩
      cases hx : bitL x k with
      | false =>
        exact ⟨fun _ => ih (k + 1) (by omega) (fun p hp => by
          by_cases c : p = k
          · subst c; exact hx
          · exact h p (by omega)), fun z => absurd (by decide) z⟩
      | true => exact ⟨fun z => absurd z (by decide), fun _ => yes k (by omega) hx h⟩
  rw [N_H_firstOf]
  simp only [E_H_firstOf, fIsA, fRt, fLen, fLit, fBool]
  exact loop 36 0 (by omega) (fun p hp => absurd hp (Nat.not_lt_zero _))
theorem s_MoxenOf {d R C ns o e m i B s x : Nat} {kd ht : Nat → Nat} {W S r : Nat → Int32} {P : Nat → Nat → Nat} {Q : Qt} {τ : St} (E : EnvI R C kd ht ns o e m W S τ) (row : RowG ns (R * C) B kd r) (hr : ∀ j, j < 50 → τ.1 75 j = r j) (hi : r 46 = nI i) (hi2 : i < 2 ^ 30) (hP : ∀ f q, plF ht m S (W s) r (r 47) i f q = nI (P f q) ∧ P f q ≤ 1498) (hs : s < ns) (hx : x < R * C) (ex : r (36 + s) = nI x)
    (far : (∀ q j, hbP kd R C q → ¬ toK kd R C P (fun p => p = q) 1498 j x) → ∀ τ', Fr [82, 83, 88, 89, 90] [(69, 37)] τ τ' → Q (some (.int 1000000)) τ')
    (good : ∀ k b, k ≤ 1498 → hbP kd R C b → (∃ j, toK kd R C P (fun p => p = b) k j x) → (∀ q, hbP kd R C q → ∀ k', k' < k → ∀ j, ¬ toK kd R C P (fun p => p = q) k' j x) → (∀ q, q < b → hbP kd R C q → ∀ j, ¬ toK kd R C P (fun p => p = q) k j x) → ∀ τ', Fr [82, 83, 88, 89, 90] [(69, 37)] τ τ' → τ'.1 69 37 = nI b → Q (some (.int (nI k))) τ') : Cl (d + 8) m_M_oxenOf [.ref 69, .int (nI s)] τ Q := by
  have hn := E.1.1.n36
  have h8 := E.1.2.1.1
  have hW : τ.1 73 s = W s := congrFun E.2.2.1 s
  have hP2 : ∀ f q, P f q ≤ 1498 := fun f q => (hP f q).2
  have e36 : (36 : Int32) + nI s = nI (36 + s) := nI_add 36 s
  rw [N_M_oxenOf]
  simp only [E_M_oxenOf, fIsA, fRt, fLen, fLit, fBool, fIx, nI_clamp (show s < 2 ^ 31 by omega), hr 46 (by omega), hr 47 (by omega), hi, hW]
  refine ⟨vp_in_nI (by omega) (by omega), ?_⟩
  refine s_laysPulls E row hr hi2 (fun τ1 f1 pu0 => ?_)
  simp only [oT, oN, E_M_oxenOf, fIsA, fRt, fLen, fLit, fBool]
  have pu := PuN.of hP pu0
  have F1 : Fr [82, 83, 88, 89, 90] [(69, 37)] τ (sI τ1 69 37 (-1)) := (f1.wk rfl).i rfl
  have pu1 := pu.fr (Fr.rf.i (k := 69) (j := 37) (v := -1) (cs := []) (fs := [(69, 37)]) rfl) rfl
  generalize sI τ1 69 37 (-1) = τ2 at F1 pu1 ⊢
  have loop : ∀ (u t : Nat) (τ3 : St) (L : Nat) (l4 : Option Value), t + u = R * C → Fr [88, 89] [(69, 37)] τ2 τ3 → ((L = 1000000 ∧ ∀ q j, q < t → kd q = 2 → ¬ toK kd R C P (fun p => p = q) 1498 j x) ∨ (L ≤ 1498 ∧ ∃ b, b < t ∧ kd b = 2 ∧ τ3.1 69 37 = nI b ∧ (∃ j, toK kd R C P (fun p => p = b) L j x) ∧ (∀ q, q < t → kd q = 2 → ∀ k', k' < L → ∀ j, ¬ toK kd R C P (fun p => p = q) k' j x) ∧ ∀ q, q < b → kd q = 2 → ∀ j, ¬ toK kd R C P (fun p => p = q) L j x)) → Rs M_M_oxenOf (d + 7) Q 39 [some (.ref 69), some (.int (nI s)), some (.int (nI L)), some (.int (nI t)), l4] [] τ3 := by
    intro u
    induction u with
    | zero =>
      intro t τ3 L l4 ht f3 hL
      obtain rfl : t = R * C := by omega
      have F3 : Fr [82, 83, 88, 89, 90] [(69, 37)] τ τ3 := F1.tr (f3.wk rfl)
      rw [Rs_eq]
      simp only [E_M_oxenOf, fIsA, fRt, fLen, fLit, fBool]
      refine s_Mfields (E.1.1.fr F3 rfl) ?_
      simp only [oT, oN, E_M_oxenOf, fIsA, fRt, fLen, fLit, fBool]
      refine ⟨fun _ => ?_, fun z => absurd (Int32.le_refl _) z⟩
      rcases hL with ⟨rfl, no⟩ | ⟨hL, b, b1, b2, b3, b4, b5, b6⟩
      · exact far (fun q j hq => no q j hq.1 hq.2) τ3 F3
      · exact good L b hL ⟨b1, b2⟩ b4 (fun q hq => b5 q hq.1 hq.2) (fun q hq hq2 => b6 q hq hq2.2) τ3 F3 b3
    | succ u ih =>
      intro t τ3 L l4 ht f3 hL
      have F3 : Fr [82, 83, 88, 89, 90] [(69, 37)] τ τ3 := F1.tr (f3.wk rfl)
      have g3 := E.1.1.fr F3 rfl
      have htl : t < R * C := by omega
      have kt := g3.2.2.1 t htl
      have kt4 := kt.1.1
      have hL6 : L ≤ 1000000 := by
        rcases hL with ⟨w, _⟩ | ⟨w, _⟩ <;> omega
      rw [Rs_eq]
      simp only [E_M_oxenOf, fIsA, fRt, fLen, fLit, fBool]
      refine s_Mfields g3 ?_
      simp only [oT, oN, E_M_oxenOf, fIsA, fRt, fLen, fLit, fBool, nI_1, nI_clamp (show t < 2 ^ 31 by omega), kt.2.1]
      refine ⟨fun z => absurd z (nI_ge (by omega) (by omega)), fun _ => ⟨vp_in_nI (by omega) (by omega), fun z => ?_, fun z => ?_⟩⟩
      · have z : kd t ≠ 2 := fun w => z (by rw [w]; rfl)
        refine ih (t + 1) τ3 L l4 (by omega) f3 ?_
        rcases hL with ⟨w, no⟩ | ⟨w, b, b1, b2, b3, b4, b5, b6⟩
        · exact Or.inl ⟨w, fun q j hq kq => no q j (Nat.lt_of_le_of_ne (Nat.le_of_lt_succ hq) (fun e => z (e ▸ kq))) kq⟩
        · exact Or.inr ⟨w, b, by omega, b2, b3, b4, fun q hq kq => b5 q (Nat.lt_of_le_of_ne (Nat.le_of_lt_succ hq) (fun e => z (e ▸ kq))) kq, b6⟩
      · have z : kd t = 2 := (nI_eq (b := 2) (by omega) (by omega)).mp z
        refine s_laysHard (z := false) rfl g3 (pu1.fr f3 rfl) hP2 htl (fun τ4 hd mm f4 h4 lh tg => ?_)
        have F4 : Fr [82, 83, 88, 89, 90] [(69, 37)] τ τ4 := F3.tr (f4.wk rfl)
        have f24 : Fr [88, 89] [(69, 37)] τ2 τ4 := f3.tr (f4.wk rfl)
        have bx := lh.2.1 x (by omega)
        have epl : τ4.1 75 (36 + s) = nI x := (F4.c1 75 rfl _).trans ((hr (36 + s) (by omega)).trans ex)
        have eb : τ4.1 69 37 = τ3.1 69 37 := f4.u1 69 37 rfl
        have keepI : sI τ4 69 37 (τ4.1 69 37) = τ4 := sI_same rfl
        simp only [oT, oN, E_M_oxenOf, fIsA, fRt, fLen, fLit, fBool, nI_1, e36, nI_clamp (show 36 + s < 2 ^ 31 by omega), epl, nI_clamp (show x < 2 ^ 31 by omega), (h4 x (by omega)).1, keepI]
        have e88 : ∀ v, (sI τ4 69 37 v).1 88 x = nI (hd x) := fun v => by
          simp only [sI_1, reduceIte, Nat.reduceEqDiff]
          exact (h4 x (by omega)).1
        have mn : (if nI (hd x) < nI L then nI (hd x) else nI L) = nI (min (hd x) L) := by
          by_cases c : hd x < L
          · rw [if_pos (nI_lt c (by omega)), Nat.min_eq_left (by omega)]
          · rw [if_neg (fun w => c ((nI_ltI (by omega) (by omega)).mp w)), Nat.min_eq_right (by omega)]
        have tk : ∀ l, l < 1000000 → ((∃ j, toK kd R C P (fun p => p = t) l j x) ↔ hd x ≤ l) := fun l hl => ⟨fun ⟨j, w⟩ => lh_to lh tg hl j x w, fun w => lh_of lh (by omega) hl w⟩
        have d2 := lh.2.2.2.2 rfl x (by omega)
        simp only [mn]
        refine ⟨vp_in_nI (by omega) (by omega), vp_in_nI (by omega) (by omega), fun c => ?_, fun c => ?_⟩
        · have c : L ≤ hd x := (nI_leI (by omega) (by omega)).mp c
          rw [Nat.min_eq_right c]
          refine ih (t + 1) τ4 L _ (by omega) f24 ?_
          rcases hL with ⟨w, no⟩ | ⟨w, b, b1, b2, b3, b4, b5, b6⟩
          · refine Or.inl ⟨w, fun q j hq kq => ?_⟩
            by_cases e : q = t
            · subst e
              intro w2
              have := (tk 1498 (by omega)).mp ⟨j, w2⟩
              omega
            · exact no q j (by omega) kq
          · refine Or.inr ⟨w, b, by omega, b2, eb.trans b3, b4, fun q hq kq k' hk' j => ?_, b6⟩
            by_cases e : q = t
            · subst e
              intro w2
              have := (tk k' (by omega)).mp ⟨j, w2⟩
              omega
            · exact b5 q (by omega) kq k' hk' j
        · have c : hd x < L := Nat.lt_of_not_le (fun w => c (nI_le w (by omega)))
          have d3 := d2 (by omega)
          rw [Nat.min_eq_left (by omega)]
          refine ih (t + 1) _ (hd x) _ (by omega) (f24.i rfl) (Or.inr ⟨d3.1, t, by omega, z, rfl, d3.2, fun q hq kq k' hk' j => ?_, fun q hq kq j => ?_⟩)
          · by_cases e : q = t
            · subst e
              intro w2
              have := (tk k' (by omega)).mp ⟨j, w2⟩
              omega
            · rcases hL with ⟨w, no⟩ | ⟨w, b, b1, b2, b3, b4, b5, b6⟩
              · exact fun w2 => no q j (by omega) kq (toK_lim (by omega) j x w2)
              · exact b5 q (by omega) kq k' (by omega) j
          · rcases hL with ⟨w, no⟩ | ⟨w, b, b1, b2, b3, b4, b5, b6⟩
            · exact fun w2 => no q j hq kq (toK_lim d3.1 j x w2)
            · exact b5 q hq kq (hd x) c j
  exact loop (R * C) 0 τ2 1000000 none (by omega) Fr.rf (Or.inl ⟨rfl, fun q j hq => absurd hq (Nat.not_lt_zero _)⟩)
