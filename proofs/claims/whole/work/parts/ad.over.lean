/-! HOURS: fields reached hour by hour -/
def rcH (kd : Nat → Nat) (R C : Nat) (P : Nat → Nat → Nat → Nat) (o x : Nat) : Nat → Nat → Prop
  | 0, q => q = x
  | k + 1, q => rcH kd R C P o x k q ∨ ∃ f h, eG kd R C f h q ∧ rcH kd R C P o x k f ∧ P k f q ≤ o
def hvP (kd : Nat → Nat) (R C : Nat) (P : Nat → Nat → Nat → Nat) (o x v : Nat) : Prop := (v ≤ 60 ∧ (∃ q, hbP kd R C q ∧ rcH kd R C P o x v q) ∧ ∀ k, k < v → ∀ q, hbP kd R C q → ¬ rcH kd R C P o x k q) ∨ (v = 61 ∧ ∀ k, k ≤ 60 → ∀ q, hbP kd R C q → ¬ rcH kd R C P o x k q)
theorem hvP_uq {kd : Nat → Nat} {R C o x v v' : Nat} {P : Nat → Nat → Nat → Nat} (h : hvP kd R C P o x v) (h' : hvP kd R C P o x v') : v = v' := by
  rcases h with ⟨a, ⟨q, q1, q2⟩, b⟩ | ⟨a, b⟩
  · rcases h' with ⟨a', ⟨q', q1', q2'⟩, b'⟩ | ⟨a', b'⟩
    · rcases Nat.lt_trichotomy v v' with z | z | z
      · exact absurd q2 (b' v z q q1)
      · exact z
      · exact absurd q2' (b v' z q' q1')
    · exact absurd q2 (b' v a q q1)
  · rcases h' with ⟨a', ⟨q', q1', q2'⟩, b'⟩ | ⟨a', b'⟩
    · exact absurd q2' (b v' a' q' q1')
    · omega
theorem hvP_le {kd : Nat → Nat} {R C o x v : Nat} {P : Nat → Nat → Nat → Nat} (h : hvP kd R C P o x v) : v ≤ 61 := by
  rcases h with ⟨a, _⟩ | ⟨a, _⟩ <;> omega
theorem rcH_good {kd : Nat → Nat} {R C o x : Nat} {P : Nat → Nat → Nat → Nat} (hx : x < R * C) (kx : kd x ≠ 3) : ∀ k q, rcH kd R C P o x k q → q < R * C ∧ kd q ≠ 3
  | 0, q, z => by have z : q = x := z; subst z; exact ⟨hx, kx⟩
  | k + 1, q, z => by
    rcases z with z | ⟨f, h, e, _, _⟩
    · exact rcH_good hx kx k q z
    · exact ⟨eG_lt e, (nk_nb e.2.2.2).2⟩
theorem s_MhoursOf {d R C ns o i B s x h m : Nat} {kd ht : Nat → Nat} {S r : Nat → Int32} {P : Nat → Nat → Nat → Nat} {w : Int32} {Q : Qt} {τ : St} (g : GI τ R C kd ht) (lm : τ.1 69 24 = nI m) (sS : ∀ j, j < m → τ.1 80 j = S j) (rk : RkM m S) (row : RowG ns (R * C) B kd r) (hr : ∀ j, j < 50 → τ.1 75 j = r j) (hi : r 46 = nI i) (hi2 : i < 2 ^ 29) (h47 : r 47 = nI h) (hh : h < 10) (h74 : τ.1 74 0 = nI o) (ho : o ≤ 999) (hW : τ.1 73 s = w) (hs : s < 8) (ex : r (36 + s) = nI x) (hx : x < R * C)
    (hP : ∀ k f q, plF ht m S w r (nI ((h + k) % 10)) (i + (h + k) / 10) f q = nI (P k f q) ∧ P k f q ≤ 1498)
    (hQ : ∀ v τ', hvP kd R C P o x v → Fr [82, 83, 90] [] τ τ' → Q (some (.int (nI v))) τ') : Cl (d + 8) m_M_hoursOf [.ref 69, .int (nI s)] τ Q := by
  have hn := g.n36
  have e36 : (36 : Int32) + nI s = nI (36 + s) := nI_add 36 s
  have loop : ∀ (u k : Nat) (X : Int64) (τ1 : St) (l5 l6 l8 l9 : Option Value), k + u = 61 → Fr [82, 83, 90] [] τ τ1 → (∀ q, q < 64 → (bitL X q = true ↔ rcH kd R C P o x k q)) → (∀ k', k' < k → ∀ q, hbP kd R C q → ¬ rcH kd R C P o x k' q) → Rs M_M_hoursOf (d + 7) Q 15 [some (.ref 69), some (.int (nI s)), some (.long X), none, some (.int (nI k)), l5, l6, none, l8, l9] [] τ1 := by
    intro u
    induction u with
    | zero =>
      intro k X τ1 l5 l6 l8 l9 hk fr hX hno
      obtain rfl : k = 61 := by omega
      rw [Rs_eq]
      simp only [E_M_hoursOf, fIsA, fRt, fLen, fLit, fBool]
      exact ⟨fun _ => hQ 61 τ1 (Or.inr ⟨rfl, fun k hk => hno k (by omega)⟩) fr, fun z => absurd (nI_lt (a := 60) (b := 61) (by omega) (by omega)) z⟩
    | succ u ih =>
      intro k X τ1 l5 l6 l8 l9 hk fr hX hno
      have g1 := g.fr fr rfl
      have hr1 : ∀ j, j < 50 → τ1.1 75 j = r j := fun j hj => (fr.c1 75 rfl j).trans (hr j hj)
      have hW1 : τ1.1 73 s = w := (fr.c1 73 rfl s).trans hW
      have d10 : nI (h + k) / 10 = nI ((h + k) / 10) := pk_div (d := 10) (by omega) (by omega) (by omega)
      have r10 : nI (h + k) - nI (h + k) / 10 * 10 = nI ((h + k) % 10) := pk_rem (d := 10) (by omega) (by omega) (by omega)
      rw [d10] at r10
      rw [Rs_eq]
      simp only [E_M_hoursOf, fIsA, fRt, fLen, fLit, fBool]
      refine ⟨fun z => ?_, fun _ => ?_⟩
      · have := (nI_ltI (a := 60) (by omega) (by omega)).mp z
        omega
      refine s_MhasKind g1 (fun ⟨q, q1, q2, q3⟩ => ?_) (fun no => ?_)
      · have en := hQ k τ1 (Or.inl ⟨by omega, ⟨q, ⟨q1, q3⟩, (hX q (by omega)).mp q2⟩, hno⟩) fr
        simp only [oT, oN, E_M_hoursOf, fIsA, fRt, fLen, fLit, fBool]
        exact en
      · have hno1 : ∀ k', k' < k + 1 → ∀ q, hbP kd R C q → ¬ rcH kd R C P o x k' q := fun k' hk' q hq z => by
          by_cases e : k' = k
          · subst e; exact no q hq.1 ((hX q (by have := hq.1; omega)).mpr z) hq.2
          · exact hno k' (by omega) q hq z
        simp only [oT, oN, E_M_hoursOf, fIsA, fRt, fLen, fLit, fBool, fIx, hr1 46 (by omega), hr1 47 (by omega), hi, h47, nI_add, d10, r10, nI_clamp (show s < 2 ^ 31 by omega), hW1]
        refine ⟨vp_in_nI (by omega) (by omega), by decide, by decide, ?_⟩
        refine s_laysPullsR g1 ((fr.u1 69 24 rfl).trans lm) (fun j hj => (fr.c1 80 rfl j).trans (sS j hj)) rk row hr1 (by omega) (fun τ2 f2 pu0 => ?_)
        simp only [oT, oN, E_M_hoursOf, fIsA, fRt, fLen, fLit, fBool]
        have F2 := fr.tr f2
        have g2 := g.fr F2 rfl
        have pu := PuN.of (hP k) pu0
        have eo : τ2.1 74 0 = nI o := (F2.c1 74 rfl 0).trans h74
        have inner : ∀ (v j : Nat) (N : Int64) (l9 : Option Value), j + v = 144 → (∀ q, q < 64 → (bitL N q = true ↔ bitL X q = true ∨ ∃ f h', 4 * f + h' < j ∧ eG kd R C f h' q ∧ bitL X f = true ∧ P k f q ≤ o)) → Rs M_M_hoursOf (d + 7) Q 84 [some (.ref 69), some (.int (nI s)), some (.long X), none, some (.int (nI k)), some (.int (nI (h + k))), some (.long N), none, some (.int (nI j)), l9] [] τ2 := by
          intro v
          induction v with
          | zero =>
            intro j N l9 hj hN
            obtain rfl : j = 144 := by omega
            rw [Rs_eq]
            simp only [E_M_hoursOf, fIsA, fRt, fLen, fLit, fBool, nI_1]
            refine ⟨fun _ => ih (k + 1) N τ2 _ _ _ _ (by omega) F2 (fun q hq => ?_) hno1, fun z => absurd (Int32.le_refl _) z⟩
            rw [hN q hq]
            constructor
            · rintro (z | ⟨f, h', _, e, b, l⟩)
              · exact Or.inl ((hX q hq).mp z)
              · exact Or.inr ⟨f, h', e, (hX f (by have := e.1; omega)).mp b, l⟩
            · rintro (z | ⟨f, h', e, b, l⟩)
              · exact Or.inl ((hX q hq).mpr z)
              · exact Or.inr ⟨f, h', by have := e.1; have := e.2.1; omega, e, (hX f (by have := e.1; omega)).mpr b, l⟩
          | succ v ih2 =>
            intro j N l9 hj hN
            have dv : nI j / 4 = nI (j / 4) := pk_div (d := 4) (by omega) (by omega) (by omega)
            have rm : nI j - nI j / 4 * 4 = nI (j % 4) := pk_rem (d := 4) (by omega) (by omega) (by omega)
            rw [dv] at rm
            have pk := pu j (by omega)
            have skip : (∀ q, eG kd R C (j / 4) (j % 4) q → bitL X (j / 4) = true → ¬ P k (j / 4) q ≤ o) → ∀ l9, Rs M_M_hoursOf (d + 7) Q 84 [some (.ref 69), some (.int (nI s)), some (.long X), none, some (.int (nI k)), some (.int (nI (h + k))), some (.long N), none, some (.int (nI (j + 1))), l9] [] τ2 := fun w l9 => ih2 (j + 1) N l9 (by omega) (fun q hq => by
              rw [hN q hq]
              refine or_congr Iff.rfl ⟨fun ⟨f, h', a, b⟩ => ⟨f, h', by omega, b⟩, fun ⟨f, h', a, e, b, l⟩ => ?_⟩
              have h4 := e.2.1
              by_cases c : 4 * f + h' = j
              · have ef : j / 4 = f := by omega
                have eh : j % 4 = h' := by omega
                subst ef eh
                exact absurd l (w q e b)
              · exact ⟨f, h', by omega, e, b, l⟩)
            have j64 : j / 4 < 64 := by omega
            rw [Rs_eq]
            rcases pk with ⟨p1, p2⟩ | ⟨p, p1, p2⟩
            · simp only [E_M_hoursOf, fIsA, fRt, fLen, fLit, fBool, nI_1, dv, rm, sbitL j64, lcmp1, Int64.or_zero, nI_clamp (show j < 2 ^ 31 by omega), p1]
              refine ⟨fun z => absurd z (nI_ge (b := 144) (by omega) (by omega)), fun _ => ⟨by decide, fun _ => skip (fun q e _ => absurd e (p2 q)) _, fun _ => ⟨vp_in_nI (by omega) (by omega), skip (fun q e _ => absurd e (p2 q)) _⟩⟩⟩
            · have hpp := (hP k (j / 4) p).2
              have hp36 := eG_lt p2
              have eb := (nk_nb p2.2.2.2).1
              have oq : ∀ q', eG kd R C (j / 4) (j % 4) q' → q' = p := fun q' e => by
                have := e.2.2.2
                rw [p2.2.2.2] at this
                exact (Option.some.inj this).symm
              simp only [E_M_hoursOf, fIsA, fRt, fLen, fLit, fBool, fIx, nI_1, dv, rm, sbitL j64, lcmp1, Int64.or_zero, nI_clamp (show j < 2 ^ 31 by omega), p1, eo]
              refine ⟨fun z => absurd z (nI_ge (b := 144) (by omega) (by omega)), fun _ => ⟨by decide, fun z => skip (fun q e b => absurd b z) _, fun bX => ⟨vp_in_nI (by omega) (by omega), fun z => absurd z (nI_pos (by omega)), fun _ => ⟨vp_in_nI (by omega) (by omega), fun z => ?_, fun z => ?_⟩⟩⟩⟩
              · have z := (nI_ltI (by omega) (by omega)).mp z
                exact skip (fun q e _ => by obtain rfl := oq q e; omega) _
              · have z : P k (j / 4) p ≤ o := Nat.le_of_not_lt (fun w => z (nI_lt w (by omega)))
                refine ⟨by decide, by decide, s_Mbeside g2 p2.1 p2.2.1 ?_⟩
                rw [eb, show oI (some p) = nI p from rfl]
                simp only [oT, E_M_hoursOf, fIsA, fRt, fLen, fLit, fBool, nI_1]
                refine ih2 (j + 1) _ _ (by omega) (fun q hq => ?_)
                rw [bL_or, bL_shl1 (by omega) hq, Bool.or_eq_true, decide_eq_true_iff, hN q hq]
                constructor
                · rintro ((a | ⟨f, h', a, b⟩) | e)
                  · exact Or.inl a
                  · exact Or.inr ⟨f, h', by omega, b⟩
                  · subst e
                    exact Or.inr ⟨j / 4, j % 4, by omega, p2, bX, z⟩
                · rintro (a | ⟨f, h', a, e, b, l⟩)
                  · exact Or.inl (Or.inl a)
                  · have h4 := e.2.1
                    by_cases c : 4 * f + h' = j
                    · have ef : j / 4 = f := by omega
                      have eh : j % 4 = h' := by omega
                      subst ef eh
                      exact Or.inr (oq q e)
                    · exact Or.inl (Or.inr ⟨f, h', by omega, e, b, l⟩)
        exact inner 144 0 X _ (by omega) (fun q _ => ⟨Or.inl, fun z => z.elim id (fun ⟨f, h', a, _⟩ => absurd a (Nat.not_lt_zero _))⟩)
  rw [N_M_hoursOf]
  simp only [E_M_hoursOf, fIsA, fRt, fLen, fLit, fBool, e36, nI_clamp (show 36 + s < 2 ^ 31 by omega), hr (36 + s) (by omega), ex]
  refine ⟨vp_in_nI (by omega) (by omega), ?_⟩
  exact loop 61 0 _ τ none none none none (by omega) Fr.rf (fun q _ => one_bit hx hn.1 q) (fun k hk => absurd hk (Nat.not_lt_zero _))
