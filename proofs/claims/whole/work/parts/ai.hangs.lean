/-! PASS: fields that hang together, the reference -/
def cnK (kd ht : Nat → Nat) (R C h f : Nat) : Nat → Nat → Prop
  | 0, q => q = f
  | k + 1, q => cnK kd ht R C h f k q ∨ ∃ p h', eG kd R C p h' q ∧ cnK kd ht R C h f k p ∧ ht q ≤ h
def cnH (kd ht : Nat → Nat) (R C h f q : Nat) : Prop := ∃ k, cnK kd ht R C h f k q
section CN
variable {kd ht : Nat → Nat} {R C h : Nat}
theorem cn_good {f : Nat} (hf : f < R * C) (kf : kd f ≠ 3) : ∀ k q, cnK kd ht R C h f k q → q < R * C ∧ kd q ≠ 3
  | 0, q, z => by have z : q = f := z; subst z; exact ⟨hf, kf⟩
  | k + 1, q, z => by
    rcases z with z | ⟨p, h', e, _, _⟩
    · exact cn_good hf kf k q z
    · exact ⟨eG_lt e, (nk_nb e.2.2.2).2⟩
theorem cn_low {f : Nat} (hf : lowP kd ht R C h f) : ∀ k q, cnK kd ht R C h f k q → lowP kd ht R C h q
  | 0, q, z => by have z : q = f := z; subst z; exact hf
  | k + 1, q, z => by
    rcases z with z | ⟨p, h', e, _, l⟩
    · exact cn_low hf k q z
    · exact ⟨eG_lt e, (nk_nb e.2.2.2).2, l⟩
theorem cn_tr {a b : Nat} (hab : cnH kd ht R C h a b) : ∀ k q, cnK kd ht R C h b k q → cnH kd ht R C h a q
  | 0, q, z => by have z : q = b := z; subst z; exact hab
  | k + 1, q, z => by
    rcases z with z | ⟨p, h', e, w, l⟩
    · exact cn_tr hab k q z
    · obtain ⟨k', z'⟩ := cn_tr hab k p w
      exact ⟨k' + 1, Or.inr ⟨p, h', e, z', l⟩⟩
theorem cn_sy {f : Nat} (hf : lowP kd ht R C h f) : ∀ k q, cnK kd ht R C h f k q → cnH kd ht R C h q f
  | 0, q, z => by have z : q = f := z; subst z; exact ⟨0, rfl⟩
  | k + 1, q, z => by
    rcases z with z | ⟨p, h', e, w, l⟩
    · exact cn_sy hf k q z
    · obtain ⟨k', z'⟩ := cn_sy hf k p w
      have qp : cnH kd ht R C h q p := ⟨1, Or.inr ⟨q, _, eG_sym e, rfl, (cn_low hf k p w).2.2⟩⟩
      exact cn_tr qp k' f z'
end CN
theorem lcmpE {x y : Int64} : lg_cmp x y = 0 ↔ x = y := by
  unfold lg_cmp
  by_cases c : x = y
  · subst c
    constructor
    · intro _; rfl
    · intro _
      simp [Int64.lt_irrefl]
  · constructor
    · intro z
      exfalso
      revert z
      split
      · decide
      · first
          | (split <;> first | decide | (intro _; contradiction))
          | (rename_i h1; intro z; exact absurd z (by decide))
    · intro z; exact absurd z c
theorem s_MhangsWith {d R C f h : Nat} {kd ht : Nat → Nat} {Q : Qt} {τ : St} (g : GI τ R C kd ht) (hf : f < R * C) (kf : kd f ≠ 3) (hh : h ≤ 9) (hQ : ∀ X : Int64, (∀ q, q < 64 → (bitL X q = true ↔ cnH kd ht R C h f q)) → Q (some (.long X)) τ) : Cl (d + 3) m_M_hangsWith [.ref 69, .int (nI f), .int (nI h)] τ Q := by
  have hn := g.n36
  have outer : ∀ (M : Nat) (b : Int64) (l6 l8 l9 l10 : Option Value), 36 - cnL b 36 < M → bitL b f = true → (∀ q, bitL b q = true → cnH kd ht R C h f q) → Rs M_M_hangsWith (d + 2) Q 7 [some (.ref 69), some (.int (nI f)), some (.int (nI h)), some (.long b), none, some (.int 1), l6, none, l8, l9, l10] [] τ := by
    intro M
    induction M with
    | zero => intro b l6 l8 l9 l10 z; exact absurd z (Nat.not_lt_zero _)
    | succ M ihM =>
      intro b l6 l8 l9 l10 hM hbf hb
      have inner : ∀ (u k : Nat) (b' : Int64) (l9 l10 : Option Value), k + u = 4 * (R * C) → (∀ q, bitL b q = true → bitL b' q = true) → (∀ q, bitL b' q = true → cnH kd ht R C h f q) → (b' = b → ∀ p h' q, 4 * p + h' < k → eG kd R C p h' q → bitL b p = true → ht q ≤ h → bitL b q = true) → Rs M_M_hangsWith (d + 2) Q 18 [some (.ref 69), some (.int (nI f)), some (.int (nI h)), some (.long b'), none, some (.int 1), some (.long b), none, some (.int (nI k)), l9, l10] [] τ := by
        intro u
        induction u with
        | zero =>
          intro k b' l9 l10 hk hsub hb' hclo
          obtain rfl : k = 4 * (R * C) := by omega
          have e4 : (4 : Int32) * nI (R * C) = nI (4 * (R * C)) := pk_mul 4 _
          rw [Rs_eq]
          simp only [E_M_hangsWith, fIsA, fRt, fLen, fLit, fBool]
          refine s_Mfields g ?_
          simp only [oT, E_M_hangsWith, fIsA, fRt, fLen, fLit, fBool, e4]
          have same : b' = b → ∀ l6 l8 l9 l10, Rs M_M_hangsWith (d + 2) Q 7 [some (.ref 69), some (.int (nI f)), some (.int (nI h)), some (.long b'), none, some (.int 0), l6, none, l8, l9, l10] [] τ := fun e l6 l8 l9 l10 => by
            have clo := hclo e
            rw [Rs_eq]
            simp only [E_M_hangsWith, fIsA, fRt, fLen, fLit, fBool]
            rw [e]
            refine hQ b (fun q hq => ⟨fun z => hb q z, fun ⟨k, z⟩ => ?_⟩)
            have key : ∀ k q, cnK kd ht R C h f k q → bitL b q = true := by
              intro k
              induction k with
              | zero => intro q z; rw [show q = f from z]; exact hbf
              | succ k ih =>
                intro q z
                rcases z with z | ⟨p, h', e, w, l⟩
                · exact ih q z
                · exact clo p h' q (by have := e.1; have := e.2.1; omega) e (ih p w) l
            exact key k q z
          have more : b' ≠ b → ∀ l6 l8 l9 l10, Rs M_M_hangsWith (d + 2) Q 7 [some (.ref 69), some (.int (nI f)), some (.int (nI h)), some (.long b'), none, some (.int 1), l6, none, l8, l9, l10] [] τ := fun ne l6 l8 l9 l10 => by
            refine ihM b' l6 l8 l9 l10 ?_ (hsub f hbf) hb'
            obtain ⟨p, p1, p2⟩ : ∃ p, bitL b' p = true ∧ bitL b p = false := by
              refine Classical.byContradiction (fun w => ne (bL_ext (fun i _ => ?_)))
              cases c : bitL b' i with
              | true =>
                cases c2 : bitL b i with
                | true => rfl
                | false => exact absurd ⟨i, c, c2⟩ w
              | false =>
                cases c2 : bitL b i with
                | false => rfl
                | true => have := hsub i c2; rw [c] at this; exact absurd this (by decide)
            obtain ⟨k, z⟩ := hb' p p1
            have := (cn_good hf kf k p z).1
            have := cnL_lt (X := b) (Y := b') hsub p2 p1 36 (by omega)
            have := cnL_le b' 36
            omega
          refine ⟨fun _ => ⟨fun z => ?_, fun z => ?_⟩, fun z => absurd (Int32.le_refl _) z⟩
          all_goals first
            | exact same (lcmpE.mp z) _ _ _ _
            | exact more (fun w => z (lcmpE.mpr w)) _ _ _ _
        | succ u ih =>
          intro k b' l9 l10 hk hsub hb' hclo
          have dv : nI k / 4 = nI (k / 4) := pk_div (d := 4) (by omega) (by omega) (by omega)
          have rm : nI k - nI k / 4 * 4 = nI (k % 4) := pk_rem (d := 4) (by omega) (by omega) (by omega)
          rw [dv] at rm
          have e4 : (4 : Int32) * nI (R * C) = nI (4 * (R * C)) := pk_mul 4 _
          have kl : k / 4 < R * C := by omega
          have k64 : k / 4 < 64 := by omega
          have skip : (∀ q, eG kd R C (k / 4) (k % 4) q → bitL b' (k / 4) = true → ht q ≤ h → bitL b' q = true) → ∀ l9 l10, Rs M_M_hangsWith (d + 2) Q 18 [some (.ref 69), some (.int (nI f)), some (.int (nI h)), some (.long b'), none, some (.int 1), some (.long b), none, some (.int (nI (k + 1))), l9, l10] [] τ := fun w l9 l10 => ih (k + 1) b' l9 l10 (by omega) hsub hb' (fun e p h' q hlt eg bp l => by
            have h4 := eg.2.1
            by_cases c : 4 * p + h' = k
            · have ep : k / 4 = p := by omega
              have eh : k % 4 = h' := by omega
              subst ep eh
              rw [← e] at bp ⊢
              exact w q eg bp l
            · exact hclo e p h' q (by omega) eg bp l)
          rw [Rs_eq]
          simp only [E_M_hangsWith, fIsA, fRt, fLen, fLit, fBool]
          refine s_Mfields g ?_
          simp only [oT, E_M_hangsWith, fIsA, fRt, fLen, fLit, fBool, e4, dv, rm, nI_1]
          refine ⟨fun z => absurd z (nI_ge (by omega) (by omega)), fun _ => ⟨by decide, by decide, ?_⟩⟩
          refine s_Mbeside g kl (Nat.mod_lt _ (by decide)) ?_
          simp only [oT, E_M_hangsWith, fIsA, fRt, fLen, fLit, fBool, e4, dv, rm, nI_1, sbitL k64, lcmp1, Int64.or_zero]
          refine ⟨by decide, fun z => skip (fun q _ bp _ => absurd bp z) _ _, fun bp => ?_⟩
          cases hnb : nb R C (k / 4) (k % 4) with
          | none =>
            rw [show oI none = -1 from rfl]
            have sk := skip (fun q e _ _ => by have := (nk_nb e.2.2.2).1; rw [hnb] at this; exact absurd this (by simp))
            exact ⟨fun _ => sk _ _, fun z => absurd (by decide) z⟩
          | some q =>
            have hq := nb_lt kl (Nat.mod_lt _ (by decide)) hnb
            have q3 := g.2.2.1 q hq
            have q4 := q3.1
            have oq : ∀ q', eG kd R C (k / 4) (k % 4) q' → q' = q := fun q' e => by
              have := (nk_nb e.2.2.2).1
              rw [hnb] at this
              exact (Option.some.inj this).symm
            rw [show oI (some q) = nI q from rfl, nI_clamp (show q < 2 ^ 31 by omega), q3.2.1, q3.2.2.1]
            refine ⟨fun z => absurd z (nI_pos (by omega)), fun _ => ⟨vp_in_nI (by omega) (by omega), fun z => ?_, fun z => ⟨vp_in_nI (by omega) (by omega), fun y => ?_, fun y => ?_⟩⟩⟩
            · have z : kd q = 3 := (nI_eq (b := 3) (by omega) (by omega)).mp z
              exact skip (fun q' e _ _ => by obtain rfl := oq q' e; exact absurd z (nk_nb e.2.2.2).2) _ _
            · have y := (nI_ltI (by omega) (by omega)).mp y
              exact skip (fun q' e _ l => by obtain rfl := oq q' e; omega) _ _
            · have z : kd q ≠ 3 := fun w => z (by rw [w]; rfl)
              have y : ht q ≤ h := Nat.le_of_not_lt (fun w => y (nI_lt w (by omega)))
              obtain ⟨k', zk⟩ := hb' (k / 4) bp
              have kk := (cn_good hf kf k' _ zk).2
              have eg : eG kd R C (k / 4) (k % 4) q := ⟨kl, Nat.mod_lt _ (by decide), kk, by
                unfold nk
                rw [hnb]
                show (if kd q = 3 then none else some q) = some q
                rw [if_neg z]⟩
              have sub2 : ∀ p, bitL b' p = true → bitL (b' ||| (1 <<< ((nI q).toInt64 &&& 63))) p = true := fun p w => by rw [bL_or, w, Bool.true_or]
              refine ih (k + 1) _ _ _ (by omega) (fun p w => sub2 p (hsub p w)) (fun p w => ?_) (fun e p h'' q' hlt eg' bp' l => ?_)
              · rw [bL_or, Bool.or_eq_true, one_bit hq hn.1 p] at w
                rcases w with w | w
                · exact hb' p w
                · subst w; exact ⟨k' + 1, Or.inr ⟨k / 4, k % 4, eg, zk, y⟩⟩
              · have eb : b' = b := bL_ext (fun i _ => by
                  cases c : bitL b' i with
                  | true => rw [← e, sub2 i c]
                  | false =>
                    cases c2 : bitL b i with
                    | false => rfl
                    | true => have := hsub i c2; rw [c] at this; exact absurd this (by decide))
                have h4 := eg'.2.1
                by_cases c : 4 * p + h'' = k
                · have ep : k / 4 = p := by omega
                  have eh : k % 4 = h'' := by omega
                  subst ep eh
                  obtain rfl := oq q' eg'
                  rw [← e, bL_or, (one_bit hq hn.1 q').mpr rfl, Bool.or_true]
                · exact hclo eb p h'' q' (by omega) eg' bp' l
      rw [Rs_eq]
      simp only [E_M_hangsWith, fIsA, fRt, fLen, fLit, fBool]
      exact inner (4 * (R * C)) 0 b _ _ (by omega) (fun q w => w) hb (fun _ p h' q z => absurd z (Nat.not_lt_zero _))
  rw [N_M_hangsWith]
  simp only [E_M_hangsWith, fIsA, fRt, fLen, fLit, fBool]
  exact outer _ _ none none none none (Nat.lt_succ_self _) ((one_bit hf hn.1 f).mpr rfl) (fun q w => ⟨0, (one_bit hf hn.1 q).mp w⟩)
