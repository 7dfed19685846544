/-! WAYS: the next field of an easy way, the reference; that what it lays is there -/
theorem lh_ex {kd : Nat → Nat} {R C t : Nat} {P : Nat → Nat → Nat} (z : Bool) (hn : R * C ≤ 36) (ht2 : t < R * C) (hP : ∀ f q, P f q ≤ 1498) : ∃ hd mm, lhP kd R C P z t hd mm ∧ ∀ f h q, eG kd R C f h q → ¬ rxP P z hd mm f q := by
  have go : ∀ (M : Nat) (hd mm : Nat → Nat), smN (fun x => 1000001 * hd x + mm x) 36 < M → lhP kd R C P z t hd mm → ∃ hd mm, lhP kd R C P z t hd mm ∧ ∀ f h q, eG kd R C f h q → ¬ rxP P z hd mm f q := by
    intro M
    induction M with
    | zero => intro hd mm h; exact absurd h (Nat.not_lt_zero _)
    | succ M ih =>
      intro hd mm h lh
      by_cases c : ∃ f k q, eG kd R C f k q ∧ rxP P z hd mm f q
      · obtain ⟨f, k, q, e, rx⟩ := c
        have := eG_lt e
        have hf := e.1
        obtain ⟨st1, st2⟩ := lh_step hn lh hP (by omega) (by omega) e rx
        refine ih _ _ ?_ st1
        have := smN_lt (v := fun x => 1000001 * hd x + mm x) (w := fun x => 1000001 * upN hd f (hbV z (hd q) (P f q)) x + upN mm f (mm q + 1) x) (x := f) 36 (by omega) (fun x _ => by
          show 1000001 * upN hd f (hbV z (hd q) (P f q)) x + upN mm f (mm q + 1) x ≤ 1000001 * hd x + mm x
          by_cases c : x = f
          · subst c; rw [upN_e, upN_e]; omega
          · rw [upN_n c, upN_n c]; exact Nat.le_refl _) (by
          show 1000001 * upN hd f (hbV z (hd q) (P f q)) f + upN mm f (mm q + 1) f < 1000001 * hd f + mm f
          rw [upN_e, upN_e]; exact st2)
        omega
      · exact ⟨hd, mm, lh, fun f k q e rx => c ⟨f, k, q, e, rx⟩⟩
  have far : ∀ f, f ≠ t → (if f = t then 0 else 1000000) < 1000000 → False := fun f ft z => by
    rw [if_neg ft] at z
    exact absurd z (Nat.lt_irrefl _)
  refine go _ (fun f => if f = t then 0 else 1000000) (fun f => if f = t then 0 else 1000000) (Nat.lt_succ_self _) ⟨⟨if_pos rfl, if_pos rfl⟩, fun f hf => ?_, fun f hf z => ?_, fun _ f hf ft z => (far f ft z).elim, fun _ f hf z => ?_⟩
  · show (if f = t then 0 else 1000000) ≤ 1000000 ∧ (if f = t then 0 else 1000000) ≤ 1000000 ∧ ((if f = t then 0 else 1000000) = 1000000 → (if f = t then 0 else 1000000) = 1000000)
    refine ⟨?_, ?_, id⟩ <;> (split <;> omega)
  · by_cases ft : f = t
    · subst ft
      refine ⟨Nat.le_of_eq (by simp only [reduceIte, Nat.mul_zero]), fun x => decide (x = f), ?_, fun x _ hx => Or.inr ?_⟩
      · have := cn2_lt (p := fun _ => false) (r := fun x => decide (x = f)) (x := f) rfl (decide_eq_true rfl) 36 hf (fun q _ z => absurd z (by decide))
        simp only [reduceIte]
        omega
      · obtain rfl : x = f := of_decide_eq_true hx
        exact ⟨rfl, Nat.le_refl _⟩
    · exact (far f ft z).elim
  · by_cases ft : f = t
    · subst ft
      exact ⟨by simp only [reduceIte]; omega, 0, rfl⟩
    · exact (far f ft z).elim
theorem onS {P : Nat → Nat → Nat} {hd mm : Nat → Nat} {f p : Nat} (hp : hd p < 1000000 → mm p ≤ 35) (f6 : hd f < 1000000) (mf : mm f ≤ 35) (hf : hd f ≤ 52430) (hP : P f p ≤ 1498) : onQ P 1498 64 (ccS hd mm) f p ↔ hd p + P f p = hd f ∧ mm p + 1 = mm f := by
  unfold onQ
  rw [ccS_lt f6]
  constructor
  · rintro ⟨a, _, b⟩
    by_cases p6 : hd p < 1000000
    · rw [ccS_lt p6] at b
      have := hp p6
      omega
    · exact absurd (ccS_ge p6) a
  · rintro ⟨a, b⟩
    have p6 : hd p < 1000000 := by omega
    have := hp p6
    rw [ccS_lt p6]
    omega
theorem s_MeasyNext {d R C t f : Nat} {kd ht hd mm : Nat → Nat} {P : Nat → Nat → Nat} {Q : Qt} {τ : St} (g : GI τ R C kd ht) (pu : PuN kd R C P τ) (hP : ∀ f q, P f q ≤ 1498) (h88 : ∀ f, f < 36 → τ.1 88 f = nI (hd f) ∧ τ.1 89 f = nI (mm f)) (lh : lhP kd R C P true t hd mm) (hf : f < R * C) (kf : kd f ≠ 3) (f6 : hd f < 1000000)
    (hQ : ∀ o, onB kd R C P 1498 64 (ccS hd mm) f 4 o → Q (some (.int (oJ o))) τ) : Cl (d + 3) m_M_easyNext [.ref 69, .int (nI f)] τ Q := by
  have hn := g.n36
  have fm : f < 36 := by omega
  obtain ⟨mf, hf5⟩ := lh_small lh fm f6
  have loop : ∀ (u h : Nat) (o : Option Nat) (l4 l5 l6 : Option Value), h + u = 4 → onB kd R C P 1498 64 (ccS hd mm) f h o → Rs M_M_easyNext (d + 2) Q 5 [some (.ref 69), some (.int (nI f)), some (.int (oJ o)), some (.int (nI h)), l4, l5, l6] [] τ := by
    intro u
    induction u with
    | zero =>
      intro h o l4 l5 l6 hh b
      obtain rfl : h = 4 := by omega
      rw [Rs_eq]
      simp only [E_M_easyNext, fIsA, fRt, fLen, fLit, fBool]
      exact ⟨fun _ => hQ o b, fun z => absurd (Int32.le_refl _) z⟩
    | succ u ih2 =>
      intro h o l4 l5 l6 hh b
      have e4 : (4 : Int32) * nI f + nI h = nI (4 * f + h) := by rw [show (4 : Int32) = nI 4 from rfl, pk_mul, nI_add]
      have pk := pu (4 * f + h) (by omega)
      rw [show (4 * f + h) / 4 = f by omega, show (4 * f + h) % 4 = h by omega] at pk
      have skip : (∀ q, nk kd R C f h = some q → onQ P 1498 64 (ccS hd mm) f q → ∃ p, o = some p ∧ p ≤ q) → ∀ l4 l5 l6, Rs M_M_easyNext (d + 2) Q 5 [some (.ref 69), some (.int (nI f)), some (.int (oJ o)), some (.int (nI (h + 1))), l4, l5, l6] [] τ := fun z l4 l5 l6 => ih2 (h + 1) o l4 l5 l6 (by omega) (onB_skip b z)
      rw [Rs_eq]
      simp only [E_M_easyNext, fIsA, fRt, fLen, fLit, fBool, e4]
      refine ⟨fun z => absurd z (nI_ge (b := 4) (by omega) (by omega)), fun _ => ?_⟩
      refine s_Mbeside g hf (by omega) ?_
      rcases pk with ⟨p1, p2⟩ | ⟨p, p1, p2⟩
      · simp only [oT, E_M_easyNext, fIsA, fRt, fLen, fLit, fBool, nI_1, e4, nI_clamp (show 4 * f + h < 2 ^ 31 by omega), p1]
        exact ⟨vp_in_nI (by omega) (by omega), skip (fun q e _ => absurd ⟨hf, by omega, kf, e⟩ (p2 q)) _ _ _⟩
      · have hpq := hP f p
        have hpl := eG_lt p2
        have ebn := (nk_nb p2.2.2.2).1
        have oq : ∀ q', nk kd R C f h = some q' → q' = p := fun q' e => by
          rw [p2.2.2.2] at e
          exact (Option.some.inj e).symm
        have bp := lh.2.1 p (by omega)
        have on := onS (P := P) (hd := hd) (mm := mm) (f := f) (p := p) (fun w => (lh_small lh (by omega) w).1) f6 mf hf5 hpq
        rw [ebn, show oI (some p) = nI p from rfl]
        simp only [oT, E_M_easyNext, fIsA, fRt, fLen, fLit, fBool, nI_1, nI_add, e4, nI_clamp (show 4 * f + h < 2 ^ 31 by omega), nI_clamp (show f < 2 ^ 31 by omega), nI_clamp (show p < 2 ^ 31 by omega), p1, (h88 p (by omega)).1, (h88 p (by omega)).2, (h88 f fm).1, (h88 f fm).2]
        refine ⟨vp_in_nI (by omega) (by omega), fun z => absurd z (nI_pos (by omega)), fun _ => ⟨vp_in_nI (by omega) (by omega), vp_in_nI (by omega) (by omega), vp_in_nI (by omega) (by omega), fun z => ?_, fun z => ⟨vp_in_nI (by omega) (by omega), vp_in_nI (by omega) (by omega), fun y => ?_, fun y => ?_⟩⟩⟩
        · refine skip (fun q' e w => ?_) _ _ _
          obtain rfl := oq q' e
          exact absurd (by rw [(on.mp w).1]) z
        · refine skip (fun q' e w => ?_) _ _ _
          obtain rfl := oq q' e
          exact absurd (by rw [(on.mp w).2]) y
        · have z : hd p + P f p = hd f := (nI_eq (by omega) (by omega)).mp z
          have y : mm p + 1 = mm f := (nI_eq (by omega) (by omega)).mp y
          have w := on.mpr ⟨z, y⟩
          have tk : (∀ x, o = some x → p ≤ x) → ∀ l4 l5 l6, Rs M_M_easyNext (d + 2) Q 5 [some (.ref 69), some (.int (nI f)), some (.int (nI p)), some (.int (nI (h + 1))), l4, l5, l6] [] τ := fun z l4 l5 l6 => ih2 (h + 1) (some p) l4 l5 l6 (by omega) (onB_take b p2.2.2.2 hpl w z)
          cases o with
          | none =>
            rw [show oJ none = nI 36 from rfl, if_pos (nI_lt (show p < 36 by omega) (by omega))]
            exact tk (fun x e => absurd e (by simp)) _ _ _
          | some x =>
            have hx := (b.1 x rfl).1
            rw [show oJ (some x) = nI x from rfl]
            by_cases c : p < x
            · rw [if_pos (nI_lt c (by omega))]
              exact tk (fun x' e => by obtain rfl := Option.some.inj e; omega) _ _ _
            · rw [if_neg (fun w => c ((nI_ltI (by omega) (by omega)).mp w))]
              exact skip (fun q' e _ => by obtain rfl := oq q' e; exact ⟨x, rfl, by omega⟩) _ _ _
  rw [N_M_easyNext]
  simp only [E_M_easyNext, fIsA, fRt, fLen, fLit, fBool]
  exact loop 4 0 none _ _ _ (by omega) ⟨fun q e => absurd e (by simp), fun h' q' z => absurd z (Nat.not_lt_zero _)⟩
