/-! WAYS: the fewest drags, the reference -/
def upN (v : Nat → Nat) (f a : Nat) : Nat → Nat := fun x => if x = f then a else v x
theorem upN_e {v : Nat → Nat} {f a : Nat} : upN v f a f = a := if_pos rfl
theorem upN_n {v : Nat → Nat} {f a x : Nat} (h : x ≠ f) : upN v f a x = v x := if_neg h
def muP (kd : Nat → Nat) (R C : Nat) (P : Nat → Nat → Nat) (t lim : Nat) (mm : Nat → Nat) : Prop := mm t = 0 ∧ (∀ f, f < 36 → mm f ≤ 1000000) ∧ ∀ f, f < 36 → f ≠ t → mm f < 1000000 → ∃ h q, eG kd R C f h q ∧ P f q ≤ lim ∧ mm q + 1 ≤ mm f
def meP (kd : Nat → Nat) (R C : Nat) (P : Nat → Nat → Nat) (lim : Nat) (mm : Nat → Nat) : Prop := ∀ f h q, eG kd R C f h q → P f q ≤ lim → mm f ≤ mm q + 1
theorem mu_step {kd : Nat → Nat} {R C t lim f h q : Nat} {P : Nat → Nat → Nat} {mm : Nat → Nat} (mu : muP kd R C P t lim mm) (hf : f < 36) (e : eG kd R C f h q) (l : P f q ≤ lim) (lt : mm q + 1 < mm f) : muP kd R C P t lim (upN mm f (mm q + 1)) := by
  obtain ⟨a, b, c⟩ := mu
  have ft : t ≠ f := fun z => by subst z; omega
  have qf : q ≠ f := fun z => by subst z; omega
  have le : ∀ x, upN mm f (mm q + 1) x ≤ mm x := fun x => by
    by_cases z : x = f
    · subst z; rw [upN_e]; omega
    · rw [upN_n z]; exact Nat.le_refl _
  refine ⟨by rw [upN_n ft]; exact a, fun x hx => Nat.le_trans (le x) (b x hx), fun x hx xt xl => ?_⟩
  by_cases z : x = f
  · subst z
    refine ⟨h, q, e, l, ?_⟩
    rw [upN_e, upN_n qf]
    exact Nat.le_refl _
  · rw [upN_n z] at xl ⊢
    obtain ⟨h', q', e', l', w⟩ := c x hx xt xl
    exact ⟨h', q', e', l', Nat.le_trans (Nat.succ_le_succ (le q')) w⟩
theorem s_laysMany {d R C t lim : Nat} {kd ht : Nat → Nat} {P : Nat → Nat → Nat} {Q : Qt} {τ : St} (g : GI τ R C kd ht) (pu : PuN kd R C P τ) (hP : ∀ f q, P f q ≤ 1498) (ht2 : t < R * C) (hl : lim < 2 ^ 30)
    (hQ : ∀ τ' mm, Fr [89] [] τ τ' → (∀ f, f < 36 → τ'.1 89 f = nI (mm f)) → muP kd R C P t lim mm → meP kd R C P lim mm → Q none τ') : Cl (d + 3) m_M_laysMany [.ref 69, .int (nI t), .int (nI lim)] τ Q := by
  have hn := g.n36
  have outer : ∀ (M : Nat) (τ1 : St) (mm : Nat → Nat) (l4 : Option Value), smN mm 36 < M → Fr [89] [] τ τ1 → (∀ f, f < 36 → τ1.1 89 f = nI (mm f)) → muP kd R C P t lim mm → Rs M_M_laysMany (d + 2) Q 34 [some (.ref 69), some (.int (nI t)), some (.int (nI lim)), some (.int 1), l4] [] τ1 := by
    intro M
    induction M with
    | zero => intro τ1 mm l4 h; exact absurd h (Nat.not_lt_zero _)
    | succ M ihM =>
      intro τ1 mm l4 hM fr hc mu
      have inner : ∀ (u k : Nat) (τ2 : St) (m2 : Nat → Nat) (x : Int32), k + u = 144 → Fr [89] [] τ τ2 → (∀ f, f < 36 → τ2.1 89 f = nI (m2 f)) → muP kd R C P t lim m2 → ((x = 1 ∧ smN m2 36 < M) ∨ (x = 0 ∧ smN m2 36 ≤ M ∧ ∀ f h q, eG kd R C f h q → P f q ≤ lim → 4 * f + h < k → m2 f ≤ m2 q + 1)) → Rs M_M_laysMany (d + 2) Q 43 [some (.ref 69), some (.int (nI t)), some (.int (nI lim)), some (.int x), some (.int (nI k))] [] τ2 := by
        intro u
        induction u with
        | zero =>
          intro k τ2 m2 x hk f2 h2 mu2 hx
          obtain rfl : k = 144 := by omega
          rw [Rs_eq]
          simp only [E_M_laysMany, fIsA, fRt, fLen, fLit, fBool]
          refine ⟨fun _ => ?_, fun z => absurd (Int32.le_refl _) z⟩
          rcases hx with ⟨rfl, lt⟩ | ⟨rfl, le, tg⟩
          · exact ihM τ2 m2 _ lt f2 h2 mu2
          · rw [Rs_eq]
            simp only [E_M_laysMany, fIsA, fRt, fLen, fLit, fBool]
            exact hQ τ2 m2 f2 h2 mu2 (fun f h q e l => tg f h q e l (by have := e.1; have := e.2.1; omega))
        | succ u ih =>
          intro k τ2 m2 x hk f2 h2 mu2 hx
          have dv : nI k / 4 = nI (k / 4) := pk_div (d := 4) (by omega) (by omega) (by omega)
          have rm : nI k - nI k / 4 * 4 = nI (k % 4) := pk_rem (d := 4) (by omega) (by omega) (by omega)
          rw [dv] at rm
          have g2 := g.fr f2 rfl
          have pk := (pu.fr f2 rfl) k (by omega)
          have hf36 : k / 4 < 36 := by omega
          have skip : (∀ q, eG kd R C (k / 4) (k % 4) q → P (k / 4) q ≤ lim → m2 (k / 4) ≤ m2 q + 1) → Rs M_M_laysMany (d + 2) Q 43 [some (.ref 69), some (.int (nI t)), some (.int (nI lim)), some (.int x), some (.int (nI (k + 1)))] [] τ2 := fun w => ih (k + 1) τ2 m2 x (by omega) f2 h2 mu2 (hx.imp id (fun ⟨a, b, c⟩ => ⟨a, b, fun f h q e l hlt => by
            have h4 := e.2.1
            by_cases c2 : 4 * f + h = k
            · have ef : k / 4 = f := by omega
              have eh : k % 4 = h := by omega
              subst ef eh
              exact w q e l
            · exact c f h q e l (by omega)⟩))
          rw [Rs_eq]
          rcases pk with ⟨p1, p2⟩ | ⟨q, p1, p2⟩
          · simp only [E_M_laysMany, fIsA, fRt, fLen, fLit, fBool, nI_1, nI_clamp (show k < 2 ^ 31 by omega), p1]
            exact ⟨fun z => absurd z (nI_ge (b := 144) (by omega) (by omega)), fun _ => ⟨vp_in_nI (by omega) (by omega), skip (fun q e => absurd e (p2 q))⟩⟩
          · have hp := hP (k / 4) q
            have hq := eG_lt p2
            have eb := (nk_nb p2.2.2.2).1
            have oq : ∀ q', eG kd R C (k / 4) (k % 4) q' → q' = q := fun q' e => by
              have := e.2.2.2
              rw [p2.2.2.2] at this
              exact (Option.some.inj this).symm
            have bq := mu2.2.1 q (by omega)
            have bf := mu2.2.1 (k / 4) hf36
            simp only [E_M_laysMany, fIsA, fRt, fLen, fLit, fBool, nI_1, dv, rm, nI_clamp (show k < 2 ^ 31 by omega), p1]
            refine ⟨fun z => absurd z (nI_ge (b := 144) (by omega) (by omega)), fun _ => ⟨vp_in_nI (by omega) (by omega), fun z => absurd z (nI_pos (by omega)), fun _ => ⟨vp_in_nI (by omega) (by omega), fun z => ?_, fun z => ?_⟩⟩⟩
            · have z := (nI_ltI (by omega) (by omega)).mp z
              exact skip (fun q' e l => by obtain rfl := oq q' e; omega)
            · have z : P (k / 4) q ≤ lim := Nat.le_of_not_lt (fun w => z (nI_lt w (by omega)))
              refine ⟨by decide, by decide, s_Mbeside g2 p2.1 p2.2.1 ?_⟩
              rw [eb, show oI (some q) = nI q from rfl]
              simp only [oT, E_M_laysMany, fIsA, fRt, fLen, fLit, fBool, nI_1, dv, rm, nI_clamp (show k < 2 ^ 31 by omega), nI_clamp (show k / 4 < 2 ^ 31 by omega), nI_clamp (show q < 2 ^ 31 by omega), h2 q (by omega), h2 (k / 4) hf36]
              refine ⟨vp_in_nI (by omega) (by omega), by decide, vp_in_nI (by omega) (by omega), fun y => ?_, fun y => ?_⟩
              · have y := (nI_leI (by omega) (by omega)).mp y
                exact skip (fun q' e l => by obtain rfl := oq q' e; exact y)
              · have y : m2 q + 1 < m2 (k / 4) := Nat.lt_of_not_le (fun w => y (nI_le w (by omega)))
                refine ⟨by decide, by decide, by decide, s_Mbeside g2 p2.1 p2.2.1 ?_⟩
                rw [eb, show oI (some q) = nI q from rfl]
                simp only [oT, E_M_laysMany, fIsA, fRt, fLen, fLit, fBool, nI_1, dv, rm, nI_clamp (show k < 2 ^ 31 by omega), nI_clamp (show k / 4 < 2 ^ 31 by omega), nI_clamp (show q < 2 ^ 31 by omega), h2 q (by omega), h2 (k / 4) hf36]
                refine ⟨vp_in_nI (by omega) (by omega), vp_in_nI (by omega) (by omega), ?_⟩
                refine ih (k + 1) _ (upN m2 (k / 4) (m2 q + 1)) 1 (by omega) (f2.ic rfl) (fun f hf => ?_) (mu_step mu2 hf36 p2 z y) (Or.inl ⟨rfl, ?_⟩)
                · simp only [sI_1, reduceIte]
                  by_cases c : f = k / 4
                  · rw [if_pos c, c, upN_e]
                  · rw [if_neg c, upN_n c]; exact h2 f hf
                · have := smN_lt (v := m2) (w := upN m2 (k / 4) (m2 q + 1)) (x := k / 4) 36 hf36 (fun x _ => by
                    by_cases c : x = k / 4
                    · subst c; rw [upN_e]; omega
                    · rw [upN_n c]; exact Nat.le_refl _) (by rw [upN_e]; exact y)
                  rcases hx with ⟨_, w⟩ | ⟨_, w, _⟩ <;> omega
      rw [Rs_eq]
      simp only [E_M_laysMany, fIsA, fRt, fLen, fLit, fBool]
      exact inner 144 0 τ1 mm 0 (by omega) fr hc mu (Or.inr ⟨rfl, by omega, fun f h q e l z => absurd z (Nat.not_lt_zero _)⟩)
  have fill : ∀ (u k : Nat) (τ1 : St), k + u = 36 → Fr [89] [] τ τ1 → (∀ f, f < k → τ1.1 89 f = nI (if f = t then 0 else 1000000)) → Rs M_M_laysMany (d + 2) Q 2 [some (.ref 69), some (.int (nI t)), some (.int (nI lim)), some (.int (nI k)), none] [] τ1 := by
    intro u
    induction u with
    | zero =>
      intro k τ1 hk fr h
      obtain rfl : k = 36 := by omega
      rw [Rs_eq]
      simp only [E_M_laysMany, fIsA, fRt, fLen, fLit, fBool]
      refine ⟨fun _ => outer _ τ1 (fun f => if f = t then 0 else 1000000) none (Nat.lt_succ_self _) fr h ⟨if_pos rfl, fun f hf => ?_, fun f hf ft z => ?_⟩, fun z => absurd (Int32.le_refl _) z⟩
      · show (if f = t then 0 else 1000000) ≤ 1000000
        split <;> omega
      · have z : (if f = t then 0 else 1000000) < 1000000 := z
        rw [if_neg ft] at z
        exact absurd z (Nat.lt_irrefl _)
    | succ u ih =>
      intro k τ1 hk fr h
      have nx : ∀ v : Nat, v = (if k = t then 0 else 1000000) → Rs M_M_laysMany (d + 2) Q 2 [some (.ref 69), some (.int (nI t)), some (.int (nI lim)), some (.int (nI (k + 1))), none] [] (sI τ1 89 k (nI v)) := fun v hv => ih (k + 1) _ (by omega) (fr.ic rfl) (fun f hf => by
        simp only [sI_1, reduceIte]
        by_cases c : f = k
        · rw [if_pos c, c, hv]
        · rw [if_neg c]; exact h f (by omega))
      rw [Rs_eq]
      simp only [E_M_laysMany, fIsA, fRt, fLen, fLit, fBool, nI_1, nI_clamp (show k < 2 ^ 31 by omega)]
      refine ⟨fun z => absurd z (nI_ge (b := 36) (by omega) (by omega)), fun _ => ⟨fun z => ⟨vp_in_nI (by omega) (by omega), ?_⟩, fun z => ⟨vp_in_nI (by omega) (by omega), ?_⟩⟩⟩
      · exact nx 1000000 (by rw [if_neg (fun w => z (by rw [w]))])
      · exact nx 0 (by rw [if_pos ((nI_eq (by omega) (by omega)).mp z)])
  rw [N_M_laysMany]
  simp only [E_M_laysMany, fIsA, fRt, fLen, fLit, fBool]
  exact fill 36 0 τ (by omega) Fr.rf (fun f hf => absurd hf (Nat.not_lt_zero _))
