/-! WAYS: how hard ways are, the reference -/
/-- f leads to T in k drags by pulls of l at most -/
def toK (kd : Nat → Nat) (R C : Nat) (P : Nat → Nat → Nat) (T : Nat → Prop) (l : Nat) : Nat → Nat → Prop
  | 0, f => T f
  | k + 1, f => ∃ h q, eG kd R C f h q ∧ P f q ≤ l ∧ toK kd R C P T l k q
theorem toK_lim {kd : Nat → Nat} {R C : Nat} {P : Nat → Nat → Nat} {T : Nat → Prop} {l l' : Nat} (h : l ≤ l') : ∀ k f, toK kd R C P T l k f → toK kd R C P T l' k f
  | 0, _, z => z
  | k + 1, f, ⟨h', q, e, a, b⟩ => ⟨h', q, e, Nat.le_trans a h, toK_lim h k q b⟩
def lhP (kd : Nat → Nat) (R C : Nat) (P : Nat → Nat → Nat) (z : Bool) (t : Nat) (hd mm : Nat → Nat) : Prop :=
  (hd t = 0 ∧ mm t = 0) ∧ (∀ f, f < 36 → hd f ≤ 1000000 ∧ mm f ≤ 1000000 ∧ (hd f = 1000000 → mm f = 1000000)) ∧
  (∀ f, f < 36 → hd f < 1000000 → hd f ≤ 1498 * mm f ∧ ∃ U : Nat → Bool, mm f + 1 ≤ cn2 U 36 ∧ ∀ x, x < 36 → U x = true → hd x < hd f ∨ hd x = hd f ∧ mm x ≤ mm f) ∧
  (z = true → ∀ f, f < 36 → f ≠ t → hd f < 1000000 → ∃ h q, eG kd R C f h q ∧ hd q < 1000000 ∧ (hd q + P f q < hd f ∨ hd q + P f q = hd f ∧ mm q + 1 ≤ mm f)) ∧
  (z = false → ∀ f, f < 36 → hd f < 1000000 → hd f ≤ 1498 ∧ ∃ k, toK kd R C P (fun q => q = t) (hd f) k f)
/-- a drag makes a way less hard -/
def rxP (P : Nat → Nat → Nat) (z : Bool) (hd mm : Nat → Nat) (f q : Nat) : Prop := hbV z (hd q) (P f q) < hd f ∨ hbV z (hd q) (P f q) = hd f ∧ mm q + 1 < mm f
theorem lh_small {kd : Nat → Nat} {R C t : Nat} {P : Nat → Nat → Nat} {z : Bool} {hd mm : Nat → Nat} (lh : lhP kd R C P z t hd mm) {f : Nat} (hf : f < 36) (h : hd f < 1000000) : mm f ≤ 35 ∧ hd f ≤ 52430 := by
  obtain ⟨a, U, b, _⟩ := lh.2.2.1 f hf h
  have := cn2_le U 36
  omega
theorem lh_step {kd : Nat → Nat} {R C t f h q : Nat} {P : Nat → Nat → Nat} {z : Bool} {hd mm : Nat → Nat} (hn : R * C ≤ 36) (lh : lhP kd R C P z t hd mm) (hP : ∀ f q, P f q ≤ 1498) (hf : f < 36) (hq : q < 36) (e : eG kd R C f h q) (rx : rxP P z hd mm f q) : lhP kd R C P z t (upN hd f (hbV z (hd q) (P f q))) (upN mm f (mm q + 1)) ∧ 1000001 * hbV z (hd q) (P f q) + (mm q + 1) < 1000001 * hd f + mm f := by
  have bf := lh.2.1 f hf
  have bq := lh.2.1 q hq
  have hp := hP f q
  have q6 : hd q < 1000000 := by
    refine Nat.lt_of_not_le (fun w => ?_)
    have e6 : hd q = 1000000 := by omega
    have m6 := bq.2.2 e6
    unfold rxP hbV at rx
    rw [if_neg (by omega)] at rx
    omega
  obtain ⟨s1, s2⟩ := lh_small lh hq q6
  -- what is known of the new value
  have hv : hd q ≤ hbV z (hd q) (P f q) ∧ hbV z (hd q) (P f q) ≤ 1498 * (mm q + 1) ∧ hbV z (hd q) (P f q) ≤ 60000 ∧ (z = true → hbV z (hd q) (P f q) = hd q + P f q) ∧ (z = false → P f q ≤ hbV z (hd q) (P f q) ∧ (hd q ≤ 1498 → hbV z (hd q) (P f q) ≤ 1498)) := by
    have c1 := (lh.2.2.1 q hq q6).1
    unfold hbV
    rw [if_pos q6]
    cases z with
    | true => rw [if_pos rfl]; exact ⟨by omega, by omega, by omega, fun _ => rfl, fun w => absurd w (by decide)⟩
    | false => rw [if_neg (by decide)]; exact ⟨by omega, by omega, by omega, fun w => absurd w (by decide), fun _ => ⟨by omega, fun _ => by omega⟩⟩
  obtain ⟨a, b, c, d1, d2⟩ := lh
  unfold rxP at rx
  generalize hbV z (hd q) (P f q) = its at hv rx ⊢
  obtain ⟨v1, v2, v3, v4, v5⟩ := hv
  have ft : t ≠ f := fun w => by subst w; omega
  have qf : q ≠ f := fun w => by subst w; omega
  -- values only fall
  have fall : ∀ x, x < 36 → upN hd f its x < hd x ∨ upN hd f its x = hd x ∧ upN mm f (mm q + 1) x ≤ mm x := fun x _ => by
    by_cases w : x = f
    · subst w; rw [upN_e, upN_e]; omega
    · rw [upN_n w, upN_n w]; exact Or.inr ⟨rfl, Nat.le_refl _⟩
  refine ⟨⟨⟨by rw [upN_n ft]; exact a.1, by rw [upN_n ft]; exact a.2⟩, fun x hx => ?_, fun x hx xl => ?_, fun zt x hx xt xl => ?_, fun zf x hx xl => ?_⟩, by omega⟩
  · by_cases w : x = f
    · subst w; rw [upN_e, upN_e]; omega
    · rw [upN_n w, upN_n w]; exact b x hx
  · by_cases w : x = f
    · subst w
      obtain ⟨_, U, u1, u2⟩ := c q hq q6
      refine ⟨by rw [upN_e, upN_e]; exact v2, fun y => U y || decide (y = x), ?_, fun y hy uy => ?_⟩
      · have nU : U x = false := by
          cases w : U x with
          | false => rfl
          | true =>
            have := u2 x hx w
            omega
        have := cn2_lt (p := U) (r := fun y => U y || decide (y = x)) (x := x) nU (by rw [decide_eq_true rfl, Bool.or_true]) 36 hx (fun y _ w => by rw [w, Bool.true_or])
        rw [upN_e]
        omega
      · by_cases w : y = x
        · subst w; exact Or.inr ⟨rfl, Nat.le_refl _⟩
        · have uy : (U y || decide (y = x)) = true := uy
          rw [decide_eq_false w, Bool.or_false] at uy
          have := u2 y hy uy
          rw [upN_n w, upN_n w, upN_e, upN_e]
          omega
    · rw [upN_n w] at xl
      obtain ⟨c1, U, u1, u2⟩ := c x hx xl
      refine ⟨by rw [upN_n w, upN_n w]; exact c1, U, by rw [upN_n w]; exact u1, fun y hy uy => ?_⟩
      have := u2 y hy uy
      have := fall y hy
      rw [upN_n w, upN_n w]
      omega
  · by_cases w : x = f
    · subst w
      refine ⟨h, q, e, by rw [upN_n qf]; exact q6, ?_⟩
      rw [upN_e, upN_e, upN_n qf, upN_n qf, v4 zt]
      exact Or.inr ⟨rfl, Nat.le_refl _⟩
    · rw [upN_n w] at xl
      obtain ⟨h', q', e', l', w'⟩ := d1 zt x hx xt xl
      have := eG_lt e'
      have := fall q' (by omega)
      refine ⟨h', q', e', by omega, ?_⟩
      rw [upN_n w, upN_n w]
      omega
  · by_cases w : x = f
    · subst w
      obtain ⟨z1, k, z2⟩ := d2 zf q hq q6
      rw [upN_e]
      exact ⟨(v5 zf).2 z1, k + 1, h, q, e, (v5 zf).1, toK_lim v1 k q z2⟩
    · rw [upN_n w] at xl ⊢
      exact d2 zf x hx xl
theorem s_laysHard {d R C t : Nat} {kd ht : Nat → Nat} {P : Nat → Nat → Nat} {z : Bool} {zv : Int32} {Q : Qt} {τ : St} (hzv : (if z = true then (1 : Int32) else 0) = zv) (g : GI τ R C kd ht) (pu : PuN kd R C P τ) (hP : ∀ f q, P f q ≤ 1498) (ht2 : t < R * C)
    (hQ : ∀ τ' hd mm, Fr [88, 89] [] τ τ' → (∀ f, f < 36 → τ'.1 88 f = nI (hd f) ∧ τ'.1 89 f = nI (mm f)) → lhP kd R C P z t hd mm → (∀ f h q, eG kd R C f h q → ¬ rxP P z hd mm f q) → Q none τ') : Cl (d + 3) m_M_laysHard [.ref 69, .int (nI t), .int zv] τ Q := by
  have hn := g.n36
  have outer : ∀ (M : Nat) (τ1 : St) (hd mm : Nat → Nat) (l4 l5 l6 l7 : Option Value), smN (fun x => 1000001 * hd x + mm x) 36 < M → Fr [88, 89] [] τ τ1 → (∀ f, f < 36 → τ1.1 88 f = nI (hd f) ∧ τ1.1 89 f = nI (mm f)) → lhP kd R C P z t hd mm → Rs M_M_laysHard (d + 2) Q 52 [some (.ref 69), some (.int (nI t)), some (.int zv), some (.int 1), l4, l5, l6, l7] [] τ1 := by
    intro M
    induction M with
    | zero => intro τ1 hd mm l4 l5 l6 l7 h; exact absurd h (Nat.not_lt_zero _)
    | succ M ihM =>
      intro τ1 hd mm l4 l5 l6 l7 hM fr hc lh
      have inner : ∀ (u k : Nat) (τ2 : St) (hd2 m2 : Nat → Nat) (x : Int32) (l5 l6 l7 : Option Value), k + u = 144 → Fr [88, 89] [] τ τ2 → (∀ f, f < 36 → τ2.1 88 f = nI (hd2 f) ∧ τ2.1 89 f = nI (m2 f)) → lhP kd R C P z t hd2 m2 → ((x = 1 ∧ smN (fun x => 1000001 * hd2 x + m2 x) 36 < M) ∨ (x = 0 ∧ smN (fun x => 1000001 * hd2 x + m2 x) 36 ≤ M ∧ ∀ f h q, eG kd R C f h q → 4 * f + h < k → ¬ rxP P z hd2 m2 f q)) → Rs M_M_laysHard (d + 2) Q 61 [some (.ref 69), some (.int (nI t)), some (.int zv), some (.int x), some (.int (nI k)), l5, l6, l7] [] τ2 := by
        intro u
        induction u with
        | zero =>
          intro k τ2 hd2 m2 x l5 l6 l7 hk f2 h2 lh2 hx
          obtain rfl : k = 144 := by omega
          rw [Rs_eq]
          simp only [E_M_laysHard, fIsA, fRt, fLen, fLit, fBool]
          refine ⟨fun _ => ?_, fun z => absurd (Int32.le_refl _) z⟩
          rcases hx with ⟨rfl, lt⟩ | ⟨rfl, le, tg⟩
          · exact ihM τ2 hd2 m2 _ _ _ _ lt f2 h2 lh2
          · rw [Rs_eq]
            simp only [E_M_laysHard, fIsA, fRt, fLen, fLit, fBool]
            exact hQ τ2 hd2 m2 f2 h2 lh2 (fun f h q e => tg f h q e (by have := e.1; have := e.2.1; omega))
        | succ u ih =>
          intro k τ2 hd2 m2 x l5 l6 l7 hk f2 h2 lh2 hx
          have dv : nI k / 4 = nI (k / 4) := pk_div (d := 4) (by omega) (by omega) (by omega)
          have rm : nI k - nI k / 4 * 4 = nI (k % 4) := pk_rem (d := 4) (by omega) (by omega) (by omega)
          rw [dv] at rm
          have g2 := g.fr f2 rfl
          have pk := (pu.fr f2 rfl) k (by omega)
          have hf36 : k / 4 < 36 := by omega
          have skip : ∀ l5 l6 l7, (∀ q, eG kd R C (k / 4) (k % 4) q → ¬ rxP P z hd2 m2 (k / 4) q) → Rs M_M_laysHard (d + 2) Q 61 [some (.ref 69), some (.int (nI t)), some (.int zv), some (.int x), some (.int (nI (k + 1))), l5, l6, l7] [] τ2 := fun l5 l6 l7 w => ih (k + 1) τ2 hd2 m2 x l5 l6 l7 (by omega) f2 h2 lh2 (hx.imp id (fun ⟨a, b, c⟩ => ⟨a, b, fun f h q e hlt => by
            have h4 := e.2.1
            by_cases c2 : 4 * f + h = k
            · have ef : k / 4 = f := by omega
              have eh : k % 4 = h := by omega
              subst ef eh
              exact w q e
            · exact c f h q e (by omega)⟩))
          rw [Rs_eq]
          rcases pk with ⟨p1, p2⟩ | ⟨q, p1, p2⟩
          · simp only [E_M_laysHard, fIsA, fRt, fLen, fLit, fBool, nI_1, nI_clamp (show k < 2 ^ 31 by omega), p1]
            exact ⟨fun z => absurd z (nI_ge (b := 144) (by omega) (by omega)), fun _ => ⟨vp_in_nI (by omega) (by omega), skip _ _ _ (fun q e => absurd e (p2 q))⟩⟩
          · have hp := hP (k / 4) q
            have hq := eG_lt p2
            have eb := (nk_nb p2.2.2.2).1
            have oq : ∀ q', eG kd R C (k / 4) (k % 4) q' → q' = q := fun q' e => by
              have := e.2.2.2
              rw [p2.2.2.2] at this
              exact (Option.some.inj this).symm
            have bq := lh2.2.1 q (by omega)
            have bf := lh2.2.1 (k / 4) hf36
            have hb6 : hbV z (hd2 q) (P (k / 4) q) ≤ 1001498 := by
              unfold hbV
              split
              · split <;> omega
              · omega
            simp only [E_M_laysHard, fIsA, fRt, fLen, fLit, fBool, nI_1, dv, rm, nI_clamp (show k < 2 ^ 31 by omega), p1]
            refine ⟨fun z => absurd z (nI_ge (b := 144) (by omega) (by omega)), fun _ => ⟨vp_in_nI (by omega) (by omega), fun z => absurd z (nI_pos (by omega)), fun _ => ⟨by decide, by decide, s_Mbeside g2 p2.1 p2.2.1 ?_⟩⟩⟩
            rw [eb, show oI (some q) = nI q from rfl]
            simp only [oT, E_M_laysHard, fIsA, fRt, fLen, fLit, fBool, nI_1, dv, rm, nI_clamp (show k < 2 ^ 31 by omega), nI_clamp (show k / 4 < 2 ^ 31 by omega), nI_clamp (show q < 2 ^ 31 by omega)]
            rw [← hzv]
            refine s_MhardBy (v := P (k / 4) q) (by omega) (by omega) hp (h2 q (by omega)).1 p1 bq.1 ?_
            rw [hzv]
            have e89 : ∀ v, (sI τ2 88 (k / 4) v).1 89 q = nI (m2 q) := fun v => by
              simp only [sI_1, reduceIte, Nat.reduceEqDiff]
              exact (h2 q (by omega)).2
            simp only [oT, E_M_laysHard, fIsA, fRt, fLen, fLit, fBool, nI_1, dv, rm, nI_clamp (show k < 2 ^ 31 by omega), nI_clamp (show k / 4 < 2 ^ 31 by omega), nI_clamp (show q < 2 ^ 31 by omega), (h2 q (by omega)).2, (h2 (k / 4) hf36).1, (h2 (k / 4) hf36).2, e89]
            have body : ∀ l5 l6 l7, rxP P z hd2 m2 (k / 4) q → Rs M_M_laysHard (d + 2) Q 61 [some (.ref 69), some (.int (nI t)), some (.int zv), some (.int 1), some (.int (nI (k + 1))), l5, l6, l7] [] (sI (sI τ2 88 (k / 4) (nI (hbV z (hd2 q) (P (k / 4) q)))) 89 (k / 4) (nI (m2 q + 1))) := fun l5 l6 l7 rx => by
              obtain ⟨st1, st2⟩ := lh_step hn.1 lh2 hP hf36 (by omega) p2 rx
              refine ih (k + 1) _ (upN hd2 (k / 4) (hbV z (hd2 q) (P (k / 4) q))) (upN m2 (k / 4) (m2 q + 1)) 1 l5 l6 l7 (by omega) ((f2.ic rfl).ic rfl) (fun f hf => ?_) st1 (Or.inl ⟨rfl, ?_⟩)
              · simp only [sI_1, reduceIte, Nat.reduceEqDiff]
                by_cases c : f = k / 4
                · rw [if_pos c, if_pos c, c, upN_e, upN_e]; exact ⟨rfl, rfl⟩
                · rw [if_neg c, if_neg c, upN_n c, upN_n c]; exact h2 f hf
              · have := smN_lt (v := fun x => 1000001 * hd2 x + m2 x) (w := fun x => 1000001 * upN hd2 (k / 4) (hbV z (hd2 q) (P (k / 4) q)) x + upN m2 (k / 4) (m2 q + 1) x) (x := k / 4) 36 hf36 (fun x _ => by
                  show 1000001 * upN hd2 (k / 4) (hbV z (hd2 q) (P (k / 4) q)) x + upN m2 (k / 4) (m2 q + 1) x ≤ 1000001 * hd2 x + m2 x
                  by_cases c : x = k / 4
                  · subst c; rw [upN_e, upN_e]; omega
                  · rw [upN_n c, upN_n c]; exact Nat.le_refl _) (by
                  show 1000001 * upN hd2 (k / 4) (hbV z (hd2 q) (P (k / 4) q)) (k / 4) + upN m2 (k / 4) (m2 q + 1) (k / 4) < 1000001 * hd2 (k / 4) + m2 (k / 4)
                  rw [upN_e, upN_e]; exact st2)
                rcases hx with ⟨_, w⟩ | ⟨_, w, _⟩ <;> omega
            refine ⟨vp_in_nI (by omega) (by omega), fun y => ⟨vp_in_nI (by omega) (by omega), vp_in_nI (by omega) (by omega), vp_in_nI (by omega) (by omega), body _ _ _ (Or.inl ((nI_ltI (by omega) (by omega)).mp y))⟩, fun y => ⟨vp_in_nI (by omega) (by omega), fun w => ?_, fun w => ⟨vp_in_nI (by omega) (by omega), vp_in_nI (by omega) (by omega), fun v => ?_, fun v => ⟨vp_in_nI (by omega) (by omega), vp_in_nI (by omega) (by omega), vp_in_nI (by omega) (by omega), body _ _ _ ?_⟩⟩⟩⟩
            · have y : ¬ hbV z (hd2 q) (P (k / 4) q) < hd2 (k / 4) := fun w => y (nI_lt w (by omega))
              refine skip _ _ _ (fun q' e rx => ?_)
              obtain rfl := oq q' e
              rcases rx with rx | rx
              · exact y rx
              · exact w (by rw [rx.1])
            · have y : ¬ hbV z (hd2 q) (P (k / 4) q) < hd2 (k / 4) := fun w => y (nI_lt w (by omega))
              have v := (nI_leI (by omega) (by omega)).mp v
              refine skip _ _ _ (fun q' e rx => ?_)
              obtain rfl := oq q' e
              rcases rx with rx | rx
              · exact y rx
              · omega
            · exact Or.inr ⟨(nI_eq (by omega) (by omega)).mp w, Nat.lt_of_not_le (fun u => v (nI_le u (by omega)))⟩
      rw [Rs_eq]
      simp only [E_M_laysHard, fIsA, fRt, fLen, fLit, fBool]
      exact inner 144 0 τ1 hd mm 0 _ _ _ (by omega) fr hc lh (Or.inr ⟨rfl, by omega, fun f h q e z => absurd z (Nat.not_lt_zero _)⟩)
  have fill : ∀ (u k : Nat) (τ1 : St), k + u = 36 → Fr [88, 89] [] τ τ1 → (∀ f, f < k → τ1.1 88 f = nI (if f = t then 0 else 1000000) ∧ τ1.1 89 f = nI (if f = t then 0 else 1000000)) → Rs M_M_laysHard (d + 2) Q 2 [some (.ref 69), some (.int (nI t)), some (.int zv), some (.int (nI k)), none, none, none, none] [] τ1 := by
    intro u
    induction u with
    | zero =>
      intro k τ1 hk fr h
      obtain rfl : k = 36 := by omega
      rw [Rs_eq]
      simp only [E_M_laysHard, fIsA, fRt, fLen, fLit, fBool]
      have far : ∀ f, f ≠ t → (if f = t then 0 else 1000000) < 1000000 → False := fun f ft z => by
        rw [if_neg ft] at z
        exact absurd z (Nat.lt_irrefl _)
      refine ⟨fun _ => outer _ τ1 (fun f => if f = t then 0 else 1000000) (fun f => if f = t then 0 else 1000000) none none none none (Nat.lt_succ_self _) fr h ⟨⟨if_pos rfl, if_pos rfl⟩, fun f hf => ?_, fun f hf z => ?_, fun _ f hf ft z => (far f ft z).elim, fun _ f hf z => ?_⟩, fun z => absurd (Int32.le_refl _) z⟩
      · show (if f = t then 0 else 1000000) ≤ 1000000 ∧ (if f = t then 0 else 1000000) ≤ 1000000 ∧ ((if f = t then 0 else 1000000) = 1000000 → (if f = t then 0 else 1000000) = 1000000)
        refine ⟨?_, ?_, id⟩ <;> (split <;> omega)
      · by_cases ft : f = t
        · subst ft
          refine ⟨Nat.le_of_eq (by simp only [reduceIte, Nat.mul_zero]), fun x => decide (x = f), ?_, fun x _ hx => Or.inr ?_⟩
          · have := cn2_lt (p := fun _ => false) (r := fun x => decide (x = f)) (x := f) rfl (decide_eq_true rfl) 36 hf (fun q _ z => absurd z (by decide))
            simp only [reduceIte]
            omega
          · obtain rfl : x = f := of_decide_eq_true hx
            exact ⟨rfl, Nat.le_refl _⟩
        · exact (far f ft z).elim
      · by_cases ft : f = t
        · subst ft
          exact ⟨by simp only [reduceIte]; omega, 0, rfl⟩
        · exact (far f ft z).elim
    | succ u ih =>
      intro k τ1 hk fr h
      have nx : ∀ v : Nat, v = (if k = t then 0 else 1000000) → Rs M_M_laysHard (d + 2) Q 2 [some (.ref 69), some (.int (nI t)), some (.int zv), some (.int (nI (k + 1))), none, none, none, none] [] (sI (sI τ1 88 k (nI v)) 89 k (nI v)) := fun v hv => ih (k + 1) _ (by omega) ((fr.ic rfl).ic rfl) (fun f hf => by
        simp only [sI_1, reduceIte, Nat.reduceEqDiff]
        by_cases c : f = k
        · rw [if_pos c, if_pos c, c, hv]; exact ⟨rfl, rfl⟩
        · rw [if_neg c, if_neg c]; exact h f (by omega))
      rw [Rs_eq]
      by_cases c : k = t
      · have e : (nI k = nI t) = True := eq_true (by rw [c])
        simp only [E_M_laysHard, fIsA, fRt, fLen, fLit, fBool, nI_1, nI_clamp (show k < 2 ^ 31 by omega), e]
        exact ⟨fun z => absurd z (nI_ge (b := 36) (by omega) (by omega)), fun _ => ⟨vp_in_nI (by omega) (by omega), vp_in_nI (by omega) (by omega), nx 0 (by rw [if_pos c])⟩⟩
      · have e : (nI k = nI t) = False := eq_false (fun w => c ((nI_eq (by omega) (by omega)).mp w))
        simp only [E_M_laysHard, fIsA, fRt, fLen, fLit, fBool, nI_1, nI_clamp (show k < 2 ^ 31 by omega), e]
        exact ⟨fun z => absurd z (nI_ge (b := 36) (by omega) (by omega)), fun _ => ⟨vp_in_nI (by omega) (by omega), vp_in_nI (by omega) (by omega), nx 1000000 (by rw [if_neg c])⟩⟩
  rw [N_M_laysHard]
  simp only [E_M_laysHard, fIsA, fRt, fLen, fLit, fBool]
  exact fill 36 0 τ (by omega) Fr.rf (fun f hf => absurd hf (Nat.not_lt_zero _))
