/-! PLANKS: any way, the reference -/
/-- a way from sea to harbour by pulls of l at most -/
def wyP (kd : Nat → Nat) (R C : Nat) (P : Nat → Nat → Nat) (l : Nat) : Prop := ∃ f j, (f < R * C ∧ kd f = 1) ∧ toK kd R C P (hbP kd R C) l j f
def awP (kd : Nat → Nat) (R C : Nat) (P : Nat → Nat → Nat) (v : Nat) : Prop := (v ≤ 1498 ∧ wyP kd R C P v ∧ ∀ k, k < v → ¬ wyP kd R C P k) ∨ (v = 1000000 ∧ ¬ wyP kd R C P 1498)
theorem wyP_lim {kd : Nat → Nat} {R C l l' : Nat} {P : Nat → Nat → Nat} (h : l ≤ l') (w : wyP kd R C P l) : wyP kd R C P l' := by
  obtain ⟨f, j, a, b⟩ := w
  exact ⟨f, j, a, toK_lim h j f b⟩
theorem awP_uq {kd : Nat → Nat} {R C v v' : Nat} {P : Nat → Nat → Nat} (h : awP kd R C P v) (h' : awP kd R C P v') : v = v' := by
  rcases h with ⟨a, b, c⟩ | ⟨a, b⟩
  · rcases h' with ⟨a', b', c'⟩ | ⟨a', b'⟩
    · rcases Nat.lt_trichotomy v v' with z | z | z
      · exact absurd b (c' v z)
      · exact z
      · exact absurd b' (c v' z)
    · exact absurd (wyP_lim a b) b'
  · rcases h' with ⟨a', b', c'⟩ | ⟨a', b'⟩
    · exact absurd (wyP_lim a' b') b
    · omega
theorem awP_ex {kd : Nat → Nat} {R C : Nat} {P : Nat → Nat → Nat} : ∃ v, awP kd R C P v := by
  by_cases w : wyP kd R C P 1498
  · have : ∀ n, n ≤ 1498 → wyP kd R C P n → ∃ v, awP kd R C P v := by
      intro n
      induction n using Nat.strongRecOn with
      | ind n ih =>
        intro hn hw
        by_cases c : ∃ k, k < n ∧ wyP kd R C P k
        · obtain ⟨k, k1, k2⟩ := c
          exact ih k k1 (by omega) k2
        · exact ⟨n, Or.inl ⟨hn, hw, fun k k1 k2 => c ⟨k, k1, k2⟩⟩⟩
    exact this 1498 (Nat.le_refl _) w
  · exact ⟨1000000, Or.inr ⟨rfl, w⟩⟩
theorem awP_le {kd : Nat → Nat} {R C v : Nat} {P : Nat → Nat → Nat} (h : awP kd R C P v) : v ≤ 1000000 := by
  rcases h with ⟨a, _⟩ | ⟨a, _⟩ <;> omega
theorem upN_same {v : Nat → Nat} {f a : Nat} (h : a = v f) : upN v f a = v := funext (fun x => by
  by_cases z : x = f
  · subst z; rw [upN_e, h]
  · rw [upN_n z])
def anP (kd : Nat → Nat) (R C : Nat) (P : Nat → Nat → Nat) (hd : Nat → Nat) : Prop := (∀ f, f < 36 → hd f ≤ 1000000) ∧ (∀ f, hbP kd R C f → hd f = 0) ∧ ∀ f, f < R * C → hd f < 1000000 → hd f ≤ 1498 ∧ ∃ k, toK kd R C P (hbP kd R C) (hd f) k f
theorem an_step {kd : Nat → Nat} {R C f h q : Nat} {P : Nat → Nat → Nat} {hd : Nat → Nat} (hn : R * C ≤ 36) (hP : ∀ f q, P f q ≤ 1498) (an : anP kd R C P hd) (e : eG kd R C f h q) : anP kd R C P (upN hd f (min (max (hd q) (P f q)) (hd f))) := by
  obtain ⟨a, b, c⟩ := an
  have hf := e.1
  have hq := eG_lt e
  have hp := hP f q
  refine ⟨fun x hx => ?_, fun x hx => ?_, fun x hx xl => ?_⟩
  · by_cases z : x = f
    · subst z; rw [upN_e]; have := a x hx; omega
    · rw [upN_n z]; exact a x hx
  · by_cases z : x = f
    · subst z; rw [upN_e, b x hx]; omega
    · rw [upN_n z]; exact b x hx
  · by_cases z : x = f
    · subst z
      rw [upN_e] at xl ⊢
      by_cases c2 : max (hd q) (P x q) < hd x
      · rw [Nat.min_eq_left (by omega)] at xl ⊢
        obtain ⟨q1, k, q2⟩ := c q hq (by omega)
        exact ⟨by omega, k + 1, h, q, e, by omega, toK_lim (by omega) k q q2⟩
      · rw [Nat.min_eq_right (by omega)] at xl ⊢
        exact c x hx xl
    · rw [upN_n z] at xl ⊢
      exact c x hx xl
theorem s_ManyWay {d R C : Nat} {kd ht : Nat → Nat} {P : Nat → Nat → Nat} {Q : Qt} {τ : St} (g : GI τ R C kd ht) (pu : PuN kd R C P τ) (hP : ∀ f q, P f q ≤ 1498) (hQ : ∀ v τ', awP kd R C P v → Fr [88] [] τ τ' → Q (some (.int (nI v))) τ') : Cl (d + 3) m_M_anyWay [.ref 69] τ Q := by
  have hn := g.n36
  -- the least of the seas
  have last : ∀ (hd : Nat → Nat) (τ1 : St), Fr [88] [] τ τ1 → (∀ f, f < 36 → τ1.1 88 f = nI (hd f)) → anP kd R C P hd → (∀ f h q, eG kd R C f h q → hd f ≤ max (hd q) (P f q)) → ∀ (u f L : Nat) (x : Int32), f + u = R * C → ((L = 1000000 ∧ ∀ s, s < f → kd s = 1 → hd s = 1000000) ∨ (L < 1000000 ∧ (∃ s, s < f ∧ kd s = 1 ∧ hd s = L) ∧ ∀ s, s < f → kd s = 1 → L ≤ hd s)) → Rs M_M_anyWay (d + 2) Q 145 [some (.ref 69), some (.int x), some (.int (nI L)), some (.int (nI f))] [] τ1 := by
    intro hd τ1 f1 h1 an tg u
    have g1 := g.fr f1 rfl
    have low : ∀ l, l < 1000000 → ∀ k f, toK kd R C P (hbP kd R C) l k f → hd f ≤ l := by
      intro l hl k
      induction k with
      | zero => intro f z; rw [an.2.1 f z]; omega
      | succ k ih =>
        rintro f ⟨h, q, e, a, b⟩
        have := ih q b
        have := tg f h q e
        omega
    induction u with
    | zero =>
      intro f L x hf hL
      obtain rfl : f = R * C := by omega
      rw [Rs_eq]
      simp only [E_M_anyWay, fIsA, fRt, fLen, fLit, fBool]
      refine s_Mfields g1 ?_
      simp only [oT, oN, E_M_anyWay, fIsA, fRt, fLen, fLit, fBool]
      refine ⟨fun _ => hQ L τ1 ?_ f1, fun z => absurd (Int32.le_refl _) z⟩
      rcases hL with ⟨a, b⟩ | ⟨a, ⟨s, s1, s2, s3⟩, b⟩
      · refine Or.inr ⟨a, fun ⟨s, j, ⟨s1, s2⟩, z⟩ => ?_⟩
        have := low 1498 (by omega) j s z
        have := b s s1 s2
        omega
      · obtain ⟨c1, k, c2⟩ := an.2.2 s s1 (by omega)
        rw [s3] at c1 c2
        refine Or.inl ⟨c1, ⟨s, k, ⟨s1, s2⟩, c2⟩, fun l hl ⟨s', j, ⟨s1', s2'⟩, z⟩ => ?_⟩
        have := low l (by omega) j s' z
        have := b s' s1' s2'
        omega
    | succ u ih =>
      intro f L x hf hL
      have hfl : f < R * C := by omega
      have k3 := g1.2.2.1 f hfl
      have k4 := k3.1.1
      have hL6 : L ≤ 1000000 := by
        rcases hL with ⟨w, _⟩ | ⟨w, _⟩ <;> omega
      have bf := an.1 f (by omega)
      rw [Rs_eq]
      simp only [E_M_anyWay, fIsA, fRt, fLen, fLit, fBool]
      refine s_Mfields g1 ?_
      have mn : (if nI (hd f) < nI L then nI (hd f) else nI L) = nI (min (hd f) L) := by
        by_cases c : hd f < L
        · rw [if_pos (nI_lt c (by omega)), Nat.min_eq_left (by omega)]
        · rw [if_neg (fun w => c ((nI_ltI (by omega) (by omega)).mp w)), Nat.min_eq_right (by omega)]
      simp only [oT, oN, E_M_anyWay, fIsA, fRt, fLen, fLit, fBool, nI_1, nI_clamp (show f < 2 ^ 31 by omega), k3.2.1, h1 f (by omega), mn]
      refine ⟨fun z => absurd z (nI_ge (by omega) (by omega)), fun _ => ⟨vp_in_nI (by omega) (by omega), fun z => ?_, fun z => ⟨vp_in_nI (by omega) (by omega), ?_⟩⟩⟩
      · have z : kd f ≠ 1 := fun w => z (by rw [w]; rfl)
        refine ih (f + 1) L x (by omega) ?_
        rcases hL with ⟨a, b⟩ | ⟨a, ⟨s, s1, s2, s3⟩, b⟩
        · exact Or.inl ⟨a, fun s hs ks => b s (Nat.lt_of_le_of_ne (Nat.le_of_lt_succ hs) (fun e => z (e ▸ ks))) ks⟩
        · exact Or.inr ⟨a, ⟨s, by omega, s2, s3⟩, fun s hs ks => b s (Nat.lt_of_le_of_ne (Nat.le_of_lt_succ hs) (fun e => z (e ▸ ks))) ks⟩
      · have z : kd f = 1 := (nI_eq (b := 1) (by omega) (by omega)).mp z
        refine ih (f + 1) (min (hd f) L) x (by omega) ?_
        rcases hL with ⟨a, b⟩ | ⟨a, ⟨s, s1, s2, s3⟩, b⟩
        · by_cases c : hd f < 1000000
          · rw [Nat.min_eq_left (by omega)]
            refine Or.inr ⟨c, ⟨f, by omega, z, rfl⟩, fun s hs ks => ?_⟩
            by_cases e : s = f
            · subst e; exact Nat.le_refl _
            · rw [b s (by omega) ks]; omega
          · rw [Nat.min_eq_right (by omega)]
            refine Or.inl ⟨a, fun s hs ks => ?_⟩
            by_cases e : s = f
            · subst e; omega
            · exact b s (by omega) ks
        · by_cases c : hd f < L
          · rw [Nat.min_eq_left (by omega)]
            refine Or.inr ⟨by omega, ⟨f, by omega, z, rfl⟩, fun s hs ks => ?_⟩
            by_cases e : s = f
            · subst e; exact Nat.le_refl _
            · have := b s (by omega) ks; omega
          · rw [Nat.min_eq_right (by omega)]
            refine Or.inr ⟨a, ⟨s, by omega, s2, s3⟩, fun s hs ks => ?_⟩
            by_cases e : s = f
            · subst e; omega
            · exact b s (by omega) ks
  have outer : ∀ (M : Nat) (τ1 : St) (hd : Nat → Nat) (l2 l3 : Option Value), smN hd 36 < M → Fr [88] [] τ τ1 → (∀ f, f < 36 → τ1.1 88 f = nI (hd f)) → anP kd R C P hd → Rs M_M_anyWay (d + 2) Q 39 [some (.ref 69), some (.int 1), l2, l3] [] τ1 := by
    intro M
    induction M with
    | zero => intro τ1 hd l2 l3 h; exact absurd h (Nat.not_lt_zero _)
    | succ M ihM =>
      intro τ1 hd l2 l3 hM fr hc an
      have inner : ∀ (u k : Nat) (τ2 : St) (h2 : Nat → Nat) (x : Int32) (l3 : Option Value), k + u = 144 → Fr [88] [] τ τ2 → (∀ f, f < 36 → τ2.1 88 f = nI (h2 f)) → anP kd R C P h2 → ((x = 1 ∧ smN h2 36 < M) ∨ (x = 0 ∧ smN h2 36 ≤ M ∧ ∀ f h q, eG kd R C f h q → 4 * f + h < k → h2 f ≤ max (h2 q) (P f q))) → Rs M_M_anyWay (d + 2) Q 47 [some (.ref 69), some (.int x), some (.int (nI k)), l3] [] τ2 := by
        intro u
        induction u with
        | zero =>
          intro k τ2 h2 x l3 hk f2 e2 an2 hx
          obtain rfl : k = 144 := by omega
          rw [Rs_eq]
          simp only [E_M_anyWay, fIsA, fRt, fLen, fLit, fBool]
          refine ⟨fun _ => ?_, fun z => absurd (Int32.le_refl _) z⟩
          rcases hx with ⟨rfl, lt⟩ | ⟨rfl, le, tg⟩
          · exact ihM τ2 h2 _ _ lt f2 e2 an2
          · rw [Rs_eq]
            simp only [E_M_anyWay, fIsA, fRt, fLen, fLit, fBool]
            exact last h2 τ2 f2 e2 an2 (fun f h q e => tg f h q e (by have := e.1; have := e.2.1; omega)) (R * C) 0 1000000 _ (by omega) (Or.inl ⟨rfl, fun s hs => absurd hs (Nat.not_lt_zero _)⟩)
        | succ u ih =>
          intro k τ2 h2 x l3 hk f2 e2 an2 hx
          have dv : nI k / 4 = nI (k / 4) := pk_div (d := 4) (by omega) (by omega) (by omega)
          have rm : nI k - nI k / 4 * 4 = nI (k % 4) := pk_rem (d := 4) (by omega) (by omega) (by omega)
          rw [dv] at rm
          have g2 := g.fr f2 rfl
          have pk := (pu.fr f2 rfl) k (by omega)
          have hf36 : k / 4 < 36 := by omega
          rw [Rs_eq]
          rcases pk with ⟨p1, p2⟩ | ⟨q, p1, p2⟩
          · simp only [E_M_anyWay, fIsA, fRt, fLen, fLit, fBool, nI_1, nI_clamp (show k < 2 ^ 31 by omega), p1]
            refine ⟨fun z => absurd z (nI_ge (b := 144) (by omega) (by omega)), fun _ => ⟨vp_in_nI (by omega) (by omega), ih (k + 1) τ2 h2 x l3 (by omega) f2 e2 an2 (hx.imp id (fun ⟨a, b, c⟩ => ⟨a, b, fun f h q e hlt => ?_⟩))⟩⟩
            have h4 := e.2.1
            by_cases c2 : 4 * f + h = k
            · have ef : k / 4 = f := by omega
              have eh : k % 4 = h := by omega
              subst ef eh
              exact absurd e (p2 q)
            · exact c f h q e (by omega)
          · have hp := hP (k / 4) q
            have hq := eG_lt p2
            have eb := (nk_nb p2.2.2.2).1
            have oq : ∀ q', eG kd R C (k / 4) (k % 4) q' → q' = q := fun q' e => by
              have := e.2.2.2
              rw [p2.2.2.2] at this
              exact (Option.some.inj this).symm
            have bq := an2.1 q (by omega)
            have bf := an2.1 (k / 4) hf36
            have mx : (if nI (h2 q) < nI (P (k / 4) q) then nI (P (k / 4) q) else nI (h2 q)) = nI (max (h2 q) (P (k / 4) q)) := by
              by_cases c : h2 q < P (k / 4) q
              · rw [if_pos (nI_lt c (by omega)), Nat.max_eq_right (by omega)]
              · rw [if_neg (fun w => c ((nI_ltI (by omega) (by omega)).mp w)), Nat.max_eq_left (by omega)]
            have mn : (if nI (max (h2 q) (P (k / 4) q)) < nI (h2 (k / 4)) then nI (max (h2 q) (P (k / 4) q)) else nI (h2 (k / 4))) = nI (min (max (h2 q) (P (k / 4) q)) (h2 (k / 4))) := by
              by_cases c : max (h2 q) (P (k / 4) q) < h2 (k / 4)
              · rw [if_pos (nI_lt c (by omega)), Nat.min_eq_left (by omega)]
              · rw [if_neg (fun w => c ((nI_ltI (by omega) (by omega)).mp w)), Nat.min_eq_right (by omega)]
            have lt : smN (upN h2 (k / 4) (min (max (h2 q) (P (k / 4) q)) (h2 (k / 4)))) 36 ≤ smN h2 36 := smN_le 36 (fun x _ => by
              by_cases c : x = k / 4
              · subst c; rw [upN_e]; omega
              · rw [upN_n c]; exact Nat.le_refl _)
            have nx : ∀ (x : Int32) (l3 : Option Value), ((x = 1 ∧ smN (upN h2 (k / 4) (min (max (h2 q) (P (k / 4) q)) (h2 (k / 4)))) 36 < M) ∨ (x = 0 ∧ smN (upN h2 (k / 4) (min (max (h2 q) (P (k / 4) q)) (h2 (k / 4)))) 36 ≤ M ∧ ∀ f h q', eG kd R C f h q' → 4 * f + h < k + 1 → upN h2 (k / 4) (min (max (h2 q) (P (k / 4) q)) (h2 (k / 4))) f ≤ max (upN h2 (k / 4) (min (max (h2 q) (P (k / 4) q)) (h2 (k / 4))) q') (P f q'))) → Rs M_M_anyWay (d + 2) Q 47 [some (.ref 69), some (.int x), some (.int (nI (k + 1))), l3] [] (sI τ2 88 (k / 4) (nI (min (max (h2 q) (P (k / 4) q)) (h2 (k / 4))))) := fun x l3 hx => by
              refine ih (k + 1) _ _ x l3 (by omega) (f2.ic rfl) (fun f hf => ?_) (an_step hn.1 hP an2 p2) hx
              simp only [sI_1, reduceIte]
              by_cases c : f = k / 4
              · rw [if_pos c, c, upN_e]
              · rw [if_neg c, upN_n c]; exact e2 f hf
            simp only [E_M_anyWay, fIsA, fRt, fLen, fLit, fBool, nI_1, dv, rm, nI_clamp (show k < 2 ^ 31 by omega), p1]
            refine ⟨fun z => absurd z (nI_ge (b := 144) (by omega) (by omega)), fun _ => ⟨vp_in_nI (by omega) (by omega), fun z => absurd z (nI_pos (by omega)), fun _ => ⟨by decide, by decide, s_Mbeside g2 p2.1 p2.2.1 ?_⟩⟩⟩
            rw [eb, show oI (some q) = nI q from rfl]
            simp only [oT, oN, E_M_anyWay, fIsA, fRt, fLen, fLit, fBool, nI_1, dv, rm, nI_clamp (show k < 2 ^ 31 by omega), nI_clamp (show k / 4 < 2 ^ 31 by omega), nI_clamp (show q < 2 ^ 31 by omega), e2 q (by omega), e2 (k / 4) hf36, p1, mx, mn]
            rcases hx with ⟨rfl, hx⟩ | ⟨rfl, hx, tg⟩
            · have n1 := fun l3 => nx 1 l3 (Or.inl ⟨rfl, by omega⟩)
              refine ⟨vp_in_nI (by omega) (by omega), vp_in_nI (by omega) (by omega), fun _ => ⟨by decide, by decide, vp_in_nI (by omega) (by omega), vp_in_nI (by omega) (by omega), n1 _⟩, fun z => absurd z (by decide)⟩
            · refine ⟨vp_in_nI (by omega) (by omega), vp_in_nI (by omega) (by omega), fun z => absurd rfl z, fun _ => ⟨by decide, vp_in_nI (by omega) (by omega), fun z => ⟨by decide, by decide, vp_in_nI (by omega) (by omega), vp_in_nI (by omega) (by omega), ?_⟩, fun z => ⟨by decide, by decide, vp_in_nI (by omega) (by omega), vp_in_nI (by omega) (by omega), ?_⟩⟩⟩
              · have z := (nI_leI (by omega) (by omega)).mp z
                have es : upN h2 (k / 4) (min (max (h2 q) (P (k / 4) q)) (h2 (k / 4))) = h2 := upN_same (by omega)
                refine nx 0 _ (Or.inr ⟨rfl, by omega, ?_⟩)
                rw [es]
                intro f h q' e hlt
                have h4 := e.2.1
                by_cases c2 : 4 * f + h = k
                · have ef : k / 4 = f := by omega
                  have eh : k % 4 = h := by omega
                  subst ef eh
                  obtain rfl := oq q' e
                  exact z
                · exact tg f h q' e (by omega)
              · have z : max (h2 q) (P (k / 4) q) < h2 (k / 4) := Nat.lt_of_not_le (fun w => z (nI_le w (by omega)))
                refine nx 1 _ (Or.inl ⟨rfl, ?_⟩)
                have := smN_lt (v := h2) (w := upN h2 (k / 4) (min (max (h2 q) (P (k / 4) q)) (h2 (k / 4)))) (x := k / 4) 36 hf36 (fun x _ => by
                  by_cases c : x = k / 4
                  · subst c; rw [upN_e]; omega
                  · rw [upN_n c]; exact Nat.le_refl _) (by rw [upN_e]; omega)
                omega
      rw [Rs_eq]
      simp only [E_M_anyWay, fIsA, fRt, fLen, fLit, fBool]
      exact inner 144 0 τ1 hd 0 _ (by omega) fr hc an (Or.inr ⟨rfl, by omega, fun f h q e z => absurd z (Nat.not_lt_zero _)⟩)
  have fill : ∀ (u k : Nat) (τ1 : St) (hd : Nat → Nat), k + u = 36 → Fr [88] [] τ τ1 → (∀ f, f < k → τ1.1 88 f = nI (hd f) ∧ (hd f = 0 ∨ hd f = 1000000) ∧ (f < R * C → (hd f = 0 ↔ kd f = 2))) → Rs M_M_anyWay (d + 2) Q 2 [some (.ref 69), some (.int (nI k)), none, none] [] τ1 := by
    intro u
    induction u with
    | zero =>
      intro k τ1 hd hk fr h
      obtain rfl : k = 36 := by omega
      rw [Rs_eq]
      simp only [E_M_anyWay, fIsA, fRt, fLen, fLit, fBool]
      refine ⟨fun _ => outer _ τ1 hd none none (Nat.lt_succ_self _) fr (fun f hf => (h f hf).1) ⟨fun f hf => ?_, fun f hf => ?_, fun f hf z => ?_⟩, fun z => absurd (Int32.le_refl _) z⟩
      · rcases (h f hf).2.1 with e | e <;> omega
      · exact ((h f (by have := hf.1; omega)).2.2 hf.1).mpr hf.2
      · have e0 : hd f = 0 := by rcases (h f (by omega)).2.1 with e | e <;> omega
        rw [e0]
        exact ⟨by omega, 0, hf, ((h f (by omega)).2.2 hf).mp e0⟩
    | succ u ih =>
      intro k τ1 hd hk fr h
      have nx : ∀ v : Nat, (v = 0 ∨ v = 1000000) → (k < R * C → (v = 0 ↔ kd k = 2)) → Rs M_M_anyWay (d + 2) Q 2 [some (.ref 69), some (.int (nI (k + 1))), none, none] [] (sI τ1 88 k (nI v)) := fun v h1 h2 => ih (k + 1) _ (upN hd k v) (by omega) (fr.ic rfl) (fun f hf => by
        simp only [sI_1, reduceIte]
        by_cases c : f = k
        · subst c; rw [if_pos rfl, upN_e]; exact ⟨rfl, h1, h2⟩
        · rw [if_neg c, upN_n c]; exact h f (by omega))
      have g1 := g.fr fr rfl
      have key : k < R * C → (τ1.1 71 k = 2 ↔ kd k = 2) := fun hk => by
        have k3 := g1.2.2.1 k hk
        have := k3.1.1
        rw [k3.2.1]
        exact ⟨fun w => (nI_eq (b := 2) (by omega) (by omega)).mp w, fun w => by rw [w]; rfl⟩
      rw [Rs_eq]
      simp only [E_M_anyWay, fIsA, fRt, fLen, fLit, fBool, nI_1, nI_clamp (show k < 2 ^ 31 by omega)]
      refine ⟨fun z => absurd z (nI_ge (b := 36) (by omega) (by omega)), fun _ => ⟨vp_in_nI (by omega) (by omega), fun z => ⟨vp_in_nI (by omega) (by omega), nx 1000000 (Or.inr rfl) (fun hk => ⟨fun w => absurd w (by decide), fun w => absurd ((key hk).mpr w) z⟩)⟩, fun z => ⟨vp_in_nI (by omega) (by omega), nx 0 (Or.inl rfl) (fun hk => ⟨fun _ => (key hk).mp z, fun _ => rfl⟩)⟩⟩⟩
  rw [N_M_anyWay]
  simp only [E_M_anyWay, fIsA, fRt, fLen, fLit, fBool]
  exact fill 36 0 τ (fun _ => 0) (by omega) Fr.rf (fun f hf => absurd hf (Nat.not_lt_zero _))
