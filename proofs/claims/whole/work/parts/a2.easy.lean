/-! PAIRS: easy -/
theorem pth_sum {kd : Nat → Nat} {R C t : Nat} {P : Nat → Nat → Nat} {c : Nat → Nat} (hn : R * C ≤ 36) (ht2 : t < R * C) (kt : kd t ≠ 3) (hP : ∀ f q, P f q ≤ 1498) (mz : mzP kd R C P t 1498 64 c) {f : Nat} (hf : f < R * C) (h : c f < 2 ^ 30) : ∃ l : List Nat, l.length ≤ 35 ∧ pth kd R C P 1498 64 c f l := by
  obtain ⟨hd, mm, lh, tg⟩ := lh_ex (kd := kd) (P := P) true hn ht2 hP
  have mz2 := lh_mz hn ht2 kt hP lh tg
  have key : ∀ f, f < R * C → c f < 2 ^ 30 → c f = 64 * hd f + mm f ∧ mm f ≤ 35 := fun f hf h => by
    have e := mz_eq mz mz2 hf
    have f6 := (ccS_far hn lh hf).1.mp (by omega)
    rw [ccS_lt f6] at e
    exact ⟨e, (lh_small lh (by omega) f6).1⟩
  obtain ⟨l, l1, l2⟩ := pth_ex (v := mm) mz kt (fun f q hf hq cf cq e => by
    obtain ⟨a1, a2⟩ := key f hf cf
    obtain ⟨b1, b2⟩ := key q hq cq
    omega) (mm f) f rfl hf h
  have := (key f hf h).2
  exact ⟨l, by omega, l2⟩
theorem s_Heasy {d R C ns o e m i B : Nat} {kd ht : Nat → Nat} {W S r : Nat → Int32} {P : Nat → Nat → Nat} {Q : Qt} {τ : St} {w a b : Int32} (E : EnvI R C kd ht ns o e m W S τ) (mo : MoI τ 9 ns (R * C) B kd r) (hi : r 46 = nI i) (hi2 : i < 2 ^ 30) (hP : ∀ f q, plF ht m S w r (r 47) i f q = nI (P f q) ∧ P f q ≤ 1498)
    (bad : ¬ ((1 ≤ w ∧ w ≤ nI 99) ∧ (0 ≤ a ∧ a < nI (R * C)) ∧ 0 ≤ b ∧ b < nI (R * C)) → Q (some (.int (-1))) τ)
    (rock : ∀ x y, x < R * C → y < R * C → a = nI x → b = nI y → (1 ≤ w ∧ w ≤ nI 99) → kd x = 3 ∨ kd y = 3 → Q (some (.int (-2))) τ)
    (far : ∀ x y c, x < R * C → y < R * C → a = nI x → b = nI y → (1 ≤ w ∧ w ≤ nI 99) → kd x ≠ 3 → kd y ≠ 3 → mzP kd R C P y 1498 64 c → ¬ c x < 2 ^ 30 → ∀ τ', Fr [55, 58, 61, 62] [(53, 3), (56, 3), (59, 2), (59, 3), (59, 4), (60, 1), (60, 2), (60, 3)] τ τ' → τ'.1 59 2 = nI 53 → Q (some (.int (-2))) τ')
    (good : ∀ x y c l, x < R * C → y < R * C → a = nI x → b = nI y → (1 ≤ w ∧ w ≤ nI 99) → kd x ≠ 3 → kd y ≠ 3 → mzP kd R C P y 1498 64 c → c x < 2 ^ 30 → l.length ≤ 35 → pth kd R C P 1498 64 c x l → ∀ τ', Fr [4, 55, 58, 61, 62] [(3, 1), (53, 3), (56, 3), (59, 2), (59, 3), (59, 4), (60, 1), (60, 2), (60, 3)] τ τ' → τ'.1 59 2 = nI 53 → τ'.1 3 1 = nI (l.length + 1) → (∀ j, j < l.length + 1 → τ'.2 4 j = (nI ((x :: l).getD j 0)).toInt64) → Q (some (.int (nI (c x / 64)))) τ') : Cl (d + 8) m_H_easy [.ref 0, .int w, .int a, .int b] τ Q := by
  have hn := E.1.1.n36
  rw [N_H_easy]
  simp only [E_H_easy, fIsA, fRt, fLen, fLit, fBool]
  refine s_HwhyNoWay E.1.1 (fun z => ?_) (fun x y hx hy ex ey hw rk => ?_) (fun x y hx hy ex ey hw kx ky => ?_)
  · have q := bad z
    simp only [oT, oN, E_H_easy, fIsA, fRt, fLen, fLit, fBool]
    exact q
  · have q := rock x y hx hy ex ey hw rk
    simp only [oT, oN, E_H_easy, fIsA, fRt, fLen, fLit, fBool]
    first
      | exact q
      | exact ⟨fun z => absurd z (by decide), fun _ => q⟩
  · simp only [oT, oN, E_H_easy, fIsA, fRt, fLen, fLit, fBool]
    refine s_HstartWays2 E mo hi hi2 (fun τ1 f1 wz w53 => ?_)
    subst ex ey
    simp only [oT, oN, E_H_easy, fIsA, fRt, fLen, fLit, fBool]
    have g1 := E.1.1.fr f1 rfl
    refine s_Wmeasure (lim := 1498) (s := 64) g1 wz hP hy (by omega) (by omega) (fun τ2 c f2 hc mz => ?_)
    simp only [oT, oN, E_H_easy, fIsA, fRt, fLen, fLit, fBool]
    have g2 := g1.fr f2 rfl
    have wz2 := wz.fr f2 rfl rfl rfl rfl rfl rfl rfl
    have bx := (hc x hx).2
    refine s_WcostFrom g2 hx (hc x hx).1 ?_
    simp only [oT, oN, E_H_easy, fIsA, fRt, fLen, fLit, fBool]
    by_cases cx : c x < 2 ^ 30
    · obtain ⟨l, l1, l2⟩ := pth_sum hn.1 hy ky (fun f q => (hP f q).2) mz hx cx
      have ne : (nI (c x) = 1073741824) = False := eq_false (fun z => by
        have := (nI_eq (b := 1073741824) (by omega) (by omega)).mp z
        omega)
      have dv : nI (c x) / 64 = nI (c x / 64) := pk_div (d := 64) (by omega) (by omega) (by omega)
      simp only [oT, oN, E_H_easy, fIsA, fRt, fLen, fLit, fBool, ne]
      refine s_Wtell (lim := 1498) (s := 64) g2 wz2 hP hc hx (by omega) (by omega) l2 l1 (fun τ3 f3 e1 e2 => ?_)
      have q := good x y c l hx hy rfl rfl hw kx ky mz cx l1 l2 τ3 (((f1.wk rfl).tr (f2.wk rfl)).tr (f3.wk rfl)) ((f3.u1 59 2 rfl).trans ((f2.u1 59 2 rfl).trans w53)) e1 e2
      simp only [oT, oN, E_H_easy, fIsA, fRt, fLen, fLit, fBool, dv]
      exact ⟨by decide, q⟩
    · have q := far x y c hx hy rfl rfl hw kx ky mz cx τ2 ((f1.wk rfl).tr (f2.wk rfl)) ((f2.u1 59 2 rfl).trans w53)
      have ee : (nI (c x) = 1073741824) = True := eq_true (by rw [show c x = 1073741824 by omega]; rfl)
      simp only [oT, oN, E_H_easy, fIsA, fRt, fLen, fLit, fBool, ee]
      exact q
theorem s_easyLoop {D R C t f0 : Nat} {kd ht hd mm : Nat → Nat} {P : Nat → Nat → Nat} {w : Int32} {Q : Qt} {τ : St} (g : GI τ R C kd ht) (pu : PuN kd R C P τ) (hP : ∀ f q, P f q ≤ 1498) (ht2 : t < R * C) (kt : kd t ≠ 3) (h0 : f0 < R * C) (h88 : ∀ f, f < 36 → τ.1 88 f = nI (hd f) ∧ τ.1 89 f = nI (mm f)) (lh : lhP kd R C P true t hd mm) (tg : ∀ f h q, eG kd R C f h q → ¬ rxP P true hd mm f q) : ∀ (l : List Nat) (n f : Nat) (τ1 : St), pth kd R C P 1498 64 (ccS hd mm) f l → f < R * C → hd f < 1000000 → n + l.length ≤ 47 → Fr [70] [(69, 1)] τ τ1 → τ1.1 69 1 = nI n → (∀ τ', Fr [70] [(69, 1)] τ τ' → τ'.1 69 1 = nI (n + l.length) → (∀ j, j < n → τ'.2 70 j = τ1.2 70 j) → (∀ j, j < l.length → τ'.2 70 (n + j) = (nI (l.getD j 0)).toInt64) → Q (some (.int (nI (hd f0)))) τ') → Rs M_M_easy (D + 3) Q 85 [some (.ref 69), some (.int w), some (.int (nI f0)), some (.int (nI t)), some (.int (nI f))] [] τ1 := by
  have hn := g.n36
  have mz := lh_mz hn.1 ht2 kt hP lh tg
  intro l
  induction l with
  | nil =>
    intro n f τ1 hp hf f6 hn2 fr h1 hQ
    have ft : f = t := Classical.byContradiction (fun ft => by
      obtain ⟨q, e, _⟩ := onB_so mz kt hf ((ccS_far hn.1 lh hf).1.mpr f6) ft hp
      exact absurd e (by simp))
    subst ft
    have en := hQ τ1 fr h1 (fun j _ => rfl) (fun j hj => absurd hj (Nat.not_lt_zero _))
    rw [Rs_eq]
    simp only [E_M_easy, fIsA, fRt, fLen, fLit, fBool, nI_clamp (show f0 < 2 ^ 31 by omega), fr.c1 88 rfl, (h88 f0 (by omega)).1]
    first
      | exact ⟨vp_in_nI (by omega) (by omega), en⟩
      | exact ⟨fun z => absurd rfl z, fun _ => ⟨vp_in_nI (by omega) (by omega), en⟩⟩
      | exact ⟨fun _ => ⟨vp_in_nI (by omega) (by omega), en⟩, fun z => absurd rfl z⟩
  | cons q l ih =>
    intro n f τ1 hp hf f6 hn2 fr h1 hQ
    have ft : f ≠ t := fun ft => by
      have := onB_no mz ft hp.1
      exact absurd this (by simp)
    have cf := (ccS_far hn.1 lh hf).1.mpr f6
    rw [List.length_cons] at hn2
    obtain ⟨q', e', hq, cq, _, h', eg⟩ := onB_so mz kt hf cf ft hp.1
    obtain rfl := Option.some.inj e'
    have ne : (nI f = nI t) = False := eq_false (fun z => ft ((nI_eq (by omega) (by omega)).mp z))
    rw [Rs_eq]
    simp only [E_M_easy, fIsA, fRt, fLen, fLit, fBool, ne]
    refine s_MeasyNext (g.fr fr rfl) (pu.fr fr rfl) hP (fun x hx => by rw [fr.c1 88 rfl, fr.c1 89 rfl]; exact h88 x hx) lh hf eg.2.2.1 f6 (fun o ho => ?_)
    obtain rfl := onB_uq ho hp.1
    rw [show oJ (some q) = nI q from rfl]
    simp only [oT, E_M_easy, fIsA, fRt, fLen, fLit, fBool]
    refine s_Menters (n := n) h1 (by omega) ?_
    simp only [oT, oN, E_M_easy, fIsA, fRt, fLen, fLit, fBool]
    refine ih (n + 1) q _ hp.2 hq ((ccS_far hn.1 lh hq).1.mp cq) (by omega) ((fr.lc rfl).i rfl) rfl (fun τ' f2 e1 e2 e3 => hQ τ' f2 (by rw [e1, List.length_cons]; congr 1; omega) (fun j hj => ?_) (fun j hj => ?_))
    · rw [e2 j (by omega)]
      simp only [sI_2, sL_2, reduceIte]
      rw [if_neg (by omega)]
    · cases j with
      | zero =>
        rw [e2 _ (by omega)]
        simp only [sI_2, sL_2, reduceIte, Nat.add_zero, List.getD_cons_zero]
      | succ j =>
        rw [List.length_cons] at hj
        rw [show n + (j + 1) = n + 1 + j by omega, e3 j (by omega), List.getD_cons_succ]
