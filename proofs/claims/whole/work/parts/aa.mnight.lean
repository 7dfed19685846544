/-! PAIRS: night -/
theorem s_nightWalk {D R C t n i : Nat} {kd ht hd mm : Nat → Nat} {P : Nat → Nat → Nat} {w x0 y0 b0 L0 : Int32} {Q : Qt} {τ : St} (g : GI τ R C kd ht) (pu : PuN kd R C P τ) (hP : ∀ f q, P f q ≤ 1498) (hi : i < 2 ^ 29) (hn4 : n < 4) (h46 : τ.1 75 46 = nI i) (ht2 : t < R * C) (kt : kd t ≠ 3) (h88 : ∀ f, f < 36 → τ.1 88 f = nI (hd f) ∧ τ.1 89 f = nI (mm f)) (lh : lhP kd R C P true t hd mm) (tg : ∀ f h q, eG kd R C f h q → ¬ rxP P true hd mm f q) : ∀ (l : List Nat) (f a : Nat) (l9 l10 : Option Value), pth kd R C P 1498 64 (ccS hd mm) f l → f < R * C → hd f < 1000000 → a + 300 * l.length ≤ 20000 → (∀ l9 l10, Rs M_M_night (D + 3) Q 91 [some (.ref 69), some (.int w), some (.int x0), some (.int (nI t)), some (.int b0), some (.int L0), some (.int (nI n)), some (.int (nI (nzA P ((i + n) % 4) a f l))), some (.int (nI t)), l9, l10] [] τ) → Rs M_M_night (D + 3) Q 91 [some (.ref 69), some (.int w), some (.int x0), some (.int (nI t)), some (.int b0), some (.int L0), some (.int (nI n)), some (.int (nI a)), some (.int (nI f)), l9, l10] [] τ := by
  have hn := g.n36
  have mz := lh_mz hn.1 ht2 kt hP lh tg
  intro l
  induction l with
  | nil =>
    intro f a l9 l10 hp hf f6 ha hQ
    have ft : f = t := Classical.byContradiction (fun ft => by
      obtain ⟨q, e, _⟩ := onB_so mz kt hf ((ccS_far hn.1 lh hf).1.mpr f6) ft hp
      exact absurd e (by simp))
    subst ft
    exact hQ l9 l10
  | cons q l ih =>
    intro f a l9 l10 hp hf f6 ha hQ
    have ft : f ≠ t := fun ft => by
      have := onB_no mz ft hp.1
      exact absurd this (by simp)
    have cf := (ccS_far hn.1 lh hf).1.mpr f6
    rw [List.length_cons] at ha
    obtain ⟨q', e', hq, cq, _, h0, eg⟩ := onB_so mz kt hf cf ft hp.1
    obtain rfl := Option.some.inj e'
    have ne : (nI f = nI t) = False := eq_false (fun z => ft ((nI_eq (by omega) (by omega)).mp z))
    have nz := noN_le (k := (i + n) % 4) (hP f q)
    have hb0 := (nk_nb eg.2.2.2).1
    have h04 := eg.2.1
    rw [Rs_eq]
    simp only [E_M_night, fIsA, fRt, fLen, fLit, fBool, ne]
    refine s_MeasyNext g pu hP h88 lh hf eg.2.2.1 f6 (fun o ho => ?_)
    obtain rfl := onB_uq ho hp.1
    rw [show oJ (some q) = nI q from rfl]
    simp only [oT, oN, E_M_night, fIsA, fRt, fLen, fLit, fBool]
    have inner : ∀ (u h : Nat), h + u = 4 → Rs M_M_night (D + 3) Q 108 [some (.ref 69), some (.int w), some (.int x0), some (.int (nI t)), some (.int b0), some (.int L0), some (.int (nI n)), some (.int (nI (if h0 < h then a + noN (P f q) ((i + n) % 4) else a))), some (.int (nI f)), some (.int (nI q)), some (.int (nI h))] [] τ := by
      intro u
      induction u with
      | zero =>
        intro h hh
        obtain rfl : h = 4 := by omega
        rw [if_pos h04, Rs_eq]
        simp only [E_M_night, fIsA, fRt, fLen, fLit, fBool]
        exact ⟨fun _ => ih q _ _ _ hp.2 hq ((ccS_far hn.1 lh hq).1.mp cq) (by omega) hQ, fun z => absurd (Int32.le_refl _) z⟩
      | succ u ih2 =>
        intro h hh
        have e4 : (4 : Int32) * nI f + nI h = nI (4 * f + h) := by rw [show (4 : Int32) = nI 4 from rfl, pk_mul, nI_add]
        have nx := ih2 (h + 1) (by omega)
        rw [Rs_eq]
        simp only [E_M_night, fIsA, fRt, fLen, fLit, fBool]
        refine ⟨fun z => absurd z (nI_ge (b := 4) (by omega) (by omega)), fun _ => ?_⟩
        refine s_Mbeside g hf (by omega) ?_
        by_cases c : h = h0
        · subst c
          rw [if_pos (by omega)] at nx
          rw [if_neg (by omega), hb0, show oI (some q) = nI q from rfl]
          have pk := pu (4 * f + h) (by omega)
          rw [show (4 * f + h) / 4 = f by omega, show (4 * f + h) % 4 = h by omega] at pk
          have p1 : τ.1 90 (4 * f + h) = nI (P f q) := by
            rcases pk with ⟨p1, p2⟩ | ⟨p, p1, p2⟩
            · exact absurd eg (p2 q)
            · have := p2.2.2.2
              rw [eg.2.2.2] at this
              rw [Option.some.inj this]
              exact p1
          simp only [oT, oN, E_M_night, fIsA, fRt, fLen, fLit, fBool, fIx, e4, nI_clamp (show 4 * f + h < 2 ^ 31 by omega), p1, h46, nI_add]
          refine ⟨vp_in_nI (by omega) (by omega), ?_⟩
          refine s_Mnoi (by omega) ?_
          simp only [oT, oN, E_M_night, fIsA, fRt, fLen, fLit, fBool, noN_eq (hP f q), nI_add, nI_1]
          exact nx
        · have nq : (oI (nb R C f h) = nI q) = False := eq_false (fun z => by
            cases hb : nb R C f h with
            | none =>
              rw [hb] at z
              have z : (-1 : Int32) = nI q := z
              exact absurd (z ▸ nI_pos (show q < 2 ^ 31 by omega)) (by decide)
            | some p =>
              rw [hb] at z
              have hp2 := nb_lt hf (by omega) hb
              have z : p = q := (nI_eq (by omega) (by omega)).mp z
              subst z
              exact c (nk_inj (kd := kd) hf (by omega) h04 hb hb0))
          have e : (if h0 < h + 1 then a + noN (P f q) ((i + n) % 4) else a) = (if h0 < h then a + noN (P f q) ((i + n) % 4) else a) := by
            by_cases c2 : h0 < h
            · rw [if_pos c2, if_pos (by omega)]
            · rw [if_neg c2, if_neg (by omega)]
          rw [e] at nx
          simp only [oT, oN, E_M_night, fIsA, fRt, fLen, fLit, fBool, nq, nI_z, nI_1]
          exact nx
    have st := inner 4 0 (by omega)
    rw [if_neg (Nat.not_lt_zero _)] at st
    exact st
theorem s_Mnight {d R C ns o e m i B : Nat} {kd ht : Nat → Nat} {W S r : Nat → Int32} {P : Nat → Nat → Nat → Nat} {cN : Nat → Nat → Nat → Nat} {lN : Nat → Nat → Nat → List Nat} {Q : Qt} {τ : St} {w a b : Int32} (E : EnvI R C kd ht ns o e m W S τ) (row : RowG ns (R * C) B kd r) (hr : ∀ j, j < 50 → τ.1 75 j = r j) (hi : r 46 = nI i) (hi2 : i < 2 ^ 29) (hP : ∀ n f q, plF ht m S w r (nI 0) (i + n) f q = nI (P n f q) ∧ P n f q ≤ 1498)
    (hN : ∀ n y, y < R * C → kd y ≠ 3 → mzP kd R C (P n) y 1498 64 (cN n y)) (hL : ∀ n x y, y < R * C → kd y ≠ 3 → x < R * C → cN n y x < 2 ^ 30 → (lN n y x).length ≤ 35 ∧ pth kd R C (P n) 1498 64 (cN n y) x (lN n y x))
    (bad : ¬ ((1 ≤ w ∧ w ≤ nI 99) ∧ (0 ≤ a ∧ a < nI (R * C)) ∧ 0 ≤ b ∧ b < nI (R * C)) → ∀ τ', Fr [] [(69, 0)] τ τ' → Q (some (.int (-1))) τ')
    (rock : ∀ x y, x < R * C → y < R * C → a = nI x → b = nI y → (1 ≤ w ∧ w ≤ nI 99) → kd x = 3 ∨ kd y = 3 → ∀ τ', Fr [82, 83, 88, 89, 90] [(69, 0)] τ τ' → Q (some (.int (-2))) τ')
    (far : ∀ x y, x < R * C → y < R * C → a = nI x → b = nI y → (1 ≤ w ∧ w ≤ nI 99) → kd x ≠ 3 → kd y ≠ 3 → (∃ n, n < 4 ∧ ¬ cN n y x < 2 ^ 30) → ∀ τ', Fr [82, 83, 88, 89, 90] [(69, 0)] τ τ' → Q (some (.int (-2))) τ')
    (good : ∀ x y v L, x < R * C → y < R * C → a = nI x → b = nI y → (1 ≤ w ∧ w ≤ nI 99) → kd x ≠ 3 → kd y ≠ 3 → (∀ n, n < 4 → cN n y x < 2 ^ 30) → bst (fun n => nzA (P n) ((i + n) % 4) 0 x (lN n y x)) 4 = some (v, L) → ∀ τ', Fr [70, 82, 83, 88, 89, 90] [(69, 0), (69, 1)] τ τ' → τ'.1 69 1 = 1 → τ'.2 70 0 = (nI L).toInt64 → Q (some (.int (nI v))) τ') : Cl (d + 9) m_M_night [.ref 69, .int w, .int a, .int b] τ Q := by
  have hn := E.1.1.n36
  rw [N_M_night]
  simp only [E_M_night, fIsA, fRt, fLen, fLit, fBool]
  have f0 := fr690 (τ := τ) (v := 0)
  generalize sI τ 69 0 0 = τ0 at f0 ⊢
  have E0 := E.fr f0 rfl (f0.u1 9 1 rfl)
  refine s_MisWeighed E0.1.1 (fun z => ?_) (fun x y hx hy ex ey hw => ?_)
  · have q := bad z τ0 f0
    simp only [oT, oN, E_M_night, fIsA, fRt, fLen, fLit, fBool]
    exact q
  · subst ex ey
    simp only [oT, oN, E_M_night, fIsA, fRt, fLen, fLit, fBool]
    have loop : ∀ (u n : Nat) (τ1 : St) (l7 l8 l9 l10 : Option Value), n + u = 4 → Fr [82, 83, 88, 89, 90] [(69, 0)] τ τ1 → (∀ k, k < n → kd x ≠ 3 ∧ kd y ≠ 3 ∧ cN k y x < 2 ^ 30) → Rs M_M_night (d + 8) Q 29 [some (.ref 69), some (.int w), some (.int (nI x)), some (.int (nI y)), some (.int (oB1 (bst (fun n => if cN n y x < 2 ^ 30 then nzA (P n) ((i + n) % 4) 0 x (lN n y x) else 0) n) (-2))), some (.int (oB2 (bst (fun n => if cN n y x < 2 ^ 30 then nzA (P n) ((i + n) % 4) 0 x (lN n y x) else 0) n) 1000000)), some (.int (nI n)), l7, l8, l9, l10] [] τ1 := by
      intro u
      induction u with
      | zero =>
        intro n τ1 l7 l8 l9 l10 hn4 fr hc
        obtain rfl : n = 4 := by omega
        have kx := (hc 0 (by omega)).1
        have ky := (hc 0 (by omega)).2.1
        rw [Rs_eq]
        simp only [E_M_night, fIsA, fRt, fLen, fLit, fBool]
        refine ⟨fun _ => ?_, fun z => absurd (Int32.le_refl _) z⟩
        refine s_Menters (n := 0) rfl (by omega) ?_
        simp only [oT, oN, E_M_night, fIsA, fRt, fLen, fLit, fBool]
        have eb : bst (fun n => nzA (P n) ((i + n) % 4) 0 x (lN n y x)) 4 = bst (fun n => if cN n y x < 2 ^ 30 then nzA (P n) ((i + n) % 4) 0 x (lN n y x) else 0) 4 := by
          have : ∀ k, k ≤ 4 → bst (fun n => nzA (P n) ((i + n) % 4) 0 x (lN n y x)) k = bst (fun n => if cN n y x < 2 ^ 30 then nzA (P n) ((i + n) % 4) 0 x (lN n y x) else 0) k := by
            intro k
            induction k with
            | zero => intro _; rfl
            | succ k ih => intro hk; simp only [bst, ih (by omega), if_pos (hc k (by omega)).2.2]
          exact this 4 (Nat.le_refl _)
        have f3 : Fr [70] [(69, 1)] τ1 (sI (sL (sI τ1 69 1 0) 70 0 (oB2 (bst (fun n => if cN n y x < 2 ^ 30 then nzA (P n) ((i + n) % 4) 0 x (lN n y x) else 0) 4) 1000000).toInt64) 69 1 (nI (0 + 1))) := ((Fr.rf.i rfl).lc rfl).i rfl
        have bl := bst_le (z := fun n => if cN n y x < 2 ^ 30 then nzA (P n) ((i + n) % 4) 0 x (lN n y x) else 0) (M := 10500) (fun n => by
          show (if cN n y x < 2 ^ 30 then nzA (P n) ((i + n) % 4) 0 x (lN n y x) else 0) ≤ 10500
          by_cases c : cN n y x < 2 ^ 30
          · rw [if_pos c]
            have := nzA_le (P := P n) (k := (i + n) % 4) (fun f q => (hP n f q).2) (lN n y x) 0 x
            have := (hL n x y hy ky hx c).1
            omega
          · rw [if_neg c]; omega) 4
        cases ez : bst (fun n => if cN n y x < 2 ^ 30 then nzA (P n) ((i + n) % 4) 0 x (lN n y x) else 0) 4 with
        | none => rw [ez] at bl; exact absurd bl (by decide)
        | some p =>
          obtain ⟨v, L⟩ := p
          rw [ez] at f3
          exact good x y v L hx hy rfl rfl hw kx ky (fun n hn => (hc n hn).2.2) (eb.trans ez) _ ((fr.wk rfl).tr (f3.wk rfl)) rfl rfl
      | succ u ih =>
        intro n τ1 l7 l8 l9 l10 hn4 fr hc
        have E1 := E.fr fr rfl (fr.c1 9 rfl 1)
        have hr1 : ∀ j, j < 50 → τ1.1 75 j = r j := fun j hj => (fr.c1 75 rfl j).trans (hr j hj)
        rw [Rs_eq]
        simp only [E_M_night, fIsA, fRt, fLen, fLit, fBool, fIx, hr1 46 (by omega), hi, nI_add]
        refine ⟨fun z => absurd z (nI_ge (b := 4) (by omega) (by omega)), fun _ => ?_⟩
        refine s_laysPulls E1 row hr1 (by omega) (fun τ2 f2 pu0 => ?_)
        simp only [oT, oN, E_M_night, fIsA, fRt, fLen, fLit, fBool]
        have F2 : Fr [82, 83, 88, 89, 90] [(69, 0)] τ τ2 := fr.tr (f2.wk rfl)
        have hP2 : ∀ f q, P n f q ≤ 1498 := fun f q => (hP n f q).2
        have pu := PuN.of (hP n) pu0
        refine s_laysHard (z := true) rfl (E.1.1.fr F2 rfl) pu hP2 hy (fun τ3 hd mm f3 h3 lh tg => ?_)
        simp only [oT, oN, E_M_night, fIsA, fRt, fLen, fLit, fBool]
        have F3 : Fr [82, 83, 88, 89, 90] [(69, 0)] τ τ3 := F2.tr (f3.wk rfl)
        have g3 := E.1.1.fr F3 rfl
        refine s_MisRock g3 hx hy (fun rk => ?_) (fun kx ky => ?_)
        · have q := rock x y hx hy rfl rfl hw rk τ3 F3
          simp only [oT, oN, E_M_night, fIsA, fRt, fLen, fLit, fBool]
          exact q
        · have bx := lh.2.1 x (by omega)
          have mz := lh_mz hn.1 hy ky hP2 lh tg
          have ce : ∀ q, q < R * C → cN n y q = ccS hd mm q := fun q hq => mz_eq (hN n y hy ky) mz hq
          simp only [oT, oN, E_M_night, fIsA, fRt, fLen, fLit, fBool, nI_clamp (show x < 2 ^ 31 by omega), (h3 x (by omega)).1]
          refine ⟨vp_in_nI (by omega) (by omega), fun z => ?_, fun z => ?_⟩
          · have z : hd x < 1000000 := (nI_ltI (b := 1000000) (by omega) (by omega)).mp z
            have cn : cN n y x < 2 ^ 30 := by rw [ce x hx]; exact (ccS_far hn.1 lh hx).1.mpr z
            obtain ⟨l1, l2⟩ := hL n x y hy ky hx cn
            have hzl := nzA_le (P := P n) (k := (i + n) % 4) hP2 (lN n y x) 0 x
            have h46 : τ3.1 75 46 = nI i := (F3.c1 75 rfl 46).trans ((hr 46 (by omega)).trans hi)
            refine s_nightWalk (D := d + 5) (y0 := 0) g3 (pu.fr f3 rfl) hP2 hi2 (by omega) h46 hy ky h3 lh tg (lN n y x) x 0 _ _ (pth_c ce _ x hx l2) hx z (by omega) (fun l9 l10 => ?_)
            have hcn : ∀ k, k < n + 1 → kd x ≠ 3 ∧ kd y ≠ 3 ∧ cN k y x < 2 ^ 30 := fun k hk => by
              by_cases e : k = n
              · subst e; exact ⟨kx, ky, cn⟩
              · exact hc k (by omega)
            have nx := fun l7 l8 l9 l10 => ih (n + 1) τ3 l7 l8 l9 l10 (by omega) F3 hcn
            have ez : (if cN n y x < 2 ^ 30 then nzA (P n) ((i + n) % 4) 0 x (lN n y x) else 0) = nzA (P n) ((i + n) % 4) 0 x (lN n y x) := if_pos cn
            have eb : bst (fun n => if cN n y x < 2 ^ 30 then nzA (P n) ((i + n) % 4) 0 x (lN n y x) else 0) (n + 1) = match bst (fun n => if cN n y x < 2 ^ 30 then nzA (P n) ((i + n) % 4) 0 x (lN n y x) else 0) n with
              | none => some (n, nzA (P n) ((i + n) % 4) 0 x (lN n y x))
              | some (b, L) => if nzA (P n) ((i + n) % 4) 0 x (lN n y x) < L then some (n, nzA (P n) ((i + n) % 4) 0 x (lN n y x)) else some (b, L) := by
              rw [← ez]
              rfl
            rw [eb] at nx
            generalize hZ : nzA (P n) ((i + n) % 4) 0 x (lN n y x) = Z at nx hzl ⊢
            have hZ2 : Z ≤ 10500 := by omega
            have bl := bst_le (z := fun n => if cN n y x < 2 ^ 30 then nzA (P n) ((i + n) % 4) 0 x (lN n y x) else 0) (M := 10500) (fun n => by
              show (if cN n y x < 2 ^ 30 then nzA (P n) ((i + n) % 4) 0 x (lN n y x) else 0) ≤ 10500
              by_cases c : cN n y x < 2 ^ 30
              · rw [if_pos c]
                have := nzA_le (P := P n) (k := (i + n) % 4) (fun f q => (hP n f q).2) (lN n y x) 0 x
                have := (hL n x y hy ky hx c).1
                omega
              · rw [if_neg c]; omega) n
            generalize bst (fun n => if cN n y x < 2 ^ 30 then nzA (P n) ((i + n) % 4) 0 x (lN n y x) else 0) n = ob at nx bl ⊢
            cases ob with
            | none =>
              have lt : nI Z < 1000000 := nI_lt (b := 1000000) (by omega) (by omega)
              have nx : ∀ l7 l8 l9 l10, Rs M_M_night (d + 8) Q 29 [some (.ref 69), some (.int w), some (.int (nI x)), some (.int (nI y)), some (.int (nI n)), some (.int (nI Z)), some (.int (nI (n + 1))), l7, l8, l9, l10] [] τ3 := nx
              have mn : (if nI Z < 1000000 then nI Z else 1000000) = nI Z := if_pos lt
              simp only [oB1, oB2]
              rw [Rs_eq]
              simp only [E_M_night, fIsA, fRt, fLen, fLit, fBool, nI_1, mn]
              first
                | exact ⟨fun z => absurd lt (Int32.not_lt.mpr z), fun _ => nx _ _ _ _⟩
                | exact nx _ _ _ _
            | some p =>
              obtain ⟨v, L⟩ := p
              have bl : v < n ∧ L ≤ 10500 := bl
              by_cases c : Z < L
              · have lt : nI Z < nI L := nI_lt c (by omega)
                have nx : ∀ l7 l8 l9 l10, Rs M_M_night (d + 8) Q 29 [some (.ref 69), some (.int w), some (.int (nI x)), some (.int (nI y)), some (.int (oB1 (if Z < L then some (n, Z) else some (v, L)) (-2))), some (.int (oB2 (if Z < L then some (n, Z) else some (v, L)) 1000000)), some (.int (nI (n + 1))), l7, l8, l9, l10] [] τ3 := nx
                rw [if_pos c] at nx
                have mn : (if nI Z < nI L then nI Z else nI L) = nI Z := if_pos lt
                simp only [oB1, oB2]
                rw [Rs_eq]
                simp only [E_M_night, fIsA, fRt, fLen, fLit, fBool, nI_1, mn]
                first
                  | exact ⟨fun z => absurd lt (Int32.not_lt.mpr z), fun _ => nx _ _ _ _⟩
                  | exact nx _ _ _ _
              · have lt : ¬ nI Z < nI L := fun w => c ((nI_ltI (by omega) (by omega)).mp w)
                have nx : ∀ l7 l8 l9 l10, Rs M_M_night (d + 8) Q 29 [some (.ref 69), some (.int w), some (.int (nI x)), some (.int (nI y)), some (.int (oB1 (if Z < L then some (n, Z) else some (v, L)) (-2))), some (.int (oB2 (if Z < L then some (n, Z) else some (v, L)) 1000000)), some (.int (nI (n + 1))), l7, l8, l9, l10] [] τ3 := nx
                rw [if_neg c] at nx
                have mn : (if nI Z < nI L then nI Z else nI L) = nI L := if_neg lt
                simp only [oB1, oB2]
                rw [Rs_eq]
                simp only [E_M_night, fIsA, fRt, fLen, fLit, fBool, nI_1, mn]
                first
                  | exact ⟨fun _ => nx _ _ _ _, fun z => absurd (Int32.not_lt.mp lt) z⟩
                  | exact nx _ _ _ _
          · have z : ¬ hd x < 1000000 := fun w => z (nI_lt (b := 1000000) w (by omega))
            exact far x y hx hy rfl rfl hw kx ky ⟨n, by omega, fun w => z ((ccS_far hn.1 lh hx).1.mp (by rw [← ce x hx]; exact w))⟩ τ3 F3
    exact loop 4 0 τ0 _ _ _ _ (by omega) (f0.wk rfl) (fun k hk => absurd hk (Nat.not_lt_zero _))
