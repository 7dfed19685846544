/-! PAIRS: over -/
theorem s_HhoursOver {d R C ns o i B s x h m ρ n1 : Nat} {kd ht : Nat → Nat} {S S1 r : Nat → Int32} {P : Nat → Nat → Nat → Nat} {w : Int32} {Q : Qt} {τ : St} (g : GI τ R C kd ht) (sh : ShI τ ns) (mo : MoI τ 9 ns (R * C) B kd r) (hs : s < ns) (ew : τ.1 52 s = w) (hi : r 46 = nI i) (hi2 : i < 2 ^ 29) (h47 : r 47 = nI h) (hh : h < 10) (h08 : τ.1 0 8 = nI o) (ho : o ≤ 999) (ex : r (36 + s) = nI x) (hx : x < R * C) (kx : kd x ≠ 3)
    (hρ : ρ = 53 ∨ ρ = 56) (h1 : τ.1 ρ 1 = nI n1) (h2 : ∀ j, j < n1 → τ.1 (ρ + 1) j = S1 j) (rk : RkC n1 S1) (vv : ∀ a, vK n1 S1 a = vR m S a) (hW : WaI τ)
    (hP : ∀ k f q, plF ht m S w r (nI ((h + k) % 10)) (i + (h + k) / 10) f q = nI (P k f q) ∧ P k f q ≤ 1498)
    (hQ : ∀ v τ', hvP kd R C P o x v → Fr [55, 58, 61] [(53, 3), (56, 3), (59, 2), (59, 3), (59, 4), (60, 1), (60, 2), (60, 3)] τ τ' → WaI τ' → Q (some (.int (nI v))) τ') : Cl (d + 8) m_H_hoursOver [.ref 0, .ref ρ, .int (nI s)] τ Q := by
  have hn := g.n36
  have h8 := sh.1
  have mo0 := mo
  obtain ⟨m1, ⟨_, _, m5, m6, _, _⟩, m3, _⟩ := mo
  have e10 := (m1 s hs).1
  have e95 : τ.1 9 5 = nI i := m5.trans hi
  have e96 : τ.1 9 6 = nI h := m6.trans h47
  rw [N_H_hoursOver]
  simp only [E_H_hoursOver, fIsA, fRt, fLen, fLit, fBool]
  refine s_HhasShip sh (fun s' hs' es => ?_) (fun z => absurd ⟨nI_pos' (by omega), nI_lt hs (by omega)⟩ z)
  simp only [oT, oN, E_H_hoursOver, fIsA, fRt, fLen, fLit, fBool]
  refine s_isOverR g sh mo0 hs (fun ov => ?_) (fun nov => ?_)
  · have kx2 : kd x = 2 := by
      have ov : kd (r (36 + s)).toNatClampNeg = 2 := ov
      rw [ex, nI_clamp (by omega)] at ov
      exact ov
    have en := hQ 0 τ (Or.inl ⟨by omega, ⟨x, ⟨hx, kx2⟩, rfl⟩, fun k hk => absurd hk (Nat.not_lt_zero _)⟩) Fr.rf hW
    simp only [oT, oN, E_H_hoursOver, fIsA, fRt, fLen, fLit, fBool]
    exact en
  · have kx2 : kd x ≠ 2 := fun z => nov (by
      show kd (r (36 + s)).toNatClampNeg = 2
      rw [ex, nI_clamp (by omega)]
      exact z)
    simp only [oT, oN, E_H_hoursOver, fIsA, fRt, fLen, fLit, fBool, nI_clamp (show s < 2 ^ 31 by omega), ew]
    refine ⟨vp_in_nI (by omega) (by omega), ?_⟩
    refine s_Wstart (n := n1) (S := S1) hρ (fun τ1 f1 w1 => ?_)
    simp only [oT, oN, E_H_hoursOver, fIsA, fRt, fLen, fLit, fBool]
    refine s_placeOf (by omega) ?_
    have ep1 : τ1.1 10 s = nI x := (f1.c1 10 rfl s).trans (e10.trans ex)
    rw [ep1]
    simp only [oT, oN, E_H_hoursOver, fIsA, fRt, fLen, fLit, fBool]
    have loop : ∀ (u k : Nat) (X : Int64) (τ2 : St) (l6 : Option Value), k + u = 60 → Fr [55, 58, 61] [(53, 3), (56, 3), (59, 2), (59, 3), (59, 4), (60, 1), (60, 2), (60, 3)] τ τ2 → WyI τ2 ρ n1 S1 w (τ.2 9 3) → (∀ q, q < 64 → (bitL X q = true ↔ rcH kd R C P o x k q)) → (∀ k', k' ≤ k → ∀ q, hbP kd R C q → ¬ rcH kd R C P o x k' q) → Rs M_H_hoursOver (d + 7) Q 56 [some (.ref 0), some (.ref ρ), some (.int (nI s)), some (.long X), none, some (.int (nI k)), l6] [] τ2 := by
      intro u
      induction u with
      | zero =>
        intro k X τ2 l6 hk fr wy hX hno
        obtain rfl : k = 60 := by omega
        have W2 : WaI τ2 := by
          rcases hρ with rfl | rfl
          · exact Or.inr (Or.inl wy.1)
          · exact Or.inr (Or.inr wy.1)
        rw [Rs_eq]
        simp only [E_H_hoursOver, fIsA, fRt, fLen, fLit, fBool]
        exact ⟨fun _ => hQ 61 τ2 (Or.inr ⟨rfl, hno⟩) fr W2, fun z => absurd (Int32.le_refl _) z⟩
      | succ u ih =>
        intro k X τ2 l6 hk fr wy hX hno
        have g2 := g.fr fr rfl
        have d10 : nI (h + k) / 10 = nI ((h + k) / 10) := pk_div (d := 10) (by omega) (by omega) (by omega)
        have r10 : nI (h + k) - nI (h + k) / 10 * 10 = nI ((h + k) % 10) := pk_rem (d := 10) (by omega) (by omega) (by omega)
        rw [d10] at r10
        have m10 := Nat.mod_lt (h + k) (show 10 > 0 by omega)
        rw [Rs_eq]
        simp only [E_H_hoursOver, fIsA, fRt, fLen, fLit, fBool, (fr.u1 9 5 rfl).trans e95, (fr.u1 9 6 rfl).trans e96, nI_add, d10, r10]
        refine ⟨fun z => absurd z (nI_ge (b := 60) (by omega) (by omega)), fun _ => ⟨by decide, by decide, ?_⟩⟩
        refine s_kindOf (by omega) ?_
        simp only [oT, oN, E_H_hoursOver, fIsA, fRt, fLen, fLit, fBool]
        have hd1 : τ2.1 ρ 1 = nI n1 := by
          rcases hρ with rfl | rfl
          · exact (fr.u1 53 1 rfl).trans h1
          · exact (fr.u1 56 1 rfl).trans h1
        have hd2 : ∀ j, j < n1 → τ2.1 (ρ + 1) j = S1 j := fun j hj => by
          rcases hρ with rfl | rfl
          · exact (fr.c1 54 rfl j).trans (h2 j hj)
          · exact (fr.c1 57 rfl j).trans (h2 j hj)
        refine s_Wturn (h := (h + k) % 10) (n := n1) (S := S1) hρ rk.1 hd1 hd2 rk.2 m10 wy (fun τ3 f3 wy3 tn3 => ?_)
        have F3 := fr.tr (f3.wk (cs' := [55, 58, 61]) (fs' := [(53, 3), (56, 3), (59, 2), (59, 3), (59, 4), (60, 1), (60, 2), (60, 3)]) rfl)
        have g3 := g.fr F3 rfl
        have eo : τ3.1 0 8 = nI o := (F3.u1 0 8 rfl).trans h08
        have wz : WzI R C ht m S w r (nI ((h + k) % 10)) (i + (h + k) / 10) τ3 := ⟨ρ, n1, S1, _, (h + k) % 10, wy3, tn3, m10, rfl, vv, fun q hq => m3 q (by omega)⟩
        simp only [oT, oN, E_H_hoursOver, fIsA, fRt, fLen, fLit, fBool, eo]
        refine s_WoneDrag (pl := fun f q => plF ht m S w r (nI ((h + k) % 10)) (i + (h + k) / 10) f q) g3 (fun f q Q' hf hq hQ' => wz.pt g3 hf hq hQ') (fun Y hY => ?_)
        have W3 : WaI τ3 := by
          rcases hρ with rfl | rfl
          · exact Or.inr (Or.inl wy3.1)
          · exact Or.inr (Or.inr wy3.1)
        have pl := pl_le (l := o) (fun f q => (hP k f q).1) (fun f q => (hP k f q).2) (by omega)
        have hN : ∀ q, q < 64 → (bitL (X ||| Y) q = true ↔ rcH kd R C P o x (k + 1) q) := fun q hq => by
          rw [bL_or, Bool.or_eq_true, hY q hq, hX q hq]
          constructor
          · rintro (z | ⟨f, h', a, b, c, e, k', l⟩)
            · exact Or.inl z
            · have rf := (hX f (by omega)).mp c
              exact Or.inr ⟨f, h', ⟨a, b, (rcH_good hx kx k f rf).2, e⟩, rf, (pl f q).mp l⟩
          · rintro (z | ⟨f, h', e, rf, l⟩)
            · exact Or.inl z
            · by_cases cX : bitL X q = true
              · exact Or.inl ((hX q hq).mp cX)
              · exact Or.inr ⟨f, h', e.1, e.2.1, (hX f (by have := e.1; omega)).mpr rf, e.2.2.2, Bool.eq_false_iff.mpr cX, (pl f q).mpr l⟩
        simp only [oT, oN, E_H_hoursOver, fIsA, fRt, fLen, fLit, fBool, nI_1]
        have hz : (X ||| Y) &&& τ3.2 5 8 = 0 ↔ ∀ q, hbP kd R C q → ¬ rcH kd R C P o x (k + 1) q := by
          constructor
          · intro z q hq rf
            have : bitL ((X ||| Y) &&& τ3.2 5 8) q = true := by
              rw [bL_and, (hN q (by have := hq.1; omega)).mpr rf, (hbB g3 q).mpr hq]
              rfl
            rw [z, bL_0] at this
            exact absurd this (by decide)
          · intro z
            refine Classical.byContradiction (fun w => ?_)
            obtain ⟨q, a, b⟩ := bit_ne w
            rw [bL_and, Bool.and_eq_true] at b
            exact z q ((hbB g3 q).mp b.2) ((hN q a).mp b.1)
        refine ⟨fun z => ?_, fun z => ?_⟩
        all_goals first
          | exact ih (k + 1) (X ||| Y) τ3 _ (by omega) F3 wy3 hN (fun k' hk' q hq => by
              by_cases e : k' = k + 1
              · subst e; exact hz.mp (lcmp0.mp z) q hq
              · exact hno k' (by omega) q hq)
          | exact hQ (k + 1) τ3 (Or.inl ⟨by omega, Classical.byContradiction (fun w => z (lcmp0.mpr (hz.mpr (fun q hq rf => w ⟨q, hq, rf⟩)))), fun k' hk' => hno k' (by omega)⟩) F3 W3
    refine loop 60 0 _ τ1 none (by omega) (f1.wk rfl) w1 (fun q _ => one_bit hx hn.1 q) (fun k' hk' q hq z => ?_)
    obtain rfl : k' = 0 := by omega
    have z : q = x := z
    subst z
    exact kx2 hq.2
theorem p_over (t : Nat) (v : Int32) : PrI t m_H_over m_M_over [.int v] := by
  intro ht0 τ h
  obtain ⟨R, C, kd, ht, ns, n, hA, hT, hR⟩ := h
  have ⟨ga, sh, c, _, _, _, _, wa, ru⟩ := hA
  have hn36 := ga.n36
  have h8 := sh.1
  obtain ⟨o, ee, m, E⟩ := hA.env
  obtain ⟨nn, hi2, hi⟩ := c.2.2.2.2.1
  have hi2 : nn < 2 ^ 29 := by omega
  obtain ⟨hh, hh10, h47⟩ := c.2.2.2.2.2.1
  have row := c.row
  obtain ⟨n1, k1, k2, k3, k4⟩ := ru.tie E.2.2.2.2.1 E.2.2.2.2.2
  rw [N_H_over]
  simp only [E_H_over, fIsA, fRt, fLen, fLit, fBool]
  refine s_HhasShip sh (fun s hs es => ?_) (fun z => ?_)
  · subst es
    obtain ⟨epl, x, hx, kx, ex⟩ := c.1 s hs
    obtain ⟨ew, _⟩ := sh.2.2.2 s hs
    have hP := fun k => plC_ok ht m (τ.1 80) (τ.1 73 s) (τ.1 75) (nI ((hh + k) % 10)) (nn + (hh + k) / 10)
    simp only [oT, oN, E_H_over, fIsA, fRt, fLen, fLit, fBool]
    refine s_HhoursOver (ρ := 53) (S := τ.1 80) (S1 := τ.1 54) ga sh c hs ew hi hi2 h47 hh10 E.2.1.2.2.1 E.2.1.1 ex hx kx (Or.inl rfl) k1 (fun j _ => rfl) k2 k4 wa hP (fun v τ1 hv f1 W1 => ?_)
    have hv61 := hvP_le hv
    have ref : ∀ y, (y = if v ≤ 60 then nI v else -2) → Cl 900 m_M_over [Value.ref 69, Value.int (nI s)] τ1 fun b τ2 => (∃ z, some (Value.int y) = some (Value.int z) ∧ b = some (Value.int z)) ∧ Inv (t + 1) τ2 := fun y hy => by
      rw [N_M_over]
      simp only [E_M_over, fIsA, fRt, fLen, fLit, fBool]
      have f0 : Fr [55, 58, 61] [(53, 3), (56, 3), (59, 2), (59, 3), (59, 4), (60, 1), (60, 2), (60, 3), (69, 0)] τ (sI τ1 69 0 0) := (f1.wk rfl).i rfl
      have f10 := fr690 (τ := τ1) (v := 0)
      generalize sI τ1 69 0 0 = τ0 at f0 f10 ⊢
      refine s_MisShip (sh.fr f0 rfl) (fun s' hs' es => ?_) (fun z => absurd ⟨nI_pos' (by omega), nI_lt hs (by omega)⟩ z)
      simp only [oT, oN, E_M_over, fIsA, fRt, fLen, fLit, fBool]
      refine s_MhoursOf (m := m) (S := τ.1 80) (ga.fr f0 rfl) ((f0.u1 69 24 rfl).trans E.2.2.2.2.1) (fun j _ => f0.c1 80 rfl j) k3 row (fun j _ => f0.c1 75 rfl j) hi hi2 h47 hh10 ((f0.c1 74 rfl 0).trans E.2.1.2.2.2.1) E.2.1.1 (f0.c1 73 rfl s) (by omega) ex hx hP (fun v' τ2 hv' f2 => ?_)
      have ev := hvP_uq hv' hv
      subst ev
      have F : Fr [55, 58, 61, 82, 83, 90] [(53, 3), (56, 3), (59, 2), (59, 3), (59, 4), (60, 1), (60, 2), (60, 3), (69, 0)] τ τ2 := (f0.wk rfl).tr (f2.wk rfl)
      have G : Fr [82, 83, 90] [(69, 0)] τ1 τ2 := (f10.wk rfl).tr (f2.wk rfl)
      have iv := hA.invW F rfl (W1.fr G rfl) (hT.fr F rfl) (hR.fr F rfl)
      simp only [oT, oN, E_M_over, fIsA, fRt, fLen, fLit, fBool]
      refine ⟨fun z => ?_, fun z => ?_⟩
      · have z : v' ≤ 60 := (nI_leI (b := 60) (by omega) (by omega)).mp z
        rw [if_pos z] at hy
        exact ok hy iv
      · have z : ¬ v' ≤ 60 := fun w => z (nI_le (b := 60) w (by omega))
        rw [if_neg z] at hy
        exact ok hy iv
    by_cases c61 : v = 61
    · subst c61
      have q := ref (-2) (by rw [if_neg (by omega)])
      simp only [oT, oN, E_H_over, fIsA, fRt, fLen, fLit, fBool]
      first
        | exact q
        | exact ⟨fun z => absurd rfl z, fun _ => q⟩
    · have ne : (nI v = 61) = False := eq_false (fun z => c61 ((nI_eq (b := 61) (by omega) (by omega)).mp z))
      have q := ref (nI v) (by rw [if_pos (by omega)])
      simp only [oT, oN, E_H_over, fIsA, fRt, fLen, fLit, fBool, ne]
      exact q
  · have fn := ok (x := -1) rfl (hA.inv3 hT hR (fr690 (v := 0)) rfl)
    simp only [oT, oN, E_H_over, fIsA, fRt, fLen, fLit, fBool]
    rw [N_M_over]
    simp only [E_M_over, fIsA, fRt, fLen, fLit, fBool]
    refine s_MisShip (sh.fr (fr690 (v := 0)) rfl) (fun k hk ek => absurd ⟨by rw [ek]; exact nI_pos' (by omega), by rw [ek]; exact nI_lt hk (by omega)⟩ z) (fun _ => ?_)
    simp only [oT, oN, E_M_over, fIsA, fRt, fLen, fLit, fBool]
    exact fn
