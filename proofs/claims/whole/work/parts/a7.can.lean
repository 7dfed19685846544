/-! PAIRS: can -/
noncomputable def plC (ht : Nat → Nat) (m : Nat) (S : Nat → Int32) (w : Int32) (r : Nat → Int32) (hh : Int32) (i : Nat) : Nat → Nat → Nat := Classical.choose (plN ht m S w r hh i)
theorem plC_ok (ht : Nat → Nat) (m : Nat) (S : Nat → Int32) (w : Int32) (r : Nat → Int32) (hh : Int32) (i : Nat) : ∀ f q, plF ht m S w r hh i f q = nI (plC ht m S w r hh i f q) ∧ plC ht m S w r hh i f q ≤ 1498 := Classical.choose_spec (plN ht m S w r hh i)
/-- a ship can be brought to harbour -/
def cnA (kd ht : Nat → Nat) (R C m : Nat) (S W r : Nat → Int32) (i o s : Nat) : Prop := ∃ q j, hbP kd R C q ∧ toK kd R C (plC ht m S (W s) r (r 47) i) (fun p => p = q) o j (r (36 + s)).toNatClampNeg
theorem cnA_at {kd ht : Nat → Nat} {R C m i o s x : Nat} {S W r : Nat → Int32} (e : r (36 + s) = nI x) (hx : x < 2 ^ 31) : cnA kd ht R C m S W r i o s ↔ ∃ q j, hbP kd R C q ∧ toK kd R C (plC ht m S (W s) r (r 47) i) (fun p => p = q) o j x := by
  unfold cnA
  rw [e, nI_clamp hx]
theorem p_can (t : Nat) : PrI t m_H_can m_M_can [] := by
  intro ht0 τ h
  obtain ⟨R, C, kd, ht, ns, n, hA, hT, hR⟩ := h
  have ⟨ga, sh, c, _, _, _, _, wa, _⟩ := hA
  have hn36 := ga.n36
  have h8 := sh.1
  obtain ⟨o, ee, m, E⟩ := hA.env
  obtain ⟨nn, hi2, hi⟩ := c.2.2.2.2.1
  have hi2 : nn < 2 ^ 30 := by omega
  have ho := E.2.1.1
  have row := c.row
  -- the reference
  have ref : ∀ (τ1 : St), Fr [4, 55, 58, 61] [(3, 1), (53, 3), (56, 3), (59, 2), (59, 3), (59, 4), (60, 1), (60, 2), (60, 3)] τ τ1 → WaI τ1 → τ1.1 3 1 = 1 → τ1.2 4 0 = (bI (fb (cnA kd ht R C m (τ.1 80) (τ.1 73) (τ.1 75) nn o) ns 0 0)).toInt64 → Cl 900 m_M_can [Value.ref 69] τ1 fun b τ2 => (∃ z, some (Value.int (fb (cnA kd ht R C m (τ.1 80) (τ.1 73) (τ.1 75) nn o) ns 0 0)) = some (Value.int z) ∧ b = some (Value.int z)) ∧ Inv (t + 1) τ2 := fun τ1 f1 hW r1 r2 => by
    have loop : ∀ (u i : Nat) (a : Int32) (τ2 : St), i + u = ns → Fr [82, 83, 88, 89, 90] [(69, 0), (69, 37)] τ1 τ2 → fb (cnA kd ht R C m (τ.1 80) (τ.1 73) (τ.1 75) nn o) u i a = fb (cnA kd ht R C m (τ.1 80) (τ.1 73) (τ.1 75) nn o) ns 0 0 → Rs M_M_can 899 (fun b τ2 => (∃ z, some (Value.int (fb (cnA kd ht R C m (τ.1 80) (τ.1 73) (τ.1 75) nn o) ns 0 0)) = some (Value.int z) ∧ b = some (Value.int z)) ∧ Inv (t + 1) τ2) 9 [some (.ref 69), some (.int a), some (.int (nI i))] [] τ2 := by
      intro u
      induction u with
      | zero =>
        intro i a τ2 hi' f2 ea
        obtain rfl : i = ns := by omega
        have ea : a = _ := ea
        have es : τ2.1 69 5 = nI i := (f2.u1 69 5 rfl).trans ((f1.u1 69 5 rfl).trans sh.2.1)
        rw [Rs_eq]
        simp only [E_M_can, fIsA, fRt, fLen, fLit, fBool, es]
        refine ⟨fun _ => ?_, fun z => absurd (Int32.le_refl _) z⟩
        refine s_bitsI ?_
        simp only [oT, oN, E_M_can, fIsA, fRt, fLen, fLit, fBool]
        refine s_Menters (n := 0) rfl (by omega) ?_
        simp only [oT, oN, E_M_can, fIsA, fRt, fLen, fLit, fBool]
        have G : Fr [70, 82, 83, 88, 89, 90] [(69, 0), (69, 1), (69, 37)] τ1 (sI (sL (sI τ2 69 1 0) 70 0 (bI a).toInt64) 69 1 (nI (0 + 1))) := (((f2.wk rfl).i rfl).lc rfl).i rfl
        have F : Fr [4, 55, 58, 61, 70, 82, 83, 88, 89, 90] [(3, 1), (53, 3), (56, 3), (59, 2), (59, 3), (59, 4), (60, 1), (60, 2), (60, 3), (69, 0), (69, 1), (69, 37)] τ (sI (sL (sI τ2 69 1 0) 70 0 (bI a).toInt64) 69 1 (nI (0 + 1))) := (f1.wk rfl).tr (G.wk rfl)
        exact ok ea.symm (hA.invW F rfl (hW.fr G rfl) (hT.fr F rfl) (RoI.one ((G.u1 3 1 rfl).trans r1) rfl ((G.c2 4 rfl 0).trans r2) (by rw [← ea]; rfl)))
      | succ u ih =>
        intro i a τ2 hi' f2 ea
        have his : i < ns := by omega
        obtain ⟨epl, x, hx, kx, ex⟩ := c.1 i his
        have G : Fr [4, 55, 58, 61, 82, 83, 88, 89, 90] [(3, 1), (53, 3), (56, 3), (59, 2), (59, 3), (59, 4), (60, 1), (60, 2), (60, 3), (69, 0), (69, 37)] τ τ2 := (f1.wk rfl).tr (f2.wk rfl)
        have E2 := E.fr G rfl (G.c1 9 rfl 1)
        have es : τ2.1 69 5 = nI ns := (G.u1 69 5 rfl).trans sh.2.1
        have hr2 : ∀ j, j < 50 → τ2.1 75 j = τ.1 75 j := fun j _ => G.c1 75 rfl j
        have hP := plC_ok ht m (τ.1 80) (τ.1 73 i) (τ.1 75) (τ.1 75 47) nn
        have ca := cnA_at (kd := kd) (ht := ht) (R := R) (C := C) (m := m) (i := nn) (o := o) (S := τ.1 80) (W := τ.1 73) ex (by omega)
        rw [fb] at ea
        rw [Rs_eq]
        simp only [E_M_can, fIsA, fRt, fLen, fLit, fBool, es]
        refine ⟨fun z => absurd z (nI_ge (by omega) (by omega)), fun _ => ?_⟩
        refine s_MoxenOf E2 row hr2 hi hi2 hP his hx ex (fun no τ3 f3 => ?_) (fun k b hk hb yes min _ τ3 f3 _ => ?_)
        · have eo : τ3.1 74 0 = nI o := (f3.c1 74 rfl 0).trans E2.2.1.2.2.2.1
          have nx := ih (i + 1) a τ3 (by omega) (f2.tr (f3.wk rfl)) (by
            rw [if_neg (fun w => by
              obtain ⟨q, j, q1, q2⟩ := ca.mp w
              exact no q j q1 (toK_lim (by omega) j x q2))] at ea
            exact ea)
          simp only [oT, oN, E_M_can, fIsA, fRt, fLen, fLit, fBool, fIx, eo, nI_1, Int32.or_zero]
          exact ⟨fun _ => nx, fun z => absurd (nI_lt (b := 1000000) (show o < 1000000 by omega) (by omega)) z⟩
        · have eo : τ3.1 74 0 = nI o := (f3.c1 74 rfl 0).trans E2.2.1.2.2.2.1
          have iff : cnA kd ht R C m (τ.1 80) (τ.1 73) (τ.1 75) nn o i ↔ k ≤ o := by
            rw [ca]
            constructor
            · rintro ⟨q, j, q1, q2⟩
              exact Nat.le_of_not_lt (fun w => min q q1 o w j q2)
            · intro w
              obtain ⟨j, tj⟩ := yes
              exact ⟨b, j, hb, toK_lim w j x tj⟩
          simp only [oT, oN, E_M_can, fIsA, fRt, fLen, fLit, fBool, fIx, eo, nI_1, Int32.or_zero]
          refine ⟨fun z => ?_, fun z => ?_⟩
          · have z := (nI_ltI (by omega) (by omega)).mp z
            refine ih (i + 1) a τ3 (by omega) (f2.tr (f3.wk rfl)) ?_
            rw [if_neg (fun w => by have := iff.mp w; omega)] at ea
            exact ea
          · have z : k ≤ o := Nat.le_of_not_lt (fun w => z (nI_lt w (by omega)))
            refine ih (i + 1) _ τ3 (by omega) (f2.tr (f3.wk rfl)) ?_
            rw [if_pos (iff.mpr z)] at ea
            exact ea
    rw [N_M_can]
    simp only [E_M_can, fIsA, fRt, fLen, fLit, fBool]
    exact loop ns 0 0 _ (by omega) ((fr690 (τ := τ1) (v := 0)).wk rfl) rfl
  -- the class
  have loop : ∀ (u i : Nat) (a : Int32) (τ1 : St), i + u = ns → Fr [55, 58, 61] [(53, 3), (56, 3), (59, 2), (59, 3), (59, 4), (60, 1), (60, 2), (60, 3)] τ τ1 → WaI τ1 → fb (cnA kd ht R C m (τ.1 80) (τ.1 73) (τ.1 75) nn o) u i a = fb (cnA kd ht R C m (τ.1 80) (τ.1 73) (τ.1 75) nn o) ns 0 0 → Rs M_H_can 899 (fun a τ1 => Cl 900 m_M_can [Value.ref 69] τ1 fun b τ2 => (∃ x, a = some (Value.int x) ∧ b = some (Value.int x)) ∧ Inv (t + 1) τ2) 4 [some (.ref 0), some (.int a), some (.int (nI i))] [] τ1 := by
    intro u
    induction u with
    | zero =>
      intro i a τ1 hi' f1 hW ea
      obtain rfl : i = ns := by omega
      have ea : a = _ := ea
      have es : τ1.1 9 1 = nI i := (f1.u1 9 1 rfl).trans sh.2.2.1
      rw [Rs_eq]
      simp only [E_H_can, fIsA, fRt, fLen, fLit, fBool, es]
      refine ⟨fun _ => ?_, fun z => absurd (Int32.le_refl _) z⟩
      refine s_bitsI ?_
      simp only [oT, oN, E_H_can, fIsA, fRt, fLen, fLit, fBool]
      refine s_RowOnly ?_
      simp only [oT, oN, E_H_can, fIsA, fRt, fLen, fLit, fBool]
      rw [ea]
      exact ref _ ((((f1.wk rfl).i rfl).lc rfl).i rfl) (hW.fr (cs := [4]) (fs := [(3, 1)]) (((Fr.rf.i rfl).lc rfl).i rfl) rfl) rfl rfl
    | succ u ih =>
      intro i a τ1 hi' f1 hW ea
      have his : i < ns := by omega
      obtain ⟨epl, x, hx, kx, ex⟩ := c.1 i his
      obtain ⟨ew, _⟩ := sh.2.2.2 i his
      have E1 := E.fr f1 rfl (f1.c1 9 rfl 1)
      have es : τ1.1 9 1 = nI ns := (f1.u1 9 1 rfl).trans sh.2.2.1
      have ew1 : τ1.1 52 i = τ.1 73 i := (f1.c1 52 rfl i).trans ew
      have hP := plC_ok ht m (τ.1 80) (τ.1 73 i) (τ.1 75) (τ.1 75 47) nn
      have ca := cnA_at (kd := kd) (ht := ht) (R := R) (C := C) (m := m) (i := nn) (o := o) (S := τ.1 80) (W := τ.1 73) ex (by omega)
      have mo1 : MoI τ1 9 ns (R * C) (300 * t) kd (τ.1 75) := c.same (fun j => f1.c1 9 rfl j) (fun j => f1.c2 9 rfl j) (fun j => f1.c1 10 rfl j) (fun j _ => rfl) (Nat.le_refl _) h8
      rw [fb] at ea
      rw [Rs_eq]
      simp only [E_H_can, fIsA, fRt, fLen, fLit, fBool, es, nI_clamp (show i < 2 ^ 31 by omega), ew1]
      refine ⟨fun z => absurd z (nI_ge (by omega) (by omega)), fun _ => ⟨fun z => absurd z (nI_ge (b := 8) (by omega) (by omega)), fun _ => ⟨vp_in_nI (by omega) (by omega), ?_⟩⟩⟩
      refine s_HstartWays2 E1 mo1 hi hi2 (fun τ2 f2 wz w53 => ?_)
      simp only [oT, oN, E_H_can, fIsA, fRt, fLen, fLit, fBool]
      refine s_placeOf (by omega) ?_
      have F2 := f1.tr f2
      have ep2 : τ2.1 10 i = nI x := (F2.c1 10 rfl i).trans (epl.trans ex)
      have eo : τ2.1 0 8 = nI o := (F2.u1 0 8 rfl).trans E.2.1.2.2.1
      have g2 := E.1.1.fr F2 rfl
      have oA := one_bit hx hn36.1
      rw [ep2]
      simp only [oT, oN, E_H_can, fIsA, fRt, fLen, fLit, fBool, eo]
      refine s_Wreached (lim := nI o) g2 (fun f q Q' hf hq hQ' => wz.pt g2 hf hq hQ') (fun q z => by rw [oA q] at z; subst z; exact hx) (fun X hX => ?_)
      simp only [oT, oN, E_H_can, fIsA, fRt, fLen, fLit, fBool, nI_1]
      have W2 : WaI τ2 := Or.inr (Or.inl w53)
      have hb := hit_bit (T := τ2.2 5 8) (l := o) hX
      rw [hit_hb g2 (fun f q => (hP f q).1) (fun f q => (hP f q).2) (by omega) hx kx, ← ca] at hb
      refine ⟨fun z => ?_, fun z => ?_⟩
      all_goals first
        | exact ih (i + 1) a τ2 (by omega) F2 W2 (by
            rw [if_neg (hb.mp (lcmp0.mp z))] at ea
            exact ea)
        | exact ih (i + 1) _ τ2 (by omega) F2 W2 (by
            rw [if_pos (Classical.byContradiction (fun w => z (lcmp0.mpr (hb.mpr w))))] at ea
            exact ea)
  rw [N_H_can]
  simp only [E_H_can, fIsA, fRt, fLen, fLit, fBool]
  exact loop ns 0 0 τ (by omega) Fr.rf wa rfl
