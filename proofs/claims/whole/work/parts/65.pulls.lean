/-! PULLS -/
def vR (m : Nat) (S a : Nat → Int32) : Int32 := if m = 0 then bas a else (runM S a m 0 []).headD 0
/-- a ship's pull from f to q, by the reference's rule (m, S), its weight w and a moment's row -/
def pvR (ht : Nat → Nat) (m : Nat) (S : Nat → Int32) (w : Int32) (r : Nat → Int32) (i f q : Nat) : Int32 := if i % 4 = 3 then clp (vR m S (aq w (if 0 < nI (ht q) - nI (ht f) then nI (ht q) - nI (ht f) else 0) (if 0 < nI (ht f) - nI (ht q) then nI (ht f) - nI (ht q) else 0) (r q) (r 47))) + clp (vR m S (aq w (if 0 < nI (ht q) - nI (ht f) then nI (ht q) - nI (ht f) else 0) (if 0 < nI (ht f) - nI (ht q) then nI (ht f) - nI (ht q) else 0) (r q) (r 47))) / 2 else clp (vR m S (aq w (if 0 < nI (ht q) - nI (ht f) then nI (ht q) - nI (ht f) else 0) (if 0 < nI (ht f) - nI (ht q) then nI (ht f) - nI (ht q) else 0) (r q) (r 47)))
theorem s_HpullOf {d R C ns o e m s h f i B : Nat} {kd ht : Nat → Nat} {W S r : Nat → Int32} {Q : Qt} {τ : St} (E : EnvI R C kd ht ns o e m W S τ) (mo : MoI τ 9 ns (R * C) B kd r) (hs : s < ns) (hh : h < 4) (hf : f < R * C) (hp : r (36 + s) = nI f) (hi : r 46 = nI i) (hi2 : i < 2 ^ 30)
    (hno : gl kd R C ns r f h = none → Q (some (.int (-2))) τ) (hyes : ∀ q, gl kd R C ns r f h = some q → ∀ τ', Fr [55] [(53, 3)] τ τ' → Q (some (.int (pvR ht m S (W s) r i f q))) τ') : Cl (d + 4) m_H_pullOf [.ref 0, .int (nI s), .int (nI h)] τ Q := by
  obtain ⟨⟨g, sh, ru⟩, ⟨o1, e1, f1, f2, f3, f4⟩, wW, sS, lm, m80⟩ := E
  obtain ⟨n', m', j1, j2, j3, j4, j5, j6⟩ := ru
  have hn := g.n36
  have h8 := sh.1
  obtain ⟨m1, ⟨_, _, m5, m6, _, _⟩, m3, _⟩ := mo
  have epl : τ.1 10 s = nI f := ((m1 s hs).1).trans hp
  have ehr : τ.1 9 6 = r 47 := m6
  have enn : τ.1 9 5 = nI i := m5.trans hi
  have hw : τ.1 52 s = W s := by rw [(sh.2.2.2 s hs).1, wW]
  rw [N_H_pullOf]
  simp only [E_H_pullOf, fIsA, fRt, fLen, fLit, fBool]
  refine s_HhasShip sh (fun k hk ek => ?_) (fun z => absurd ⟨nI_pos' (by omega), nI_lt hs (by omega)⟩ z)
  simp only [oT, E_H_pullOf, fIsA, fRt, fLen, fLit, fBool]
  refine ⟨fun z => absurd z (nI_pos (by omega)), fun _ => ⟨fun _ => ?_, fun z => absurd (nI_lt (b := 4) hh (by omega)) z⟩⟩
  refine s_placeOf (by omega) ?_
  rw [epl]
  simp only [oT, E_H_pullOf, fIsA, fRt, fLen, fLit, fBool]
  refine s_Gbeside g hf hh ?_
  simp only [oT, E_H_pullOf, fIsA, fRt, fLen, fLit, fBool]
  unfold gl at hno hyes
  cases hnk : nk kd R C f h with
  | none =>
    rw [hnk] at hno
    exact ⟨fun _ => hno rfl, fun z => absurd (show (-1 : Int32) = -1 from rfl) z⟩
  | some q =>
    rw [hnk] at hno hyes
    have hq : q < R * C := by
      unfold nk at hnk
      cases hnb : nb R C f h with
      | none => rw [hnb] at hnk; cases hnk
      | some q' =>
        rw [hnb] at hnk
        have : (if kd q' = 3 then none else some q') = some q := hnk
        split at this
        · cases this
        · cases this; exact nb_lt hf hh hnb
    have hp2 : r q = (if bitL (τ.2 9 3) q then 1 else 0) := m3 q (by omega)
    rw [show oI (some q) = nI q from rfl]
    refine ⟨fun z => absurd (show (0 : Int32) ≤ -1 by rw [← z]; exact nI_pos' (by omega)) (by decide), fun z => ?_⟩
    refine s_Gkind g hq ?_
    simp only [oT, E_H_pullOf, fIsA, fRt, fLen, fLit, fBool]
    have key : ∀ a v, (n' = 0 → v = bas a) → (0 < n' → runC (τ.1 54) a n' 0 [] = [v]) → v = vR m S a := fun a v b1 b2 => by
      have em : m' = m := (nI_eq (by omega) (by omega)).mp (j4.symm.trans lm)
      subst em
      unfold vR
      by_cases c : m' = 0
      · rw [if_pos c]; exact b1 (j5.mpr c)
      · rw [if_neg c, ← sS, ← (j6 (by have := fun w => c (j5.mp w); omega)).2.2.2 a, b2 (by have := fun w => c (j5.mp w); omega)]; rfl
    refine ⟨fun k0 => ?_, fun k0 => ?_⟩
    · have k0 : kd q ≠ 0 := fun w => k0 (by rw [w]; rfl)
      have hy := hyes q (by show (if kd q = 0 ∧ _ then none else some q) = some q; rw [if_neg (fun w => k0 w.1)])
      refine s_Gheight g hq ?_
      simp only [oT, E_H_pullOf, fIsA, fRt, fLen, fLit, fBool]
      refine s_Gheight g hf ?_
      simp only [oT, E_H_pullOf, fIsA, fRt, fLen, fLit, fBool]
      refine ⟨vp_in_nI (by omega) (by omega), s_Hplank (f := q) (by omega) ?_⟩
      simp only [oT, E_H_pullOf, fIsA, fRt, fLen, fLit, fBool, nI_clamp (show s < 2 ^ 31 by omega), hw, ehr, enn]
      refine s_dragOf (ρ := 53) (S := τ.1 54) (a := aq (W s) (if 0 < nI (ht q) - nI (ht f) then nI (ht q) - nI (ht f) else 0) (if 0 < nI (ht f) - nI (ht q) then nI (ht f) - nI (ht q) else 0) (if bitL (τ.2 9 3) q then 1 else 0) (r 47)) (rise := nI (ht q) - nI (ht f)) (Or.inl rfl) rfl (by rw [Int32.neg_sub]; rfl) j1 j3 (fun _ _ => rfl) (fun w => (j6 w).2.1) (fun v τ' b1 b2 f1 => ?_)
      simp only [oT, E_H_pullOf, fIsA, fRt, fLen, fLit, fBool]
      have nn : τ'.1 9 5 = nI i := by rw [f1.c1 9 rfl, enn]
      simp only [nn]
      refine s_kindOf (by omega) ?_
      simp only [oT, E_H_pullOf, fIsA, fRt, fLen, fLit, fBool]
      refine s_pullBy (by omega) ?_
      simp only [oT, E_H_pullOf, fIsA, fRt, fLen, fLit, fBool]
      have hy2 := hy τ' (f1.wk rfl)
      unfold pvR at hy2
      rw [hp2, ← key _ v b1 b2] at hy2
      exact hy2
    · have k3 := (g.2.2.1 q hq).1.1
      have k0 : kd q = 0 := (nI_eq (b := 0) (by omega) (by omega)).mp k0
      refine s_HshipsAt sh ?_
      have eo : fb (onF τ (nI q)) ns 0 0 = occ r ns (nI q) := fb_cg ns 0 0 (fun k _ hk => by unfold onF; rw [show τ.1 10 k = r (36 + k) from (m1 k (by omega)).1])
      rw [eo]
      simp only [oT, E_H_pullOf, fIsA, fRt, fLen, fLit, fBool]
      refine ⟨fun w => ?_, fun w => ?_⟩
      · have hy := hyes q (by show (if kd q = 0 ∧ _ then none else some q) = some q; rw [if_neg (fun z => z.2 w)])
        refine s_Gheight g hq ?_
        simp only [oT, E_H_pullOf, fIsA, fRt, fLen, fLit, fBool]
        refine s_Gheight g hf ?_
        simp only [oT, E_H_pullOf, fIsA, fRt, fLen, fLit, fBool]
        refine ⟨vp_in_nI (by omega) (by omega), s_Hplank (f := q) (by omega) ?_⟩
        simp only [oT, E_H_pullOf, fIsA, fRt, fLen, fLit, fBool, nI_clamp (show s < 2 ^ 31 by omega), hw, ehr, enn]
        refine s_dragOf (ρ := 53) (S := τ.1 54) (a := aq (W s) (if 0 < nI (ht q) - nI (ht f) then nI (ht q) - nI (ht f) else 0) (if 0 < nI (ht f) - nI (ht q) then nI (ht f) - nI (ht q) else 0) (if bitL (τ.2 9 3) q then 1 else 0) (r 47)) (rise := nI (ht q) - nI (ht f)) (Or.inl rfl) rfl (by rw [Int32.neg_sub]; rfl) j1 j3 (fun _ _ => rfl) (fun w => (j6 w).2.1) (fun v τ' b1 b2 f1 => ?_)
        simp only [oT, E_H_pullOf, fIsA, fRt, fLen, fLit, fBool]
        have nn : τ'.1 9 5 = nI i := by rw [f1.c1 9 rfl, enn]
        simp only [nn]
        refine s_kindOf (by omega) ?_
        simp only [oT, E_H_pullOf, fIsA, fRt, fLen, fLit, fBool]
        refine s_pullBy (by omega) ?_
        simp only [oT, E_H_pullOf, fIsA, fRt, fLen, fLit, fBool]
        have hy2 := hy τ' (f1.wk rfl)
        unfold pvR at hy2
        rw [hp2, ← key _ v b1 b2] at hy2
        exact hy2
      · exact hno (by show (if kd q = 0 ∧ _ then none else some q) = none; rw [if_pos ⟨k0, w⟩])
