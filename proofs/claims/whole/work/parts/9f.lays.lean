/-! WAYS: pulls, the reference -/
/-- a pull from f to q: by rule (m, S), weight, planks by the row r, hour and night -/
def plF (ht : Nat → Nat) (m : Nat) (S : Nat → Int32) (w : Int32) (r : Nat → Int32) (hh : Int32) (i f q : Nat) : Int32 := if i % 4 = 3 then clp (vR m S (aq w (if 0 < nI (ht q) - nI (ht f) then nI (ht q) - nI (ht f) else 0) (if 0 < nI (ht f) - nI (ht q) then nI (ht f) - nI (ht q) else 0) (r q) hh)) + clp (vR m S (aq w (if 0 < nI (ht q) - nI (ht f) then nI (ht q) - nI (ht f) else 0) (if 0 < nI (ht f) - nI (ht q) then nI (ht f) - nI (ht q) else 0) (r q) hh)) / 2 else clp (vR m S (aq w (if 0 < nI (ht q) - nI (ht f) then nI (ht q) - nI (ht f) else 0) (if 0 < nI (ht f) - nI (ht q) then nI (ht f) - nI (ht q) else 0) (r q) hh))
theorem plF_nI (ht : Nat → Nat) (m : Nat) (S : Nat → Int32) (w : Int32) (r : Nat → Int32) (hh : Int32) (i f q : Nat) : ∃ k, k ≤ 1498 ∧ plF ht m S w r hh i f q = nI k := by
  unfold plF
  generalize vR m S _ = v
  obtain ⟨k, hk, e⟩ := clp_nI v
  rw [e]
  by_cases c : i % 4 = 3
  · rw [if_pos c, show nI k / 2 = nI (k / 2) from pk_div (d := 2) (by omega) (by omega) (by omega), nI_add]
    exact ⟨k + k / 2, by omega, rfl⟩
  · rw [if_neg c]; exact ⟨k, by omega, rfl⟩
/-- the pull that the reference lays for a field and a heading, or -1 -/
def puV (kd ht : Nat → Nat) (R C m : Nat) (S : Nat → Int32) (w : Int32) (r : Nat → Int32) (hh : Int32) (i f h : Nat) : Int32 := if f < R * C ∧ kd f ≠ 3 then (match nk kd R C f h with
  | some q => plF ht m S w r hh i f q
  | none => -1) else -1
theorem s_laysPulls {d R C ns o e m i B : Nat} {kd ht : Nat → Nat} {W S r : Nat → Int32} {Q : Qt} {τ : St} {w hh : Int32} (E : EnvI R C kd ht ns o e m W S τ) (row : RowG ns (R * C) B kd r) (hr : ∀ j, j < 50 → τ.1 75 j = r j) (hi : i < 2 ^ 30)
    (hQ : ∀ τ', Fr [82, 83, 90] [] τ τ' → (∀ f h, f < 36 → h < 4 → τ'.1 90 (4 * f + h) = puV kd ht R C m S w r hh i f h) → Q none τ') : Cl (d + 6) m_M_laysPulls [.ref 69, .ref 75, .int w, .int (nI i), .int hh] τ Q := by
  have hn := E.1.1.n36
  have loop : ∀ (u k : Nat) (τ1 : St) (l1 l2 : Option Value), k + u = 144 → Fr [82, 83, 90] [] τ τ1 → (∀ f h, 4 * f + h < k → h < 4 → τ1.1 90 (4 * f + h) = puV kd ht R C m S w r hh i f h) → Rs M_M_laysPulls (d + 5) Q 3 [some (.ref 69), some (.ref 75), some (.int w), some (.int (nI i)), some (.int hh), some (.int (nI k)), l1, l2] [] τ1 := by
    intro u
    induction u with
    | zero =>
      intro k τ1 l1 l2 hk fr h
      obtain rfl : k = 144 := by omega
      rw [Rs_eq]
      simp only [E_M_laysPulls, fIsA, fRt, fLen, fLit, fBool]
      exact ⟨fun _ => hQ τ1 fr (fun f h' hf hh' => h f h' (by omega) hh'), fun z => absurd (Int32.le_refl _) z⟩
    | succ u ih =>
      intro k τ1 l1 l2 hk fr h
      have E1 := E.fr fr rfl (fr.c1 9 rfl 1)
      have dv : nI k / 4 = nI (k / 4) := pk_div (d := 4) (by omega) (by omega) (by omega)
      have rm : nI k - nI k / 4 * 4 = nI (k % 4) := pk_rem (d := 4) (by omega) (by omega) (by omega)
      rw [dv] at rm
      -- what is laid at k
      have lay : ∀ (v : Int32) (τ2 : St) (l1 l2 : Option Value), v = puV kd ht R C m S w r hh i (k / 4) (k % 4) → Fr [82, 83] [] τ1 τ2 → Rs M_M_laysPulls (d + 5) Q 3 [some (.ref 69), some (.ref 75), some (.int w), some (.int (nI i)), some (.int hh), some (.int (nI (k + 1))), l1, l2] [] (sI τ2 90 k v) := fun v τ2 l1 l2 hv f2 => by
        refine ih (k + 1) _ l1 l2 (by omega) ((fr.tr (f2.wk rfl)).ic rfl) (fun f h' hf hh' => ?_)
        simp only [sI_1, reduceIte]
        by_cases q : 4 * f + h' = k
        · rw [if_pos q, hv, show k / 4 = f by omega, show k % 4 = h' by omega]
        · rw [if_neg q, f2.c1 90 rfl]
          exact h f h' (by omega) hh'
      rw [Rs_eq]
      simp only [E_M_laysPulls, fIsA, fRt, fLen, fLit, fBool, dv, rm, nI_1, nI_clamp (show k < 2 ^ 31 by omega), nI_clamp (show k / 4 < 2 ^ 31 by omega)]
      refine ⟨fun z => absurd z (nI_ge (b := 144) (by omega) (by omega)), fun _ => ⟨by decide, ?_⟩⟩
      refine s_Mfields E1.1.1 ?_
      simp only [oT, E_M_laysPulls, fIsA, fRt, fLen, fLit, fBool, dv, rm, nI_1, nI_clamp (show k < 2 ^ 31 by omega), nI_clamp (show k / 4 < 2 ^ 31 by omega)]
      refine ⟨fun z => ?_, fun z => ?_⟩
      · have z := (nI_leI (by omega) (by omega)).mp z
        refine ⟨vp_in_nI (by omega) (by omega), lay (-1) τ1 _ _ ?_ Fr.rf⟩
        unfold puV
        rw [if_neg (fun w => by omega)]
      · have hf : k / 4 < R * C := Nat.lt_of_not_le (fun w => z (nI_le w (by omega)))
        have k3 := E1.1.1.2.2.1 (k / 4) hf
        have k4 := k3.1.1
        have hm4 := Nat.mod_lt k (show 4 > 0 by omega)
        rw [k3.2.1]
        refine ⟨vp_in_nI (by omega) (by omega), fun z3 => ?_, fun z3 => ?_⟩
        · have z3 := (nI_eq (b := 3) (by omega) (by omega)).mp z3
          refine ⟨vp_in_nI (by omega) (by omega), lay (-1) τ1 _ _ ?_ Fr.rf⟩
          unfold puV
          rw [if_neg (fun w => w.2 z3)]
        · have z3 : kd (k / 4) ≠ 3 := fun w => z3 (by rw [w]; rfl)
          refine ⟨by decide, s_Mbeside E1.1.1 hf hm4 ?_⟩
          simp only [oT, E_M_laysPulls, fIsA, fRt, fLen, fLit, fBool, dv, rm, nI_1, nI_clamp (show k < 2 ^ 31 by omega)]
          have pe : puV kd ht R C m S w r hh i (k / 4) (k % 4) = (match nk kd R C (k / 4) (k % 4) with
            | some q => plF ht m S w r hh i (k / 4) q
            | none => -1) := by
            unfold puV
            rw [if_pos ⟨hf, z3⟩]
          cases hnb : nb R C (k / 4) (k % 4) with
          | none =>
            have nn : nk kd R C (k / 4) (k % 4) = none := by unfold nk; rw [hnb]
            rw [nn] at pe
            refine ⟨fun _ => ⟨vp_in_nI (by omega) (by omega), lay (-1) τ1 _ _ pe.symm Fr.rf⟩, fun w => absurd (show (-1 : Int32) < 0 by decide) w⟩
          | some q =>
            have hq := nb_lt hf hm4 hnb
            have q3 := E1.1.1.2.2.1 q hq
            have q4 := q3.1.1
            rw [show oI (some q) = nI q from rfl, nI_clamp (show q < 2 ^ 31 by omega), q3.2.1]
            refine ⟨fun w => absurd w (nI_pos (by omega)), fun _ => ⟨vp_in_nI (by omega) (by omega), fun c3 => ?_, fun c3 => ?_⟩⟩
            · have c3 : kd q ≠ 3 := fun w => c3 (by rw [w]; rfl)
              have nn : nk kd R C (k / 4) (k % 4) = some q := by
                unfold nk
                rw [hnb]
                show (if kd q = 3 then none else some q) = some q
                rw [if_neg c3]
              rw [nn] at pe
              obtain ⟨⟨g, sh, ru⟩, ⟨o1, e1, f1, f2, f3, f4⟩, wW, sS, lm, m80⟩ := E1
              obtain ⟨n', m', j1, j2, j3, j4, j5, j6⟩ := ru
              have em : m' = m := (nI_eq (by omega) (by omega)).mp (j4.symm.trans lm)
              subst em
              have pos : 0 < m' → 0 < n' := fun w => by
                have := fun z => Nat.ne_of_gt w (j5.mp z)
                omega
              refine s_MpullOf (m := m') (S := S) (p := r q) g hf hq (by omega) (by rw [fr.c1 75 rfl]; exact hr q (by omega)) (row.2.1 q (by omega)) m80 lm (fun j _ => by rw [sS]) (fun w j hj => by rw [← sS]; exact (j6 (pos w)).1 j hj) (fun w => by rw [← sS]; exact (j6 (pos w)).2.2.1) (fun v τ2 b1 b2 f2' => ?_)
              simp only [oT, E_M_laysPulls, fIsA, fRt, fLen, fLit, fBool, dv, rm, nI_1, nI_clamp (show k < 2 ^ 31 by omega)]
              refine ⟨vp_in_nI (by omega) (by omega), lay _ τ2 _ _ ?_ f2'⟩
              have pe : puV kd ht R C m' S w r hh i (k / 4) (k % 4) = plF ht m' S w r hh i (k / 4) q := pe
              rw [pe]
              have hv : v = vR m' S (aq w (if 0 < nI (ht q) - nI (ht (k / 4)) then nI (ht q) - nI (ht (k / 4)) else 0) (if 0 < nI (ht (k / 4)) - nI (ht q) then nI (ht (k / 4)) - nI (ht q) else 0) (r q) hh) := by
                unfold vR
                by_cases c : m' = 0
                · rw [if_pos c]; exact b1 c
                · rw [if_neg c, b2 (by omega)]; rfl
              unfold plF
              rw [← hv]
            · have c3 := (nI_eq (b := 3) (by omega) (by omega)).mp c3
              have nn : nk kd R C (k / 4) (k % 4) = none := by
                unfold nk
                rw [hnb]
                show (if kd q = 3 then none else some q) = none
                rw [if_pos c3]
              rw [nn] at pe
              exact ⟨vp_in_nI (by omega) (by omega), lay (-1) τ1 _ _ pe.symm Fr.rf⟩
  rw [N_M_laysPulls]
  simp only [E_M_laysPulls, fIsA, fRt, fLen, fLit, fBool]
  exact loop 144 0 τ none none (by omega) Fr.rf (fun f h hf => absurd hf (Nat.not_lt_zero _))
theorem s_laysPullsT {d R C ns o e m i B : Nat} {kd ht : Nat → Nat} {W S r : Nat → Int32} {Q : Qt} {τ : St} {w hh : Int32} (E : EnvI R C kd ht ns o e m W S τ) (row : RowG ns (R * C) B kd r) (hr : ∀ j, j < 50 → τ.1 76 j = r j) (hi : i < 2 ^ 30)
    (hQ : ∀ τ', Fr [82, 83, 90] [] τ τ' → (∀ f h, f < 36 → h < 4 → τ'.1 90 (4 * f + h) = puV kd ht R C m S w r hh i f h) → Q none τ') : Cl (d + 6) m_M_laysPulls [.ref 69, .ref 76, .int w, .int (nI i), .int hh] τ Q := by
  have hn := E.1.1.n36
  have loop : ∀ (u k : Nat) (τ1 : St) (l1 l2 : Option Value), k + u = 144 → Fr [82, 83, 90] [] τ τ1 → (∀ f h, 4 * f + h < k → h < 4 → τ1.1 90 (4 * f + h) = puV kd ht R C m S w r hh i f h) → Rs M_M_laysPulls (d + 5) Q 3 [some (.ref 69), some (.ref 76), some (.int w), some (.int (nI i)), some (.int hh), some (.int (nI k)), l1, l2] [] τ1 := by
    intro u
    induction u with
    | zero =>
      intro k τ1 l1 l2 hk fr h
      obtain rfl : k = 144 := by omega
      rw [Rs_eq]
      simp only [E_M_laysPulls, fIsA, fRt, fLen, fLit, fBool]
      exact ⟨fun _ => hQ τ1 fr (fun f h' hf hh' => h f h' (by omega) hh'), fun z => absurd (Int32.le_refl _) z⟩
    | succ u ih =>
      intro k τ1 l1 l2 hk fr h
      have E1 := E.fr fr rfl (fr.c1 9 rfl 1)
      have dv : nI k / 4 = nI (k / 4) := pk_div (d := 4) (by omega) (by omega) (by omega)
      have rm : nI k - nI k / 4 * 4 = nI (k % 4) := pk_rem (d := 4) (by omega) (by omega) (by omega)
      rw [dv] at rm
      -- what is laid at k
      have lay : ∀ (v : Int32) (τ2 : St) (l1 l2 : Option Value), v = puV kd ht R C m S w r hh i (k / 4) (k % 4) → Fr [82, 83] [] τ1 τ2 → Rs M_M_laysPulls (d + 5) Q 3 [some (.ref 69), some (.ref 76), some (.int w), some (.int (nI i)), some (.int hh), some (.int (nI (k + 1))), l1, l2] [] (sI τ2 90 k v) := fun v τ2 l1 l2 hv f2 => by
        refine ih (k + 1) _ l1 l2 (by omega) ((fr.tr (f2.wk rfl)).ic rfl) (fun f h' hf hh' => ?_)
        simp only [sI_1, reduceIte]
        by_cases q : 4 * f + h' = k
        · rw [if_pos q, hv, show k / 4 = f by omega, show k % 4 = h' by omega]
        · rw [if_neg q, f2.c1 90 rfl]
          exact h f h' (by omega) hh'
      rw [Rs_eq]
      simp only [E_M_laysPulls, fIsA, fRt, fLen, fLit, fBool, dv, rm, nI_1, nI_clamp (show k < 2 ^ 31 by omega), nI_clamp (show k / 4 < 2 ^ 31 by omega)]
      refine ⟨fun z => absurd z (nI_ge (b := 144) (by omega) (by omega)), fun _ => ⟨by decide, ?_⟩⟩
      refine s_Mfields E1.1.1 ?_
      simp only [oT, E_M_laysPulls, fIsA, fRt, fLen, fLit, fBool, dv, rm, nI_1, nI_clamp (show k < 2 ^ 31 by omega), nI_clamp (show k / 4 < 2 ^ 31 by omega)]
      refine ⟨fun z => ?_, fun z => ?_⟩
      · have z := (nI_leI (by omega) (by omega)).mp z
        refine ⟨vp_in_nI (by omega) (by omega), lay (-1) τ1 _ _ ?_ Fr.rf⟩
        unfold puV
        rw [if_neg (fun w => by omega)]
      · have hf : k / 4 < R * C := Nat.lt_of_not_le (fun w => z (nI_le w (by omega)))
        have k3 := E1.1.1.2.2.1 (k / 4) hf
        have k4 := k3.1.1
        have hm4 := Nat.mod_lt k (show 4 > 0 by omega)
        rw [k3.2.1]
        refine ⟨vp_in_nI (by omega) (by omega), fun z3 => ?_, fun z3 => ?_⟩
        · have z3 := (nI_eq (b := 3) (by omega) (by omega)).mp z3
          refine ⟨vp_in_nI (by omega) (by omega), lay (-1) τ1 _ _ ?_ Fr.rf⟩
          unfold puV
          rw [if_neg (fun w => w.2 z3)]
        · have z3 : kd (k / 4) ≠ 3 := fun w => z3 (by rw [w]; rfl)
          refine ⟨by decide, s_Mbeside E1.1.1 hf hm4 ?_⟩
          simp only [oT, E_M_laysPulls, fIsA, fRt, fLen, fLit, fBool, dv, rm, nI_1, nI_clamp (show k < 2 ^ 31 by omega)]
          have pe : puV kd ht R C m S w r hh i (k / 4) (k % 4) = (match nk kd R C (k / 4) (k % 4) with
            | some q => plF ht m S w r hh i (k / 4) q
            | none => -1) := by
            unfold puV
            rw [if_pos ⟨hf, z3⟩]
          cases hnb : nb R C (k / 4) (k % 4) with
          | none =>
            have nn : nk kd R C (k / 4) (k % 4) = none := by unfold nk; rw [hnb]
            rw [nn] at pe
            refine ⟨fun _ => ⟨vp_in_nI (by omega) (by omega), lay (-1) τ1 _ _ pe.symm Fr.rf⟩, fun w => absurd (show (-1 : Int32) < 0 by decide) w⟩
          | some q =>
            have hq := nb_lt hf hm4 hnb
            have q3 := E1.1.1.2.2.1 q hq
            have q4 := q3.1.1
            rw [show oI (some q) = nI q from rfl, nI_clamp (show q < 2 ^ 31 by omega), q3.2.1]
            refine ⟨fun w => absurd w (nI_pos (by omega)), fun _ => ⟨vp_in_nI (by omega) (by omega), fun c3 => ?_, fun c3 => ?_⟩⟩
            · have c3 : kd q ≠ 3 := fun w => c3 (by rw [w]; rfl)
              have nn : nk kd R C (k / 4) (k % 4) = some q := by
                unfold nk
                rw [hnb]
                show (if kd q = 3 then none else some q) = some q
                rw [if_neg c3]
              rw [nn] at pe
              obtain ⟨⟨g, sh, ru⟩, ⟨o1, e1, f1, f2, f3, f4⟩, wW, sS, lm, m80⟩ := E1
              obtain ⟨n', m', j1, j2, j3, j4, j5, j6⟩ := ru
              have em : m' = m := (nI_eq (by omega) (by omega)).mp (j4.symm.trans lm)
              subst em
              have pos : 0 < m' → 0 < n' := fun w => by
                have := fun z => Nat.ne_of_gt w (j5.mp z)
                omega
              refine s_MpullOfT (m := m') (S := S) (p := r q) g hf hq (by omega) (by rw [fr.c1 76 rfl]; exact hr q (by omega)) (row.2.1 q (by omega)) m80 lm (fun j _ => by rw [sS]) (fun w j hj => by rw [← sS]; exact (j6 (pos w)).1 j hj) (fun w => by rw [← sS]; exact (j6 (pos w)).2.2.1) (fun v τ2 b1 b2 f2' => ?_)
              simp only [oT, E_M_laysPulls, fIsA, fRt, fLen, fLit, fBool, dv, rm, nI_1, nI_clamp (show k < 2 ^ 31 by omega)]
              refine ⟨vp_in_nI (by omega) (by omega), lay _ τ2 _ _ ?_ f2'⟩
              have pe : puV kd ht R C m' S w r hh i (k / 4) (k % 4) = plF ht m' S w r hh i (k / 4) q := pe
              rw [pe]
              have hv : v = vR m' S (aq w (if 0 < nI (ht q) - nI (ht (k / 4)) then nI (ht q) - nI (ht (k / 4)) else 0) (if 0 < nI (ht (k / 4)) - nI (ht q) then nI (ht (k / 4)) - nI (ht q) else 0) (r q) hh) := by
                unfold vR
                by_cases c : m' = 0
                · rw [if_pos c]; exact b1 c
                · rw [if_neg c, b2 (by omega)]; rfl
              unfold plF
              rw [← hv]
            · have c3 := (nI_eq (b := 3) (by omega) (by omega)).mp c3
              have nn : nk kd R C (k / 4) (k % 4) = none := by
                unfold nk
                rw [hnb]
                show (if kd q = 3 then none else some q) = none
                rw [if_pos c3]
              rw [nn] at pe
              exact ⟨vp_in_nI (by omega) (by omega), lay (-1) τ1 _ _ pe.symm Fr.rf⟩
  rw [N_M_laysPulls]
  simp only [E_M_laysPulls, fIsA, fRt, fLen, fLit, fBool]
  exact loop 144 0 τ none none (by omega) Fr.rf (fun f h hf => absurd hf (Nat.not_lt_zero _))
