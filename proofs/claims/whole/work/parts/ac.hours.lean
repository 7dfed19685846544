/-! HOURS: rules in general, pulls by them, kinds under bits -/
theorem runM_cg {S S' a : Nat → Int32} : ∀ (n i : Nat) (st : List Int32), (∀ j, i ≤ j → j < i + n → S j = S' j) → runM S a n i st = runM S' a n i st
  | 0, _, _, _ => rfl
  | n + 1, i, st, h => by
    rw [runM, runM, h i (Nat.le_refl _) (by omega), runM_cg n (i + 1) _ (fun j h1 h2 => h j (by omega) (by omega))]
theorem okR_cg {k k' : Nat → Nat} : ∀ (n i h : Nat), (∀ j, i ≤ j → j < i + n → k j = k' j) → okR k n i h → okR k' n i h
  | 0, _, _, _, z => z
  | n + 1, i, h, e, z => by
    have ei := e i (Nat.le_refl _) (by omega)
    have nx := fun h => okR_cg (k := k) (k' := k') n (i + 1) h (fun j h1 h2 => e j (by omega) (by omega))
    rw [okR] at z ⊢
    rw [← ei]
    by_cases c0 : k i = 0
    · rw [if_pos c0] at z ⊢; exact nx _ z
    · rw [if_neg c0] at z ⊢
      by_cases c1 : k i = 1
      · rw [if_pos c1] at z ⊢; exact ⟨z.1, nx _ z.2⟩
      · rw [if_neg c1] at z ⊢; exact ⟨z.1, nx _ z.2⟩
theorem vR_cg {m : Nat} {S S' : Nat → Int32} (h : ∀ j, j < m → S j = S' j) (a : Nat → Int32) : vR m S a = vR m S' a := by
  unfold vR
  rw [runM_cg m 0 [] (fun j _ h2 => h j (by omega))]
def RkC (n : Nat) (S : Nat → Int32) : Prop := n ≤ 40 ∧ (0 < n → okR (fun i => kdC (S i)) n 0 0)
def RkM (m : Nat) (S : Nat → Int32) : Prop := m ≤ 80 ∧ (0 < m → ∀ i, i < m → S i < 1005 ∨ 2000 ≤ S i) ∧ (0 < m → okR (fun i => kdM (S i)) m 0 0)
theorem RkM.cg {m : Nat} {S S' : Nat → Int32} (h : RkM m S) (e : ∀ j, j < m → S j = S' j) : RkM m S' := ⟨h.1, fun w i hi => by rw [← e i hi]; exact h.2.1 w i hi, fun w => okR_cg m 0 0 (fun j _ h2 => by show kdM (S j) = kdM (S' j); rw [e j (by omega)]) (h.2.2 w)⟩
theorem RuI.tie {τ : St} {m : Nat} (h : RuI τ) (lm : τ.1 69 24 = nI m) (hm : m ≤ 80) : ∃ n, τ.1 53 1 = nI n ∧ RkC n (τ.1 54) ∧ RkM m (τ.1 80) ∧ ∀ a, vK n (τ.1 54) a = vR m (τ.1 80) a := by
  obtain ⟨n', m', j1, j2, j3, j4, j5, j6⟩ := h
  have em : m' = m := (nI_eq (by omega) (by omega)).mp (j4.symm.trans lm)
  subst em
  have pos : 0 < m' → 0 < n' := fun w => by
    have := fun z => Nat.ne_of_gt w (j5.mp z)
    omega
  refine ⟨n', j3, ⟨j1, fun w => (j6 w).2.1⟩, ⟨j2, fun w => (j6 (pos w)).1, fun w => (j6 (pos w)).2.2.1⟩, fun a => ?_⟩
  unfold vK vR
  by_cases c : n' = 0
  · rw [if_pos c, if_pos (j5.mp c)]
  · rw [if_neg c, if_neg (fun z => c (j5.mpr z)), (j6 (by omega)).2.2.2 a]
theorem l_tie {l : List (Nat × Nat)} (ho : ∀ t ∈ l, okT t) (hh : l = [] ∨ htT l 0 = some 1) (n1 : (lC l).length ≤ 40) (n2 : (lM l).length ≤ 80) : RkC (lC l).length (fun j => (lC l).getD j 0) ∧ RkM (lM l).length (fun j => (lM l).getD j 0) ∧ ∀ a, vK (lC l).length (fun j => (lC l).getD j 0) a = vR (lM l).length (fun j => (lM l).getD j 0) a := by
  have ru : RuI ((fun k j => if k = 53 then nI (lC l).length else if k = 69 then nI (lM l).length else if k = 54 then (lC l).getD j 0 else (lM l).getD j 0), fun _ _ => 0) :=
    RuI_of ho hh n1 n2 rfl rfl (fun j _ => rfl) (fun j _ => rfl)
  obtain ⟨n, e, a, b, c⟩ := ru.tie (m := (lM l).length) rfl n2
  have en : n = (lC l).length := by
    have e : nI (lC l).length = nI n := e
    have := a.1
    exact ((nI_eq (by omega) (by omega)).mp e).symm
  subst en
  exact ⟨a, b, c⟩
theorem s_laysPullsR {d R C ns m i B : Nat} {kd ht : Nat → Nat} {S r : Nat → Int32} {Q : Qt} {τ : St} {w hh : Int32} (g : GI τ R C kd ht) (lm : τ.1 69 24 = nI m) (sS : ∀ j, j < m → τ.1 80 j = S j) (rk : RkM m S) (row : RowG ns (R * C) B kd r) (hr : ∀ j, j < 50 → τ.1 75 j = r j) (hi : i < 2 ^ 30)
    (hQ : ∀ τ', Fr [82, 83, 90] [] τ τ' → (∀ f h, f < 36 → h < 4 → τ'.1 90 (4 * f + h) = puV kd ht R C m S w r hh i f h) → Q none τ') : Cl (d + 6) m_M_laysPulls [.ref 69, .ref 75, .int w, .int (nI i), .int hh] τ Q := by
  have hn := g.n36
  have loop : ∀ (u k : Nat) (τ1 : St) (l1 l2 : Option Value), k + u = 144 → Fr [82, 83, 90] [] τ τ1 → (∀ f h, 4 * f + h < k → h < 4 → τ1.1 90 (4 * f + h) = puV kd ht R C m S w r hh i f h) → Rs M_M_laysPulls (d + 5) Q 3 [some (.ref 69), some (.ref 75), some (.int w), some (.int (nI i)), some (.int hh), some (.int (nI k)), l1, l2] [] τ1 := by
    intro u
    induction u with
    | zero =>
      intro k τ1 l1 l2 hk fr h
      obtain rfl : k = 144 := by omega
      rw [Rs_eq]
      simp only [E_M_laysPulls, fIsA, fRt, fLen, fLit, fBool]
      exact ⟨fun _ => hQ τ1 fr (fun f h' hf hh' => h f h' (by omega) hh'), fun z => absurd (Int32.le_refl _) z⟩
    | succ u ih =>
      intro k τ1 l1 l2 hk fr h
      have g1 := g.fr fr rfl
      have dv : nI k / 4 = nI (k / 4) := pk_div (d := 4) (by omega) (by omega) (by omega)
      have rm : nI k - nI k / 4 * 4 = nI (k % 4) := pk_rem (d := 4) (by omega) (by omega) (by omega)
      rw [dv] at rm
      have lay : ∀ (v : Int32) (τ2 : St) (l1 l2 : Option Value), v = puV kd ht R C m S w r hh i (k / 4) (k % 4) → Fr [82, 83] [] τ1 τ2 → Rs M_M_laysPulls (d + 5) Q 3 [some (.ref 69), some (.ref 75), some (.int w), some (.int (nI i)), some (.int hh), some (.int (nI (k + 1))), l1, l2] [] (sI τ2 90 k v) := fun v τ2 l1 l2 hv f2 => by
        refine ih (k + 1) _ l1 l2 (by omega) ((fr.tr (f2.wk rfl)).ic rfl) (fun f h' hf hh' => ?_)
        simp only [sI_1, reduceIte]
        by_cases q : 4 * f + h' = k
        · rw [if_pos q, hv, show k / 4 = f by omega, show k % 4 = h' by omega]
        · rw [if_neg q, f2.c1 90 rfl]
          exact h f h' (by omega) hh'
      rw [Rs_eq]
      simp only [E_M_laysPulls, fIsA, fRt, fLen, fLit, fBool, dv, rm, nI_1, nI_clamp (show k < 2 ^ 31 by omega), nI_clamp (show k / 4 < 2 ^ 31 by omega)]
      refine ⟨fun z => absurd z (nI_ge (b := 144) (by omega) (by omega)), fun _ => ⟨by decide, ?_⟩⟩
      refine s_Mfields g1 ?_
      simp only [oT, E_M_laysPulls, fIsA, fRt, fLen, fLit, fBool, dv, rm, nI_1, nI_clamp (show k < 2 ^ 31 by omega), nI_clamp (show k / 4 < 2 ^ 31 by omega)]
      refine ⟨fun z => ?_, fun z => ?_⟩
      · have z := (nI_leI (by omega) (by omega)).mp z
        refine ⟨vp_in_nI (by omega) (by omega), lay (-1) τ1 _ _ ?_ Fr.rf⟩
        unfold puV
        rw [if_neg (fun w => by omega)]
      · have hf : k / 4 < R * C := Nat.lt_of_not_le (fun w => z (nI_le w (by omega)))
        have k3 := g1.2.2.1 (k / 4) hf
        have k4 := k3.1.1
        have hm4 := Nat.mod_lt k (show 4 > 0 by omega)
        rw [k3.2.1]
        refine ⟨vp_in_nI (by omega) (by omega), fun z3 => ?_, fun z3 => ?_⟩
        · have z3 := (nI_eq (b := 3) (by omega) (by omega)).mp z3
          refine ⟨vp_in_nI (by omega) (by omega), lay (-1) τ1 _ _ ?_ Fr.rf⟩
          unfold puV
          rw [if_neg (fun w => w.2 z3)]
        · have z3 : kd (k / 4) ≠ 3 := fun w => z3 (by rw [w]; rfl)
          refine ⟨by decide, s_Mbeside g1 hf hm4 ?_⟩
          simp only [oT, E_M_laysPulls, fIsA, fRt, fLen, fLit, fBool, dv, rm, nI_1, nI_clamp (show k < 2 ^ 31 by omega)]
          have pe : puV kd ht R C m S w r hh i (k / 4) (k % 4) = (match nk kd R C (k / 4) (k % 4) with
            | some q => plF ht m S w r hh i (k / 4) q
            | none => -1) := by
            unfold puV
            rw [if_pos ⟨hf, z3⟩]
            exact rfl
          cases hnb : nb R C (k / 4) (k % 4) with
          | none =>
            have nn : nk kd R C (k / 4) (k % 4) = none := by unfold nk; rw [hnb]
            rw [nn] at pe
            refine ⟨fun _ => ⟨vp_in_nI (by omega) (by omega), lay (-1) τ1 _ _ pe.symm Fr.rf⟩, fun w => absurd (show (-1 : Int32) < 0 by decide) w⟩
          | some q =>
            have hq := nb_lt hf hm4 hnb
            have q3 := g1.2.2.1 q hq
            have q4 := q3.1.1
            rw [show oI (some q) = nI q from rfl, nI_clamp (show q < 2 ^ 31 by omega), q3.2.1]
            refine ⟨fun w => absurd w (nI_pos (by omega)), fun _ => ⟨vp_in_nI (by omega) (by omega), fun c3 => ?_, fun c3 => ?_⟩⟩
            · have c3 : kd q ≠ 3 := fun w => c3 (by rw [w]; rfl)
              have nn : nk kd R C (k / 4) (k % 4) = some q := by
                unfold nk
                rw [hnb]
                show (if kd q = 3 then none else some q) = some q
                rw [if_neg c3]
              rw [nn] at pe
              refine s_MpullOf (m := m) (S := S) (p := r q) g1 hf hq (by omega) (by rw [fr.c1 75 rfl]; exact hr q (by omega)) (row.2.1 q (by omega)) rk.1 ((fr.u1 69 24 rfl).trans lm) (fun j hj => (fr.c1 80 rfl j).trans (sS j hj)) rk.2.1 rk.2.2 (fun v τ2 b1 b2 f2' => ?_)
              simp only [oT, E_M_laysPulls, fIsA, fRt, fLen, fLit, fBool, dv, rm, nI_1, nI_clamp (show k < 2 ^ 31 by omega)]
              refine ⟨vp_in_nI (by omega) (by omega), lay _ τ2 _ _ ?_ f2'⟩
              have pe : puV kd ht R C m S w r hh i (k / 4) (k % 4) = plF ht m S w r hh i (k / 4) q := pe
              rw [pe]
              have hv : v = vR m S (aq w (if 0 < nI (ht q) - nI (ht (k / 4)) then nI (ht q) - nI (ht (k / 4)) else 0) (if 0 < nI (ht (k / 4)) - nI (ht q) then nI (ht (k / 4)) - nI (ht q) else 0) (r q) hh) := by
                unfold vR
                by_cases c : m = 0
                · rw [if_pos c]; exact b1 c
                · rw [if_neg c, b2 (by omega)]; rfl
              unfold plF
              rw [← hv]
            · have c3 := (nI_eq (b := 3) (by omega) (by omega)).mp c3
              have nn : nk kd R C (k / 4) (k % 4) = none := by
                unfold nk
                rw [hnb]
                show (if kd q = 3 then none else some q) = none
                rw [if_pos c3]
              rw [nn] at pe
              exact ⟨vp_in_nI (by omega) (by omega), lay (-1) τ1 _ _ pe.symm Fr.rf⟩
  rw [N_M_laysPulls]
  simp only [E_M_laysPulls, fIsA, fRt, fLen, fLit, fBool]
  exact loop 144 0 τ none none (by omega) Fr.rf (fun f h hf => absurd hf (Nat.not_lt_zero _))
theorem bL_sshr (n : Nat) (hn : n < 64) (x : Int64) {i : Nat} (hi : i < 64) : bitL (x >>> ((nI n).toInt64 &&& 63)) i = if n + i < 64 then bitL x (n + i) else bitL x 63 := by
  unfold bitL
  rw [Int64.toBitVec_shiftRight]
  show (x.toBitVec.sshiftRight (((nI n).toInt64 &&& 63).toBitVec.smod 64).toNat).getLsbD i = _
  rw [sL_l n hn, BitVec.getLsbD_sshiftRight, BitVec.msb_eq_getLsbD_last]
  simp [hi]
theorem sbitL {x : Int64} {n : Nat} (hn : n < 64) : (x >>> ((nI n).toInt64 &&& 63)) &&& 1 = if bitL x n then 1 else 0 := by
  rw [and1L, bL_sshr n hn _ (by omega), if_pos (show n + 0 < 64 by omega)]; rfl
theorem lcmp1 {b : Bool} : (lg_cmp (if b = true then 1 else 0) 1 = 0) = (b = true) := by
  cases b with
  | true => exact propext ⟨fun _ => rfl, fun _ => by decide⟩
  | false => exact propext ⟨fun z => absurd z (by decide), fun z => absurd z (by decide)⟩
theorem s_MhasKind {d R C : Nat} {kd ht : Nat → Nat} {X : Int64} {Q : Qt} {τ : St} (g : GI τ R C kd ht) (yes : (∃ q, q < R * C ∧ bitL X q = true ∧ kd q = 2) → Q (some (.int 1)) τ) (no : (∀ q, q < R * C → bitL X q = true → kd q ≠ 2) → Q (some (.int 0)) τ) : Cl (d + 2) m_M_hasKind [.ref 69, .long X, .int 2] τ Q := by
  have hn := g.n36
  have loop : ∀ (u k : Nat) (y : Int32), k + u = R * C → ((y = 1 ∧ ∃ q, q < R * C ∧ bitL X q = true ∧ kd q = 2) ∨ (y = 0 ∧ ∀ q, q < k → bitL X q = true → kd q ≠ 2)) → Rs M_M_hasKind (d + 1) Q 6 [some (.ref 69), some (.long X), none, some (.int 2), some (.int y), some (.int (nI k))] [] τ := by
    intro u
    induction u with
    | zero =>
      intro k y hk hy
      obtain rfl : k = R * C := by omega
      rw [Rs_eq]
      simp only [E_M_hasKind, fIsA, fRt, fLen, fLit, fBool]
      refine s_Mfields g ?_
      simp only [oT, E_M_hasKind, fIsA, fRt, fLen, fLit, fBool]
      refine ⟨fun _ => ?_, fun z => absurd (Int32.le_refl _) z⟩
      rcases hy with ⟨rfl, h⟩ | ⟨rfl, h⟩
      · exact ⟨Or.inr rfl, yes h⟩
      · exact ⟨Or.inl rfl, no h⟩
    | succ u ih =>
      intro k y hk hy
      have hkl : k < R * C := by omega
      have k3 := g.2.2.1 k hkl
      have k4 := k3.1.1
      rw [Rs_eq]
      simp only [E_M_hasKind, fIsA, fRt, fLen, fLit, fBool]
      refine s_Mfields g ?_
      simp only [oT, E_M_hasKind, fIsA, fRt, fLen, fLit, fBool, sbitL (show k < 64 by omega), lcmp1, nI_1, nI_clamp (show k < 2 ^ 31 by omega), k3.2.1]
      refine ⟨fun z => absurd z (nI_ge (by omega) (by omega)), fun _ => ?_⟩
      rcases hy with ⟨rfl, h⟩ | ⟨rfl, h⟩
      · have nx := ih (k + 1) 1 (by omega) (Or.inl ⟨rfl, h⟩)
        exact ⟨fun _ => nx, fun z => absurd z (by decide)⟩
      · have nx := fun (w : bitL X k = true → kd k ≠ 2) => ih (k + 1) 0 (by omega) (Or.inr ⟨rfl, fun q hq b => by
          by_cases e : q = k
          · subst e; exact w b
          · exact h q (by omega) b⟩)
        refine ⟨fun z => absurd rfl z, fun _ => ⟨fun z => nx (fun b => absurd b z), fun z => ⟨vp_in_nI (by omega) (by omega), fun y => ?_, fun y => ?_⟩⟩⟩
        · exact nx (fun _ e => y (by rw [e]; rfl))
        · exact ih (k + 1) 1 (by omega) (Or.inl ⟨rfl, k, hkl, z, (nI_eq (b := 2) (by omega) (by omega)).mp y⟩)
  rw [N_M_hasKind]
  simp only [E_M_hasKind, fIsA, fRt, fLen, fLit, fBool]
  exact loop (R * C) 0 0 (by omega) (Or.inr ⟨rfl, fun q hq => absurd hq (Nat.not_lt_zero _)⟩)
