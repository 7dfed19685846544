/-! LINES of ships: told, read by both -/
/-- a line told from place p: weight and field, and the place behind it; or none, and the place of the fault -/
def lnF (g : Nat → Nat) (m : Nat) (kd : Nat → Nat) (F p : Nat) : Option (Nat × Nat) × Nat :=
  if isDg g m p then
    if (nm g m 2 p 0).1 = 0 then (none, (nm g m 2 p 0).2 - 1)
    else if (nm g m 2 p 0).2 < m ∧ g (nm g m 2 p 0).2 = 44 then
      if isDg g m ((nm g m 2 p 0).2 + 1) then
        if isDg g m ((nm g m 2 p 0).2 + 2) then
          if 10 * (g ((nm g m 2 p 0).2 + 1) - 48) + (g ((nm g m 2 p 0).2 + 2) - 48) < F ∧ kd (10 * (g ((nm g m 2 p 0).2 + 1) - 48) + (g ((nm g m 2 p 0).2 + 2) - 48)) = 1 then (some ((nm g m 2 p 0).1, 10 * (g ((nm g m 2 p 0).2 + 1) - 48) + (g ((nm g m 2 p 0).2 + 2) - 48)), (nm g m 2 p 0).2 + 3)
          else (none, (nm g m 2 p 0).2 + 2)
        else (none, (nm g m 2 p 0).2 + 2)
      else (none, (nm g m 2 p 0).2 + 1)
    else (none, (nm g m 2 p 0).2)
  else (none, p)
theorem nm_2 {g : Nat → Nat} {m p : Nat} (h : isDg g m p) : p + 1 ≤ (nm g m 2 p 0).2 ∧ (nm g m 2 p 0).2 ≤ m ∧ (nm g m 2 p 0).2 ≤ p + 2 ∧ (nm g m 2 p 0).1 ≤ 99 := by
  have a := nm_le (g := g) (m := m) 2 p 0 (Nat.le_of_lt h.1)
  have b := nm_le (g := g) (m := m) 1 (p + 1) (10 * 0 + (g p - 48)) h.1
  have e : nm g m 2 p 0 = nm g m 1 (p + 1) (10 * 0 + (g p - 48)) := nm_y h
  rw [← e] at b
  omega
theorem lnF_q {g : Nat → Nat} {m F p q : Nat} {kd : Nat → Nat} {x : Option (Nat × Nat)} (hp : p ≤ m) (h : lnF g m kd F p = (x, q)) : p ≤ q ∧ q ≤ m ∧ ∀ w f, x = some (w, f) → (1 ≤ w ∧ w ≤ 99) ∧ f < F ∧ kd f = 1 := by
  unfold lnF at h
  split at h
  · next c =>
    have n2 := nm_2 c
    split at h
    · cases h; exact ⟨by omega, by omega, fun _ _ w => by cases w⟩
    · next c0 =>
      split at h
      · next c1 =>
        have := c1.1
        split at h
        · next c2 =>
          have := c2.1
          split at h
          · next c3 =>
            have := c3.1
            split at h
            · next c4 => cases h; exact ⟨by omega, by omega, fun w f e => by cases e; exact ⟨⟨by omega, n2.2.2.2⟩, c4⟩⟩
            · cases h; exact ⟨by omega, by omega, fun _ _ w => by cases w⟩
          · cases h; exact ⟨by omega, by omega, fun _ _ w => by cases w⟩
        · cases h; exact ⟨by omega, by omega, fun _ _ w => by cases w⟩
      · cases h; exact ⟨by omega, by omega, fun _ _ w => by cases w⟩
  · cases h; exact ⟨by omega, by omega, fun _ _ w => by cases w⟩
section LN
variable {d R C n p m : Nat} {kd ht : Nat → Nat} {Q : Qt} {τ : St} {g : Nat → Nat}
theorem s_readLine {s : Nat} (G : GI τ R C kd ht) (T : TT τ g n p m) (hs : s < 8) (hp : p ≤ m)
    (no : ∀ q, lnF g m kd (R * C) p = (none, q) → Q (some (.int 0)) (sI τ 1 2 (nI q))) (yes : ∀ w f q, lnF g m kd (R * C) p = (some (w, f), q) → Q (some (.int 1)) (sI (sI (sI τ 1 2 (nI q)) 52 s (nI w)) 10 s (nI f))) : Cl (d + 4) m_H_readLine [.ref 0, .int (nI s)] τ Q := by
  have hm : m ≤ 80 := by have := T.2.2.2.2; omega
  have hn36 := G.n36.1
  rw [N_H_readLine]
  simp only [E_H_readLine, fIsA, fRt, fLen, fLit, fBool]
  refine s_Hnumber (k := 2) (by omega) (by omega) T (fun c => ?_) (fun c => ?_)
  · have n2 := nm_2 c
    unfold lnF at no yes
    rw [if_pos c] at no
    simp only [if_pos c] at yes
    generalize hw : (nm g m 2 p 0).1 = w at no yes n2 ⊢
    generalize hq : (nm g m 2 p 0).2 = q at no yes n2 ⊢
    simp only [oT, E_H_readLine, fIsA, fRt, fLen, fLit, fBool]
    refine ⟨fun _ => ⟨fun w0 => ?_, fun w0 => ?_⟩, fun z => absurd z (nIm (by omega))⟩
    · have w0 : w ≠ 0 := fun z => w0 (by rw [z]; rfl)
      rw [if_neg w0] at no
      simp only [if_neg w0] at yes
      refine s_takeSign (c := 44) (T.go (q := q) (by omega)) (by omega) (fun c1 c2 => ?_) (fun c1 => ?_)
      · rw [if_pos ⟨c1, c2⟩] at no
        simp only [if_pos (And.intro c1 c2)] at yes
        simp only [oT, E_H_readLine, fIsA, fRt, fLen, fLit, fBool, sI_sI]
        refine s_Htwo (T.go (q := q + 1) (by omega)) (fun c3 c4 => ?_) (fun c3 c4 => ?_) (fun c3 => ?_)
        · rw [if_pos c3, if_pos c4] at no
          simp only [if_pos c3, if_pos (show isDg g m (q + 2) from c4)] at yes
          have h3 := c3.2
          have h4 := c4.2
          simp only [oT, E_H_readLine, fIsA, fRt, fLen, fLit, fBool, sI_sI]
          refine ⟨fun _ => ?_, fun z => absurd z (nIm (by omega))⟩
          generalize hf : 10 * (g (q + 1) - 48) + (g (q + 1 + 1) - 48) = f
          rw [show 10 * (g (q + 1) - 48) + (g (q + 2) - 48) = f from hf] at no yes
          have G2 : GI (sI τ 1 2 (nI (q + 1 + 2))) R C kd ht := G
          refine s_Ghas G2 (fun f' hf' e => ?_) (fun z => ?_)
          · obtain rfl : f = f' := (nI_eq (by omega) (by omega)).mp e
            simp only [oT, E_H_readLine, fIsA, fRt, fLen, fLit, fBool]
            refine s_Gkind G2 hf' ?_
            have k3 := (G.2.2.1 f hf').1.1
            simp only [oT, E_H_readLine, fIsA, fRt, fLen, fLit, fBool]
            refine ⟨fun e => ?_, fun e => ?_⟩
            · have e := (nI_eq (b := 1) (by omega) (by omega)).mp e
              have y := yes w f (q + 3) (by rw [if_pos ⟨hf', e⟩])
              rw [nI_clamp (show s < 2 ^ 31 by omega)]
              refine ⟨vp_in_nI (by omega) (by omega), s_put (by omega) ?_⟩
              simp only [oN, E_H_readLine, fIsA, fRt, fLen, fLit, fBool]
              exact y
            · rw [if_neg (fun w => e (by rw [w.2]; rfl))] at no
              refine s_back (p := q + 2) rfl ?_
              simp only [oN, E_H_readLine, fIsA, fRt, fLen, fLit, fBool, sI_sI]
              exact no _ rfl
          · have z : ¬ f < R * C := fun w => z ⟨nI_pos' (by omega), nI_lt w (by omega)⟩
            rw [if_neg (fun w => z w.1)] at no
            simp only [oT, E_H_readLine, fIsA, fRt, fLen, fLit, fBool]
            refine s_back (p := q + 2) rfl ?_
            simp only [oN, E_H_readLine, fIsA, fRt, fLen, fLit, fBool, sI_sI]
            exact no _ rfl
        · rw [if_pos c3, if_neg c4] at no
          simp only [oT, E_H_readLine, fIsA, fRt, fLen, fLit, fBool, sI_sI]
          exact no _ rfl
        · rw [if_neg c3] at no
          simp only [oT, E_H_readLine, fIsA, fRt, fLen, fLit, fBool, sI_sI]
          exact no _ rfl
      · rw [if_neg c1] at no
        simp only [oT, E_H_readLine, fIsA, fRt, fLen, fLit, fBool, sI_sI]
        exact no _ rfl
    · rw [if_pos ((nI_eq (b := 0) (by omega) (by omega)).mp w0)] at no
      refine s_back (p := q - 1) (show nI q = nI (q - 1 + 1) by congr 1; omega) ?_
      simp only [oN, E_H_readLine, fIsA, fRt, fLen, fLit, fBool, sI_sI]
      exact no _ rfl
  · unfold lnF at no
    rw [if_neg c] at no
    have := no p rfl
    rw [T.can] at this
    simp only [oT, E_H_readLine, fIsA, fRt, fLen, fLit, fBool]
    exact this
end LN
section LM
variable {d R C ns n p m k : Nat} {kd ht : Nat → Nat} {Q : Qt} {τ : St} {g : Nat → Nat}
theorem i36 (k : Nat) : (2 : Int32) * nI k = nI (2 * k) := pk_mul 2 k
theorem s_readsShip (G : GI τ R C kd ht) (h5 : τ.1 69 5 = nI ns) (h21 : τ.1 69 21 = nI k) (hk : ns + k < 8) (M : MR τ g n p m) (hp : p ≤ m)
    (no : ∀ q τ', lnF g m kd (R * C) p = (none, q) → Fr [79] [(69, 15), (69, 21)] τ τ' → τ'.1 69 15 = nI q → τ'.1 69 21 = nI k → Q (some (.int 0)) τ')
    (yes : ∀ w f q τ', lnF g m kd (R * C) p = (some (w, f), q) → Fr [79] [(69, 15), (69, 21)] τ τ' → τ'.1 69 15 = nI q → τ'.1 69 21 = nI (k + 1) → τ'.1 79 (2 * k) = nI w → τ'.1 79 (2 * k + 1) = nI f → (∀ j, j < 2 * k → τ'.1 79 j = τ.1 79 j) → Q (some (.int 1)) τ') : Cl (d + 5) m_M_readsShip [.ref 69] τ Q := by
  have hm : m ≤ n ∧ n ≤ 80 := ⟨M.2.2.2.1, M.2.2.2.2.1⟩
  have hn36 := G.n36.1
  have e8 : ¬ nI ns + nI k = 8 := fun z => by
    rw [nI_add] at z
    have := (nI_eq (b := 8) (by omega) (by omega)).mp z
    omega
  have c2k : (nI (2 * k)).toNatClampNeg = 2 * k := nI_clamp (by omega)
  have c2k1 : (nI (2 * k + 1)).toNatClampNeg = 2 * k + 1 := nI_clamp (by omega)
  rw [N_M_readsShip]
  simp only [E_M_readsShip, fIsA, fRt, fLen, fLit, fBool, h5, h21, e8, i36]
  refine s_Mnumber (k := 2) (by omega) M (fun c => ?_) (fun c => ?_)
  · have n2 := nm_2 c
    unfold lnF at no yes
    rw [if_pos c] at no
    simp only [if_pos c] at yes
    generalize hw : (nm g m 2 p 0).1 = w at no yes n2 ⊢
    generalize hq : (nm g m 2 p 0).2 = q at no yes n2 ⊢
    have e21 : τ.1 69 21 = nI k := h21
    simp only [oT, E_M_readsShip, fIsA, fRt, fLen, fLit, fBool, sI_1, reduceIte, Nat.reduceEqDiff, h21, i36, c2k, eq_false (nI_pos (show w < 2 ^ 31 by omega))]
    refine ⟨vp_in_nI (by omega) (by omega), vp_in_nI (by omega) (by omega), fun w0 => ⟨vp_in_nI (by omega) (by omega), ?_⟩, fun w0 => ?_⟩
    · have w0 : w ≠ 0 := fun z => w0 (by rw [z]; rfl)
      rw [if_neg w0] at no
      simp only [if_neg w0] at yes
      generalize hA : sI (sI τ 69 15 (nI q)) 79 (2 * k) (nI w) = A
      have fA : Fr [79] [(69, 15)] τ A := by rw [← hA]; exact (Fr.rf.i rfl).ic rfl
      have MA := M.fr (q := q) fA rfl (by rw [← hA]; rfl) (by omega)
      have a21 : A.1 69 21 = nI k := (fA.u1 69 21 rfl).trans h21
      have a79 : A.1 79 (2 * k) = nI w := by rw [← hA]; simp only [sI_1, reduceIte, Nat.reduceEqDiff]
      have o79 : ∀ j, j ≠ 2 * k → A.1 79 j = τ.1 79 j := fun j hj => by rw [← hA]; simp only [sI_1, reduceIte, Nat.reduceEqDiff]; rw [if_neg hj]
      refine s_takes (c := 44) MA (by omega) (fun c1 c2 => ?_) (fun c1 => ?_)
      · rw [if_pos ⟨c1, c2⟩] at no
        simp only [if_pos (And.intro c1 c2)] at yes
        simp only [oT, E_M_readsShip, fIsA, fRt, fLen, fLit, fBool, sI_1, reduceIte, Nat.reduceEqDiff, a21, i36, nI_1]
        refine s_Mtwo (MA.go (q := q + 1) (by omega)) (fun c3 c4 => ?_) (fun c3 c4 => ?_) (fun c3 => ?_)
        · rw [if_pos c3, if_pos c4] at no
          simp only [if_pos c3, if_pos (show isDg g m (q + 2) from c4)] at yes
          have h3 := c3.2
          have h4 := c4.2
          generalize hf : 10 * (g (q + 1) - 48) + (g (q + 1 + 1) - 48) = f
          rw [show 10 * (g (q + 1) - 48) + (g (q + 2) - 48) = f from hf] at no yes
          simp only [oT, E_M_readsShip, fIsA, fRt, fLen, fLit, fBool, sI_1, reduceIte, Nat.reduceEqDiff, a21, i36, nI_1, c2k1, sI_sI]
          generalize hB : sI (sI A 69 15 (nI (q + 1 + 2))) 79 (2 * k + 1) (nI f) = B
          have fAB : Fr [79] [(69, 15)] A B := by rw [← hB]; exact (Fr.rf.i rfl).ic rfl
          have fB : Fr [79] [(69, 15)] τ B := fA.tr fAB
          have GB : GI B R C kd ht := G.fr fB rfl
          have b21 : B.1 69 21 = nI k := (fB.u1 69 21 rfl).trans h21
          have b15 : B.1 69 15 = nI (q + 3) := by rw [← hB]; rfl
          have b79 : B.1 79 (2 * k + 1) = nI f := by rw [← hB]; simp only [sI_1, reduceIte, Nat.reduceEqDiff]
          have o79' : ∀ j, j ≠ 2 * k + 1 → B.1 79 j = A.1 79 j := fun j hj => by rw [← hB]; simp only [sI_1, reduceIte, Nat.reduceEqDiff]; rw [if_neg hj]
          have e15 : nI (q + 3) - 1 = nI (q + 2) := nI_pred (q + 2)
          refine ⟨vp_in_nI (by omega) (by omega), vp_in_nI (by omega) (by omega), fun _ => ⟨vp_in_nI (by omega) (by omega), ?_⟩, fun z => absurd (nI_pos' (by omega)) z⟩
          refine s_MisField GB (fun f' hf' e => ?_) (fun z => ?_)
          · obtain rfl : f = f' := (nI_eq (by omega) (by omega)).mp e
            have k3 := (GB.2.2.1 f hf')
            have k4 := k3.1.1
            simp only [oT, E_M_readsShip, fIsA, fRt, fLen, fLit, fBool, b21, i36, nI_1, c2k1, b79, nI_clamp (show f < 2 ^ 31 by omega), k3.2.1, b15, e15]
            refine ⟨vp_in_nI (by omega) (by omega), vp_in_nI (by omega) (by omega), fun e => ?_, fun e => ?_⟩
            · have e := (nI_eq (b := 1) (by omega) (by omega)).mp e
              refine yes w f (q + 3) _ (by rw [if_pos ⟨hf', e⟩]) ((fB.wk rfl).i rfl) b15 rfl ?_ b79 (fun j hj => ?_)
              · show B.1 79 (2 * k) = _
                rw [o79' _ (by omega)]; exact a79
              · show B.1 79 j = _
                rw [o79' _ (by omega), o79 _ (by omega)]
            · rw [if_neg (fun w => e (by rw [w.2]; rfl))] at no
              exact no _ _ rfl ((fB.wk rfl).i rfl) rfl b21
          · have z : ¬ f < R * C := fun w => z ⟨nI_pos' (by omega), nI_lt w (by omega)⟩
            rw [if_neg (fun w => z w.1)] at no
            simp only [oT, E_M_readsShip, fIsA, fRt, fLen, fLit, fBool, b15, e15]
            exact no _ _ rfl ((fB.wk rfl).i rfl) rfl b21
        · rw [if_pos c3, if_neg c4] at no
          simp only [oT, E_M_readsShip, fIsA, fRt, fLen, fLit, fBool, sI_1, reduceIte, Nat.reduceEqDiff, a21, i36, nI_1, c2k1, sI_sI]
          exact ⟨vp_in_nI (by omega) (by omega), vp_in_nI (by omega) (by omega), no _ _ rfl (((fA.wk rfl).i rfl).ic rfl) rfl a21⟩
        · rw [if_neg c3] at no
          simp only [oT, E_M_readsShip, fIsA, fRt, fLen, fLit, fBool, sI_1, reduceIte, Nat.reduceEqDiff, a21, i36, nI_1, c2k1, sI_sI]
          exact ⟨vp_in_nI (by omega) (by omega), vp_in_nI (by omega) (by omega), no _ _ rfl (((fA.wk rfl).i rfl).ic rfl) rfl a21⟩
      · rw [if_neg c1] at no
        simp only [oT, E_M_readsShip, fIsA, fRt, fLen, fLit, fBool]
        exact no _ _ rfl (fA.wk rfl) (by rw [← hA]; rfl) a21
    · rw [if_pos ((nI_eq (b := 0) (by omega) (by omega)).mp w0)] at no
      have e15 : nI q - 1 = nI (q - 1) := pk_sub (b := 1) (by omega)
      rw [e15]
      exact no _ _ rfl (((Fr.rf.i rfl).ic rfl).i rfl) rfl h21
  · unfold lnF at no
    rw [if_neg c] at no
    simp only [oT, E_M_readsShip, fIsA, fRt, fLen, fLit, fBool, sI_1, reduceIte, Nat.reduceEqDiff, h21, i36, c2k]
    refine ⟨vp_in_nI (by omega) (by omega), vp_in_nI (by omega) (by omega), vp_in_nI (by omega) (by omega), ?_⟩
    exact no p _ rfl (Fr.rf.ic rfl) M.1 h21
end LM
