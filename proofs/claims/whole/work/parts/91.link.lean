/-! LAND: the class's fields and their neighbours -/
def GK (τ : St) (F : Nat) (kd : Nat → Nat) : Prop := τ.1 5 2 = nI F ∧ F ≤ 36 ∧ ∀ f, f < F → τ.1 6 f = nI (kd f) ∧ kd f ≤ 3
theorem GK.fr {cs : List Nat} {fs : List (Nat × Nat)} {τ τ' : St} {F : Nat} {kd : Nat → Nat} (h : GK τ F kd) (hf : Fr cs fs τ τ') (hd : disF cs fs [6] [(5, 2)] = true) : GK τ' F kd :=
  ⟨by rw [(hf.E hd 5 2 rfl).1]; exact h.1, h.2.1, fun f hq => by rw [(hf.D hd 6 f rfl).1]; exact h.2.2 f hq⟩
section GKS
variable {d F : Nat} {kd : Nat → Nat} {Q : Qt} {τ : St}
theorem s_Ghas2 (g : GK τ F kd) {v : Int32} (yes : ∀ f, f < F → v = nI f → Q (some (.int 1)) τ) (no : ¬ (0 ≤ v ∧ v < nI F) → Q (some (.int 0)) τ) : Cl (d + 1) m_Ground_has [.ref 5, .int v] τ Q := by
  have hn := g.2.1
  rw [N_Ground_has]
  simp only [E_Ground_has, fIsA, fRt, fLen, fLit, fBool, g.1]
  refine ⟨fun z => no (fun q => nlt q.1 z), fun z => ⟨fun z2 => no (fun q => absurd q.2 (Int32.not_lt.mpr z2)), fun z2 => ?_⟩⟩
  obtain ⟨f, hf, rfl⟩ := nI_of z
  have z2 := (nI_ltI (b := F) hf (by omega)).mp (Int32.not_le.mp z2)
  exact ⟨fun z3 => absurd z3 (nI_ge (b := 36) (by omega) (by omega)), fun _ => yes f z2 rfl⟩
theorem s_openF (g : GK τ F kd) {v : Int32} (yes : ∀ q, q < F → v = nI q → Q (some (.int (if kd q = 3 then -1 else nI q))) τ) (no : ¬ (0 ≤ v ∧ v < nI F) → Q (some (.int (-1))) τ) : Cl (d + 3) m_Ground_openField [.ref 5, .int v] τ Q := by
  have hn := g.2.1
  rw [N_Ground_openField]
  simp only [E_Ground_openField, fIsA, fRt, fLen, fLit, fBool]
  rw [N_Ground_kindOf]
  simp only [E_Ground_kindOf, fIsA, fRt, fLen, fLit, fBool]
  refine s_Ghas2 g (fun q hq e => ?_) (fun z => ?_)
  · subst e
    have y := yes q hq rfl
    have k3 := (g.2.2 q hq).2
    simp only [oT, E_Ground_kindOf, E_Ground_openField, fIsA, fRt, fLen, fLit, fBool]
    refine ⟨vp_in_nI (by omega) (by omega), ?_⟩
    rw [nI_clamp (by omega), (g.2.2 q hq).1]
    refine ⟨fun z => ?_, fun z => ?_⟩
    · rw [if_neg (fun w => z (by rw [w]; rfl))] at y; exact y
    · rw [if_pos ((nI_eq (b := 3) (by omega) (by omega)).mp z)] at y; exact y
  · simp only [oT, E_Ground_kindOf, E_Ground_openField, fIsA, fRt, fLen, fLit, fBool]
    exact no z
end GKS
theorem oI_nk {kd : Nat → Nat} {R C f h : Nat} : (∀ q, nb R C f h = some q → oI (nk kd R C f h) = if kd q = 3 then -1 else nI q) ∧ (nb R C f h = none → oI (nk kd R C f h) = -1) := by
  refine ⟨fun q e => ?_, fun e => ?_⟩
  · unfold nk
    rw [e]
    show oI (if kd q = 3 then none else some q) = _
    split <;> rfl
  · unfold nk
    rw [e]
    rfl
theorem nb0 {R C f : Nat} : nb R C f 0 = if C ≤ f then some (f - C) else none := by unfold nb; rw [if_pos rfl]
theorem nb1 {R C f : Nat} : nb R C f 1 = if f % C + 1 < C then some (f + 1) else none := by unfold nb; rw [if_neg (by decide), if_pos rfl]
theorem nb2 {R C f : Nat} : nb R C f 2 = if f + C < R * C then some (f + C) else none := by unfold nb; rw [if_neg (by decide), if_neg (by decide), if_pos rfl]
theorem nb3 {R C f : Nat} : nb R C f 3 = if 0 < f % C then some (f - 1) else none := by unfold nb; rw [if_neg (by decide), if_neg (by decide), if_neg (by decide)]
theorem s_link {d R C f : Nat} {kd : Nat → Nat} {Q : Qt} {τ : St} (g : GK τ (R * C) kd) (hC : 1 ≤ C ∧ C ≤ 6) (h1 : τ.1 5 1 = nI C) (hf : f < R * C)
    (hQ : ∀ τ', Fr [8] [] τ τ' → (∀ h, h < 4 → τ'.1 8 (4 * f + h) = oI (nk kd R C f h)) → (∀ j, j < 4 * f ∨ 4 * f + 4 ≤ j → τ'.1 8 j = τ.1 8 j) → Q none τ') : Cl (d + 4) m_Ground_link [.ref 5, .int (nI f)] τ Q := by
  have hn := g.2.1
  have hlt : ∀ h q, h < 4 → nb R C f h = some q → q < R * C := fun h q hh e => nb_lt hf hh e
  have em : nI f - nI f / nI C * nI C = nI (f % C) := pk_rem (by omega) (by omega) (by omega)
  have hmod := Nat.mod_lt f (show C > 0 by omega)
  have hmle := Nat.mod_le f C
  have c0 : nI f * 4 = nI (f * 4) := pk_mul f 4
  have c2 : nI (f * 4) + 2 = nI (f * 4 + 2) := nI_add _ 2
  have c3 : nI (f * 4) + 3 = nI (f * 4 + 3) := nI_add _ 3
  -- openField of each heading, wherever the other cells stand
  have op : ∀ (h : Nat) (v : Int32) (τ1 : St) (Q1 : Qt), h < 4 → (∀ q, nb R C f h = some q → v = nI q) → (nb R C f h = none → ¬ (0 ≤ v ∧ v < nI (R * C))) → Fr [8] [] τ τ1 → Q1 (some (.int (oI (nk kd R C f h)))) τ1 → Cl (d + 3) m_Ground_openField [.ref 5, .int v] τ1 Q1 := fun h v τ1 Q1 hh e1 e2 fr q1 => by
    have on := oI_nk (kd := kd) (R := R) (C := C) (f := f) (h := h)
    refine s_openF (g.fr fr rfl) (fun q hq e => ?_) (fun z => ?_)
    · cases hnb : nb R C f h with
      | none => exact absurd ⟨by rw [e]; exact nI_pos' (by omega), by rw [e]; exact nI_lt hq (by omega)⟩ (e2 hnb)
      | some q' =>
        have hq' := hlt h q' hh hnb
        have := e1 q' hnb
        rw [e] at this
        have : q = q' := (nI_eq (by omega) (by omega)).mp this
        subst this
        rw [on.1 q hnb] at q1
        exact q1
    · cases hnb : nb R C f h with
      | none => rw [on.2 hnb] at q1; exact q1
      | some q' =>
        have hq' := hlt h q' hh hnb
        exact absurd ⟨by rw [e1 q' hnb]; exact nI_pos' (by omega), by rw [e1 q' hnb]; exact nI_lt hq' (by omega)⟩ z
  have neg : ∀ b, f < b → b < 2 ^ 30 → ¬ (0 ≤ nI f - nI b ∧ nI f - nI b < nI (R * C)) := fun b h1 h2 z => by
    have := z.1
    rw [Int32.le_iff_toInt_le, pk_sub_toInt (by omega) (by omega)] at this
    have e : (0 : Int32).toInt = 0 := rfl
    omega
  -- the four are laid
  have fin : ∀ v0 v1 v2 v3 : Int32, v0 = oI (nk kd R C f 0) → v1 = oI (nk kd R C f 1) → v2 = oI (nk kd R C f 2) → v3 = oI (nk kd R C f 3) → Q none (sI (sI (sI (sI τ 8 (f * 4) v0) 8 (f * 4 + 1) v1) 8 (f * 4 + 2) v2) 8 (f * 4 + 3) v3) := fun v0 v1 v2 v3 e0 e1 e2 e3 => by
    refine hQ _ ((((Fr.rf.ic rfl).ic rfl).ic rfl).ic rfl) (fun h hh => ?_) (fun j hj => ?_)
    · simp only [sI_1, reduceIte, Nat.reduceEqDiff]
      rcases (show h = 0 ∨ h = 1 ∨ h = 2 ∨ h = 3 by omega) with rfl | rfl | rfl | rfl
      · rw [if_neg (by omega), if_neg (by omega), if_neg (by omega), if_pos (by omega), e0]
      · rw [if_neg (by omega), if_neg (by omega), if_pos (by omega), e1]
      · rw [if_neg (by omega), if_pos (by omega), e2]
      · rw [if_pos (by omega), e3]
    · simp only [sI_1, reduceIte, Nat.reduceEqDiff]
      rw [if_neg (by omega), if_neg (by omega), if_neg (by omega), if_neg (by omega)]
  have on := fun h => (oI_nk (kd := kd) (R := R) (C := C) (f := f) (h := h)).2
  rw [N_Ground_link]
  simp only [E_Ground_link, fIsA, fRt, fLen, fLit, fBool]
  refine s_Ghas2 g (fun q hq e => ?_) (fun z => absurd ⟨nI_pos' (by omega), nI_lt hf (by omega)⟩ z)
  simp only [oT, E_Ground_link, fIsA, fRt, fLen, fLit, fBool, h1, em]
  refine ⟨fun _ => ⟨fun z => absurd ((nI_eq (b := 0) (by omega) (by omega)).mp z) (by omega), ?_⟩, fun z => absurd (nI_le (a := 1) hC.1 (by omega)) z⟩
  refine op 0 _ τ _ (by omega) (fun q e => ?_) (fun e => ?_) Fr.rf ?_
  · rw [nb0] at e
    split at e
    · cases e; exact pk_sub (by assumption)
    · cases e
  · rw [nb0] at e
    split at e
    · cases e
    · exact neg C (by omega) (by omega)
  simp only [oT, E_Ground_link, fIsA, fRt, fLen, fLit, fBool, c0, nI_1, nI_clamp (show f * 4 < 2 ^ 31 by omega), sI_1, reduceIte, Nat.reduceEqDiff, h1, em]
  refine ⟨vp_in_nI (by omega) (by omega), ?_⟩
  refine ⟨fun z => ?_, fun z => ?_⟩
  · have z := (nI_leI (by omega) (by omega)).mp z
    have n1 : nb R C f 1 = none := by rw [nb1, if_neg (by omega)]
    simp only [nI_clamp (show f * 4 + 1 < 2 ^ 31 by omega), sI_1, reduceIte, Nat.reduceEqDiff, h1]
    refine ⟨vp_in_nI (by omega) (by omega), op 2 _ _ _ (by omega) (fun q e => ?_) (fun e => ?_) ((Fr.rf.ic rfl).ic rfl) ?_⟩
    · rw [nb2] at e
      split at e
      · cases e; exact nI_add _ _
      · cases e
    · rw [nb2] at e
      split at e
      · cases e
      · rw [nI_add]
        exact fun w => absurd ((nI_ltI (by omega) (by omega)).mp w.2) (by assumption)
    simp only [oT, E_Ground_link, fIsA, fRt, fLen, fLit, fBool, c0, c2, nI_clamp (show f * 4 + 2 < 2 ^ 31 by omega)]
    refine ⟨vp_in_nI (by omega) (by omega), fun z2 => ?_, fun z2 => ?_⟩
    · have z2 := (nI_leI (b := 0) (by omega) (by omega)).mp z2
      have n3 : nb R C f 3 = none := by rw [nb3, if_neg (by omega)]
      simp only [c0, c3, nI_clamp (show f * 4 + 3 < 2 ^ 31 by omega)]
      exact ⟨vp_in_nI (by omega) (by omega), fin _ _ _ _ rfl (on 1 n1).symm rfl (on 3 n3).symm⟩
    · have z2 : 0 < f % C := Nat.pos_of_ne_zero (fun w => z2 (by rw [w]; exact Int32.le_refl _))
      refine op 3 _ _ _ (by omega) (fun q e => ?_) (fun e => ?_) (((Fr.rf.ic rfl).ic rfl).ic rfl) ?_
      · rw [nb3, if_pos z2] at e; cases e; exact pk_sub (b := 1) (by omega)
      · rw [nb3, if_pos z2] at e; cases e
      simp only [oT, E_Ground_link, fIsA, fRt, fLen, fLit, fBool, c0, c3, nI_clamp (show f * 4 + 3 < 2 ^ 31 by omega)]
      exact ⟨vp_in_nI (by omega) (by omega), fin _ _ _ _ rfl (on 1 n1).symm rfl rfl⟩
  · have z : f % C + 1 < C := Nat.lt_of_not_le (fun w => z (nI_le w (by omega)))
    refine op 1 _ _ _ (by omega) (fun q e => ?_) (fun e => ?_) (Fr.rf.ic rfl) ?_
    · rw [nb1, if_pos z] at e; cases e; rfl
    · rw [nb1, if_pos z] at e; cases e
    simp only [oT, E_Ground_link, fIsA, fRt, fLen, fLit, fBool, c0, nI_1, nI_clamp (show f * 4 + 1 < 2 ^ 31 by omega), sI_1, reduceIte, Nat.reduceEqDiff, h1]
    refine ⟨vp_in_nI (by omega) (by omega), op 2 _ _ _ (by omega) (fun q e => ?_) (fun e => ?_) ((Fr.rf.ic rfl).ic rfl) ?_⟩
    · rw [nb2] at e
      split at e
      · cases e; exact nI_add _ _
      · cases e
    · rw [nb2] at e
      split at e
      · cases e
      · rw [nI_add]
        exact fun w => absurd ((nI_ltI (by omega) (by omega)).mp w.2) (by assumption)
    simp only [oT, E_Ground_link, fIsA, fRt, fLen, fLit, fBool, c0, c2, nI_clamp (show f * 4 + 2 < 2 ^ 31 by omega)]
    refine ⟨vp_in_nI (by omega) (by omega), fun z2 => ?_, fun z2 => ?_⟩
    · have z2 := (nI_leI (b := 0) (by omega) (by omega)).mp z2
      have n3 : nb R C f 3 = none := by rw [nb3, if_neg (by omega)]
      simp only [c0, c3, nI_clamp (show f * 4 + 3 < 2 ^ 31 by omega)]
      exact ⟨vp_in_nI (by omega) (by omega), fin _ _ _ _ rfl rfl rfl (on 3 n3).symm⟩
    · have z2 : 0 < f % C := Nat.pos_of_ne_zero (fun w => z2 (by rw [w]; exact Int32.le_refl _))
      refine op 3 _ _ _ (by omega) (fun q e => ?_) (fun e => ?_) (((Fr.rf.ic rfl).ic rfl).ic rfl) ?_
      · rw [nb3, if_pos z2] at e; cases e; exact pk_sub (b := 1) (by omega)
      · rw [nb3, if_pos z2] at e; cases e
      simp only [oT, E_Ground_link, fIsA, fRt, fLen, fLit, fBool, c0, c3, nI_clamp (show f * 4 + 3 < 2 ^ 31 by omega)]
      exact ⟨vp_in_nI (by omega) (by omega), fin _ _ _ _ rfl rfl rfl rfl⟩
