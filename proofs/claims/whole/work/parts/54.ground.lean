/-! GROUND and SHIPS -/
section GR
variable {d R C ns n B : Nat} {kd ht : Nat → Nat} {Q : Qt} {τ : St}
theorem GI.n36 (g : GI τ R C kd ht) : R * C ≤ 36 ∧ 0 < R * C := ⟨Nat.mul_le_mul g.1.2.1 g.1.2.2.2, Nat.mul_pos g.1.1 g.1.2.2.1⟩
theorem s_Ghas (g : GI τ R C kd ht) {v : Int32} (yes : ∀ f, f < R * C → v = nI f → Q (some (.int 1)) τ) (no : ¬ (0 ≤ v ∧ v < nI (R * C)) → Q (some (.int 0)) τ) : Cl (d + 1) m_Ground_has [.ref 5, .int v] τ Q := by
  have hn := g.n36
  rw [N_Ground_has]
  simp only [E_Ground_has, fIsA, fRt, fLen, fLit, fBool, g.2.1.2.2.1]
  refine ⟨fun z => no (fun q => nlt q.1 z), fun z => ⟨fun z2 => no (fun q => absurd q.2 (Int32.not_lt.mpr z2)), fun z2 => ?_⟩⟩
  obtain ⟨f, hf, rfl⟩ := nI_of z
  have z2 := (nI_ltI (b := R * C) hf (by omega)).mp (Int32.not_le.mp z2)
  exact ⟨fun z3 => absurd z3 (nI_ge (b := 36) (by omega) (by omega)), fun _ => yes f z2 rfl⟩
theorem s_Gkind (g : GI τ R C kd ht) {f : Nat} (hf : f < R * C) (hQ : Q (some (.int (nI (kd f)))) τ) : Cl (d + 2) m_Ground_kindOf [.ref 5, .int (nI f)] τ Q := by
  have hn := g.n36
  rw [N_Ground_kindOf]
  simp only [E_Ground_kindOf, fIsA, fRt, fLen, fLit, fBool]
  refine s_Ghas g (fun f' hf' e => ?_) (fun z => absurd ⟨nI_pos' (by omega), nI_lt hf (by omega)⟩ z)
  simp only [oT, E_Ground_kindOf, fIsA, fRt, fLen, fLit, fBool]
  refine ⟨vp_in_nI (by omega) (by omega), ?_⟩
  rw [nI_clamp (by omega), (g.2.2.1 f hf).2.2.2.1]
  exact hQ
theorem s_GkindNo (g : GI τ R C kd ht) {v : Int32} (hv : ¬ (0 ≤ v ∧ v < nI (R * C))) (hQ : Q (some (.int 3)) τ) : Cl (d + 2) m_Ground_kindOf [.ref 5, .int v] τ Q := by
  have hn := g.n36
  rw [N_Ground_kindOf]
  simp only [E_Ground_kindOf, fIsA, fRt, fLen, fLit, fBool]
  refine s_Ghas g (fun f' hf' e => absurd ⟨by rw [e]; exact nI_pos' (by omega), by rw [e]; exact nI_lt hf' (by omega)⟩ hv) (fun z => ?_)
  simp only [oT, E_Ground_kindOf, fIsA, fRt, fLen, fLit, fBool]
  exact hQ
theorem s_Gheight (g : GI τ R C kd ht) {f : Nat} (hf : f < R * C) (hQ : Q (some (.int (nI (ht f)))) τ) : Cl (d + 1) m_Ground_heightOf [.ref 5, .int (nI f)] τ Q := by
  have hn := g.n36
  rw [N_Ground_heightOf]
  simp only [E_Ground_heightOf, fIsA, fRt, fLen, fLit, fBool]
  refine ⟨fun z => absurd z (nI_pos (by omega)), fun _ => ⟨fun z => absurd z (nI_ge (b := 36) (by omega) (by omega)), fun _ => ⟨vp_in_nI (by omega) (by omega), ?_⟩⟩⟩
  rw [nI_clamp (by omega), (g.2.2.1 f hf).2.2.2.2]
  exact hQ
theorem s_Gbeside (g : GI τ R C kd ht) {f h : Nat} (hf : f < R * C) (hh : h < 4) (hQ : Q (some (.int (oI (nk kd R C f h)))) τ) : Cl (d + 2) m_Ground_beside [.ref 5, .int (nI f), .int (nI h)] τ Q := by
  have hn := g.n36
  rw [N_Ground_beside]
  simp only [E_Ground_beside, fIsA, fRt, fLen, fLit, fBool]
  refine s_Ghas g (fun f' hf' e => ?_) (fun z => absurd ⟨nI_pos' (by omega), nI_lt hf (by omega)⟩ z)
  have e : nI f * 4 + nI h = nI (4 * f + h) := by rw [show nI f * 4 = nI (f * 4) from pk_mul f 4, nI_add, Nat.mul_comm]
  simp only [oT, E_Ground_beside, fIsA, fRt, fLen, fLit, fBool, e]
  refine ⟨fun z => absurd z (nI_pos (by omega)), fun _ => ⟨fun _ => ⟨vp_in_nI (by omega) (by omega), ?_⟩, fun z => absurd (nI_lt (b := 4) (by omega) (by omega)) z⟩⟩
  rw [nI_clamp (by omega), g.2.2.2.1 f h hf hh]
  exact hQ
theorem le_pred {v : Int32} {n : Nat} (hn : n < 2 ^ 30) : v ≤ nI n - 1 ↔ v < nI n := by
  rw [Int32.le_iff_toInt_le, Int32.lt_iff_toInt_lt, show (1 : Int32) = nI 1 from rfl, pk_sub_toInt (by omega) (by omega), nI_toInt (by omega)]
  omega
theorem s_below {n : Nat} (hn : n < 2 ^ 30) {v : Int32} (yes : ∀ k, k < n → v = nI k → Q (some (.int 1)) τ) (no : ¬ (0 ≤ v ∧ v < nI n) → Q (some (.int 0)) τ) : Cl (d + 1) m_M_in [.long v.toInt64, .long 0, .long (nI n - 1).toInt64] τ Q := by
  refine s_inI 0 rfl (nI n - 1) rfl (fun c1 c2 => ?_) (fun c => no (fun z => c ⟨z.1, (le_pred hn).mpr z.2⟩))
  obtain ⟨k, hk, rfl⟩ := nI_of (Int32.not_lt.mpr c1)
  exact yes k ((nI_ltI hk (by omega)).mp ((le_pred hn).mp c2)) rfl
theorem s_Mfields (g : GI τ R C kd ht) (hQ : Q (some (.int (nI (R * C)))) τ) : Cl (d + 1) m_M_fields [.ref 69] τ Q := by
  rw [N_M_fields]
  simp only [E_M_fields, fIsA, fRt, fLen, fLit, fBool, g.2.1.2.2.2.1, g.2.1.2.2.2.2]
  rw [pk_mul]
  exact hQ
theorem s_MisField (g : GI τ R C kd ht) {v : Int32} (yes : ∀ f, f < R * C → v = nI f → Q (some (.int 1)) τ) (no : ¬ (0 ≤ v ∧ v < nI (R * C)) → Q (some (.int 0)) τ) : Cl (d + 2) m_M_isField [.ref 69, .int v] τ Q := by
  have hn := g.n36
  rw [N_M_isField]
  simp only [E_M_isField, fIsA, fRt, fLen, fLit, fBool]
  refine s_Mfields g ?_
  simp only [oT, E_M_isField, fIsA, fRt, fLen, fLit, fBool]
  refine s_below (by omega) (fun k hk e => ?_) (fun z => ?_)
  · simp only [oT, E_M_isField, fIsA, fRt, fLen, fLit, fBool]
    exact yes k hk e
  · simp only [oT, E_M_isField, fIsA, fRt, fLen, fLit, fBool]
    exact no z
theorem s_HhasShip (s : ShI τ ns) {v : Int32} (yes : ∀ k, k < ns → v = nI k → Q (some (.int 1)) τ) (no : ¬ (0 ≤ v ∧ v < nI ns) → Q (some (.int 0)) τ) : Cl (d + 1) m_H_hasShip [.ref 0, .int v] τ Q := by
  have hn := s.1
  rw [N_H_hasShip]
  simp only [E_H_hasShip, fIsA, fRt, fLen, fLit, fBool, s.2.2.1]
  refine ⟨fun z => no (fun q => nlt q.1 z), fun z => ⟨fun z2 => no (fun q => absurd q.2 (Int32.not_lt.mpr z2)), fun z2 => ?_⟩⟩
  obtain ⟨f, hf, rfl⟩ := nI_of z
  have z2 := (nI_ltI (b := ns) hf (by omega)).mp (Int32.not_le.mp z2)
  exact ⟨fun z3 => absurd z3 (nI_ge (b := 8) (by omega) (by omega)), fun _ => yes f z2 rfl⟩
theorem s_MisShip (s : ShI τ ns) {v : Int32} (yes : ∀ k, k < ns → v = nI k → Q (some (.int 1)) τ) (no : ¬ (0 ≤ v ∧ v < nI ns) → Q (some (.int 0)) τ) : Cl (d + 2) m_M_isShip [.ref 69, .int v] τ Q := by
  have hn := s.1
  rw [N_M_isShip]
  simp only [E_M_isShip, fIsA, fRt, fLen, fLit, fBool, s.2.1]
  refine s_below (by omega) (fun k hk e => ?_) (fun z => ?_)
  · simp only [oT, E_M_isShip, fIsA, fRt, fLen, fLit, fBool]
    exact yes k hk e
  · simp only [oT, E_M_isShip, fIsA, fRt, fLen, fLit, fBool]
    exact no z
theorem s_placeOf {s : Nat} (hs : s < 8) (hQ : Q (some (.int (τ.1 10 s))) τ) : Cl (d + 1) m_Moment_placeOf [.ref 9, .int (nI s)] τ Q := by
  rw [N_Moment_placeOf]
  simp only [E_Moment_placeOf, fIsA, fRt, fLen, fLit, fBool]
  refine ⟨fun z => absurd z (nI_pos (by omega)), fun _ => ⟨fun z => absurd z (nI_ge (b := 8) (by omega) (by omega)), fun _ => ⟨vp_in_nI (by omega) (by omega), ?_⟩⟩⟩
  rw [nI_clamp (by omega)]
  exact hQ
theorem s_put {s : Nat} {v : Int32} (hs : s < 8) (hQ : Q none (sI τ 10 s v)) : Cl (d + 1) m_Moment_put [.ref 9, .int (nI s), .int v] τ Q := by
  rw [N_Moment_put]
  simp only [E_Moment_put, fIsA, fRt, fLen, fLit, fBool]
  refine ⟨fun z => absurd z (nI_pos (by omega)), fun _ => ⟨fun z => absurd z (nI_ge (b := 8) (by omega) (by omega)), fun _ => ⟨vp_in_nI (by omega) (by omega), ?_⟩⟩⟩
  rw [nI_clamp (by omega)]
  exact hQ
theorem s_wasDragged {s : Nat} (hs : s < 32) (y : bt (τ.1 9 2) s = true → Q (some (.int 1)) τ) (no : bt (τ.1 9 2) s = false → Q (some (.int 0)) τ) : Cl (d + 1) m_Moment_wasDragged [.ref 9, .int (nI s)] τ Q := by
  rw [N_Moment_wasDragged]
  simp only [E_Moment_wasDragged, fIsA, fRt, fLen, fLit, fBool, ubit hs]
  cases c : bt (τ.1 9 2) s with
  | true => exact ⟨fun z => absurd z (by decide), fun _ => y c⟩
  | false => exact ⟨fun _ => no c, fun z => absurd rfl z⟩
theorem s_Hplank {f : Nat} (hf : f < 64) (hQ : Q (some (.int (if bitL (τ.2 9 3) f then 1 else 0))) τ) : Cl (d + 1) m_Moment_planksAt [.ref 9, .int (nI f)] τ Q := by
  rw [N_Moment_planksAt]
  simp only [E_Moment_planksAt, fIsA, fRt, fLen, fLit, fBool, ubitL hf]
  cases c : bitL (τ.2 9 3) f with
  | true => rw [c] at hQ; exact hQ
  | false => rw [c] at hQ; exact hQ
/-- ships on a field -/
def onF (τ : St) (v : Int32) (s : Nat) : Prop := τ.1 10 s = v
theorem s_HshipsAt (s : ShI τ ns) {v : Int32} (hQ : Q (some (.int (fb (onF τ v) ns 0 0))) τ) : Cl (d + 1) m_Moment_shipsAt [.ref 9, .int v] τ Q := by
  have hn := s.1
  rw [N_Moment_shipsAt]
  simp only [E_Moment_shipsAt, fIsA, fRt, fLen, fLit, fBool]
  have loop : ∀ (m i : Nat) (a : Int32), i + m = ns → Q (some (.int (fb (onF τ v) m i a))) τ → Rs M_Moment_shipsAt d Q 4 [some (.ref 9), some (.int v), some (.int a), some (.int (nI i))] [] τ := by
    intro m
    induction m with
    | zero =>
      intro i a hi hq
      obtain rfl : i = ns := by omega
      rw [Rs_eq]
      simp only [E_Moment_shipsAt, fIsA, fRt, fLen, fLit, fBool, s.2.2.1]
      exact ⟨fun _ => hq, fun q => absurd (Int32.le_refl _) q⟩
    | succ m ih =>
      intro i a hi hq
      rw [fb] at hq
      rw [Rs_eq]
      simp only [E_Moment_shipsAt, fIsA, fRt, fLen, fLit, fBool, s.2.2.1, nI_1]
      refine ⟨fun q => absurd q (nI_ge (by omega) (by omega)), fun _ => ⟨fun q => absurd q (nI_ge (b := 8) (by omega) (by omega)), fun _ => ⟨vp_in_nI (by omega) (by omega), ?_⟩⟩⟩
      rw [nI_clamp (by omega)]
      refine ⟨fun q => ?_, fun q => ?_⟩
      · rw [if_neg (show ¬ onF τ v i from q)] at hq; exact ih (i + 1) a (by omega) hq
      · rw [if_pos (show onF τ v i from q)] at hq; exact ih (i + 1) _ (by omega) hq
  exact loop ns 0 0 (by omega) hQ
def onM (τ : St) (k : Nat) (v : Int32) (s : Nat) : Prop := τ.1 k (36 + s) = v
theorem s_MshipsAt {k : Nat} (hk : k = 75 ∨ k = 76) (s : ShI τ ns) {v : Int32} (hQ : Q (some (.int (fb (onM τ k v) ns 0 0))) τ) : Cl (d + 1) m_M_shipsAt [.ref 69, .ref k, .int v] τ Q := by
  have hn := s.1
  have hl : len k = 50 ∧ isA 14 k := by rcases hk with rfl | rfl <;> simp only [fIsA, fLen, and_self]
  rw [N_M_shipsAt]
  simp only [E_M_shipsAt, fIsA, fRt, fLen, fLit, fBool]
  have loop : ∀ (m i : Nat) (a : Int32), i + m = ns → Q (some (.int (fb (onM τ k v) m i a))) τ → Rs M_M_shipsAt d Q 5 [some (.ref 69), some (.ref k), some (.int v), some (.int a), some (.int (nI i))] [] τ := by
    intro m
    induction m with
    | zero =>
      intro i a hi hq
      obtain rfl : i = ns := by omega
      rw [Rs_eq]
      simp only [E_M_shipsAt, fIsA, fRt, fLen, fLit, fBool, s.2.1]
      exact ⟨fun _ => hq, fun q => absurd (Int32.le_refl _) q⟩
    | succ m ih =>
      intro i a hi hq
      rw [fb] at hq
      have e : (36 : Int32) + nI i = nI (36 + i) := nI_add 36 i
      rw [Rs_eq]
      simp only [E_M_shipsAt, fIsA, fRt, fLen, fLit, fBool, s.2.1, nI_1, hl.1, hl.2, e, Int32.or_zero]
      refine ⟨fun q => absurd q (nI_ge (by omega) (by omega)), fun _ => ⟨vp_in_nI (by omega) (by omega), ?_⟩⟩
      rw [nI_clamp (by omega)]
      refine ⟨fun q => ?_, fun q => ?_⟩
      · rw [if_neg (show ¬ onM τ k v i from q)] at hq; exact ih (i + 1) a (by omega) hq
      · rw [if_pos (show onM τ k v i from q)] at hq; exact ih (i + 1) _ (by omega) hq
  exact loop ns 0 0 (by omega) hQ
end GR
