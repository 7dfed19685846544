/-! PAIRS: storm -/
def won (a b : Nat) : Int32 := if a = b then 0 else if b < a then 1 else -1
theorem s_wonBy {d a b : Nat} {Q : Qt} {τ : St} (ha : a < 2 ^ 31) (hb : b < 2 ^ 31) (hQ : Q (some (.int (won a b))) τ) : Cl (d + 1) m_H_wonBy [.int (nI a), .int (nI b)] τ Q := by
  rw [N_H_wonBy]
  simp only [E_H_wonBy, fIsA, fRt, fLen, fLit, fBool, nI_eq ha hb, nI_leI ha hb]
  unfold won at hQ
  refine ⟨fun c => ⟨fun c2 => ?_, fun c2 => ?_⟩, fun c => ?_⟩
  · rwa [if_neg c, if_neg (by omega)] at hQ
  · rwa [if_neg c, if_pos (by omega)] at hQ
  · rwa [if_pos c] at hQ
theorem s_wonLess {d a b : Nat} {Q : Qt} {τ : St} (ha : a < 2 ^ 31) (hb : b < 2 ^ 31) (hQ : Q (some (.int (won a b))) τ) : Cl (d + 1) m_M_wonLess [.int (nI a), .int (nI b)] τ Q := by
  rw [N_M_wonLess]
  simp only [E_M_wonLess, fIsA, fRt, fLen, fLit, fBool, nI_leI ha hb, nI_leI hb ha]
  unfold won at hQ
  refine ⟨fun c => ⟨fun c2 => ?_, fun c2 => ?_⟩, fun c => ?_⟩
  · rwa [if_pos (by omega)] at hQ
  · rwa [if_neg (by omega), if_neg (by omega)] at hQ
  · rwa [if_neg (by omega), if_pos (by omega)] at hQ
/-- how many, the most, and the first with it -/
abbrev StS := Nat × Int32 × Nat × Nat
def StS.n (s : StS) : Nat := s.1
def StS.m (s : StS) : Int32 := s.2.1
def StS.x (s : StS) : Nat := s.2.2.1
def StS.y (s : StS) : Nat := s.2.2.2
def sco (a b x y : Nat) : Int32 := won x a + won y b + won (a + b) (x + y)
def ssS (a b : Nat) (s : StS) (x y : Nat) : StS := if s.m < sco a b x y then ⟨1, sco a b x y, x, y⟩ else if sco a b x y = s.m then ⟨s.n + 1, s.m, s.x, s.y⟩ else s
def ssY (a b x : Nat) : Nat → Nat → StS → StS
  | 0, _, s => s
  | m + 1, y, s => ssY a b x m (y + 1) (ssS a b s x y)
def ssX (a b : Nat) : Nat → Nat → StS → StS
  | 0, _, s => s
  | m + 1, x, s => ssX a b m (x + 1) (ssY a b x (7 - x) 0 s)
theorem ssY_le (a b x : Nat) : ∀ m y s, (ssY a b x m y s).n ≤ s.n + m
  | 0, _, s => Nat.le_refl _
  | m + 1, y, s => by
    refine Nat.le_trans (ssY_le a b x m (y + 1) _) ?_
    unfold ssS
    split
    · show 1 + m ≤ _; omega
    · split
      · show s.n + 1 + m ≤ _; omega
      · omega
theorem won_six {a b x y : Nat} (h1 : a + b ≤ 6) (h2 : x + y ≤ 6) : won (6 - x - y) (6 - a - b) = won (a + b) (x + y) := by
  unfold won
  repeat' split
  all_goals first | rfl | (exfalso; omega)
theorem s_HstormY {d a b x : Nat} {Q : Qt} {τ : St} (hab : a + b ≤ 6) : ∀ (m y : Nat), x + y + m = 7 → x ≤ 6 → ∀ (s : StS) (u : Option Value), s.n + m ≤ 1000 →
    (∀ (u u' : Option Value), Rs M_H_storm (d + 1) Q 39 [some (.ref 0), some (.int (nI a)), some (.int (nI b)), some (.int (nI (ssY a b x m y s).n)), some (.int (ssY a b x m y s).m), some (.int (nI (ssY a b x m y s).x)), some (.int (nI (ssY a b x m y s).y)), some (.int (nI (x + 1))), u, u'] [] τ) →
    Rs M_H_storm (d + 1) Q 49 [some (.ref 0), some (.int (nI a)), some (.int (nI b)), some (.int (nI s.n)), some (.int s.m), some (.int (nI s.x)), some (.int (nI s.y)), some (.int (nI x)), some (.int (nI y)), u] [] τ
  | 0, y, hy, hx, s, u, hs, hQ => by
    rw [Rs_eq]
    have e6 : (6 : Int32) - nI x = nI (6 - x) := pk_sub (a := 6) hx
    simp only [E_H_storm, fIsA, fRt, fLen, fLit, fBool, nI_1, e6]
    exact ⟨fun _ => hQ _ _, fun q => absurd (nI_lt (by omega) (by omega)) q⟩
  | m + 1, y, hy, hx, s, u, hs, hQ => by
    rw [Rs_eq]
    have e6 : (6 : Int32) - nI x = nI (6 - x) := pk_sub (a := 6) hx
    simp only [E_H_storm, fIsA, fRt, fLen, fLit, fBool, nI_1, e6]
    refine ⟨fun q => absurd q (nI_nlt (by omega) (by omega)), fun _ => ?_⟩
    refine s_wonBy (by omega) (by omega) ?_
    simp only [oT, E_H_storm, fIsA, fRt, fLen, fLit, fBool]
    refine s_wonBy (by omega) (by omega) ?_
    simp only [oT, E_H_storm, fIsA, fRt, fLen, fLit, fBool, nI_add]
    refine s_wonBy (by omega) (by omega) ?_
    simp only [oT, E_H_storm, fIsA, fRt, fLen, fLit, fBool, nI_1]
    have go : ∀ u, Rs M_H_storm (d + 1) Q 49 [some (.ref 0), some (.int (nI a)), some (.int (nI b)), some (.int (nI (ssS a b s x y).n)), some (.int (ssS a b s x y).m), some (.int (nI (ssS a b s x y).x)), some (.int (nI (ssS a b s x y).y)), some (.int (nI x)), some (.int (nI (y + 1))), u] [] τ := fun u => by
      refine s_HstormY hab m (y + 1) (by omega) hx (ssS a b s x y) u ?_ hQ
      unfold ssS
      split
      · show 1 + m ≤ 1000; omega
      · split
        · show s.n + 1 + m ≤ 1000; omega
        · omega
    have e : won x a + won y b + won (a + b) (x + y) = sco a b x y := rfl
    rw [e]
    unfold ssS at go
    refine ⟨fun q => ⟨fun q2 => ?_, fun q2 => ?_⟩, fun q => ?_⟩
    · rw [if_neg (Int32.not_lt.mpr q), if_neg q2] at go; exact go _
    · rw [if_neg (Int32.not_lt.mpr q), if_pos q2] at go
      rw [q2]; exact go _
    · rw [if_pos (Int32.not_le.mp q)] at go; exact go _
theorem s_HstormX {d a b : Nat} {Q : Qt} {τ : St} (hab : a + b ≤ 6) : ∀ (m x : Nat), x + m = 7 → ∀ (s : StS) (u u' : Option Value), s.n + 7 * m ≤ 1000 →
    (∀ τ', τ' = sI (sL (sI (sL (sI (sL (sI τ 3 1 0) 4 0 (nI (ssX a b m x s).x).toInt64) 3 1 1) 4 1 (nI (ssX a b m x s).y).toInt64) 3 1 2) 4 2 (ssX a b m x s).m.toInt64) 3 1 3 → Q (some (.int (nI (ssX a b m x s).n))) τ') →
    Rs M_H_storm (d + 2) Q 39 [some (.ref 0), some (.int (nI a)), some (.int (nI b)), some (.int (nI s.n)), some (.int s.m), some (.int (nI s.x)), some (.int (nI s.y)), some (.int (nI x)), u, u'] [] τ
  | 0, x, hx, s, u, u', hs, hQ => by
    obtain rfl : x = 7 := by omega
    rw [Rs_eq]
    simp only [E_H_storm, fIsA, fRt, fLen, fLit, fBool, nI_1]
    refine ⟨fun _ => ?_, fun q => absurd (by decide) q⟩
    refine s_RowBoth ?_
    simp only [oN, E_H_storm, fIsA, fRt, fLen, fLit, fBool, nI_1]
    refine s_RowAdd (n := 2) rfl (by omega) ?_
    simp only [oN, E_H_storm, fIsA, fRt, fLen, fLit, fBool, nI_1]
    exact hQ _ rfl
  | m + 1, x, hx, s, u, u', hs, hQ => by
    rw [Rs_eq]
    simp only [E_H_storm, fIsA, fRt, fLen, fLit, fBool, nI_1]
    refine ⟨fun q => absurd q (nI_nlt (a := 6) (by omega) (by omega)), fun _ => ?_⟩
    exact s_HstormY hab (7 - x) 0 (by omega) (by omega) s _ (by omega) (fun u u' => s_HstormX hab m (x + 1) (by omega) _ u u' (by have := ssY_le a b x (7 - x) 0 s; omega) hQ)
theorem s_MstormY {d a b x : Nat} {Q : Qt} {τ : St} (hab : a + b ≤ 6) : ∀ (m y : Nat), x + y + m = 7 → x ≤ 6 → ∀ (s : StS) (u : Option Value), s.n + m ≤ 1000 →
    (∀ (u u' : Option Value), Rs M_M_storm (d + 1) Q 50 [some (.ref 69), some (.int (nI a)), some (.int (nI b)), some (.int (nI (ssY a b x m y s).n)), some (.int (ssY a b x m y s).m), some (.int (nI (ssY a b x m y s).x)), some (.int (nI (ssY a b x m y s).y)), some (.int (nI (x + 1))), u, u'] [] τ) →
    Rs M_M_storm (d + 1) Q 60 [some (.ref 69), some (.int (nI a)), some (.int (nI b)), some (.int (nI s.n)), some (.int s.m), some (.int (nI s.x)), some (.int (nI s.y)), some (.int (nI x)), some (.int (nI y)), u] [] τ
  | 0, y, hy, hx, s, u, hs, hQ => by
    rw [Rs_eq]
    simp only [E_M_storm, fIsA, fRt, fLen, fLit, fBool, nI_1, nI_add]
    exact ⟨fun _ => hQ _ _, fun q => absurd (nI_lt (a := 6) (by omega) (by omega)) q⟩
  | m + 1, y, hy, hx, s, u, hs, hQ => by
    rw [Rs_eq]
    simp only [E_M_storm, fIsA, fRt, fLen, fLit, fBool, nI_1, nI_add]
    refine ⟨fun q => absurd q (nI_nlt (a := 6) (by omega) (by omega)), fun _ => ?_⟩
    refine s_wonLess (by omega) (by omega) ?_
    simp only [oT, E_M_storm, fIsA, fRt, fLen, fLit, fBool]
    refine s_wonLess (by omega) (by omega) ?_
    have e1 : (6 : Int32) - nI x - nI y = nI (6 - x - y) := by rw [show (6 : Int32) - nI x = nI (6 - x) from pk_sub (a := 6) (by omega)]; exact pk_sub (by omega)
    have e2 : (6 : Int32) - nI a - nI b = nI (6 - a - b) := by rw [show (6 : Int32) - nI a = nI (6 - a) from pk_sub (a := 6) (by omega)]; exact pk_sub (by omega)
    simp only [oT, E_M_storm, fIsA, fRt, fLen, fLit, fBool, e1, e2]
    refine s_wonLess (by omega) (by omega) ?_
    simp only [oT, E_M_storm, fIsA, fRt, fLen, fLit, fBool, nI_1]
    rw [won_six hab (by omega)]
    have go : ∀ u, Rs M_M_storm (d + 1) Q 60 [some (.ref 69), some (.int (nI a)), some (.int (nI b)), some (.int (nI (ssS a b s x y).n)), some (.int (ssS a b s x y).m), some (.int (nI (ssS a b s x y).x)), some (.int (nI (ssS a b s x y).y)), some (.int (nI x)), some (.int (nI (y + 1))), u] [] τ := fun u => by
      refine s_MstormY hab m (y + 1) (by omega) hx (ssS a b s x y) u ?_ hQ
      unfold ssS
      split
      · show 1 + m ≤ 1000; omega
      · split
        · show s.n + 1 + m ≤ 1000; omega
        · omega
    have e : won x a + won y b + won (a + b) (x + y) = sco a b x y := rfl
    rw [e]
    unfold ssS at go
    refine ⟨fun q => ⟨fun q2 => ?_, fun q2 => ?_⟩, fun q => ?_⟩
    · rw [if_neg (Int32.not_lt.mpr q), if_neg q2] at go
      refine s_flag (Or.inl rfl) ?_
      simp only [oT, E_M_storm, fIsA, fRt, fLen, fLit, fBool, nI_1, nI_z]
      exact go _
    · rw [if_neg (Int32.not_lt.mpr q), if_pos q2] at go
      refine s_flag (Or.inr rfl) ?_
      simp only [oT, E_M_storm, fIsA, fRt, fLen, fLit, fBool, nI_1]
      rw [q2]; exact go _
    · rw [if_pos (Int32.not_le.mp q)] at go
      refine s_flag (Or.inr rfl) ?_
      simp only [oT, E_M_storm, fIsA, fRt, fLen, fLit, fBool, nI_1]
      exact go _
theorem s_MstormX {d a b : Nat} {Q : Qt} {τ : St} (hab : a + b ≤ 6) : ∀ (m x : Nat), x + m = 7 → ∀ (s : StS) (u u' : Option Value), s.n + 7 * m ≤ 1000 →
    (∀ τ', τ' = sI (sL (sI (sL (sI (sL (sI τ 69 1 0) 70 0 (nI (ssX a b m x s).x).toInt64) 69 1 1) 70 1 (nI (ssX a b m x s).y).toInt64) 69 1 2) 70 2 (ssX a b m x s).m.toInt64) 69 1 3 → Q (some (.int (nI (ssX a b m x s).n))) τ') →
    Rs M_M_storm (d + 2) Q 50 [some (.ref 69), some (.int (nI a)), some (.int (nI b)), some (.int (nI s.n)), some (.int s.m), some (.int (nI s.x)), some (.int (nI s.y)), some (.int (nI x)), u, u'] [] τ
  | 0, x, hx, s, u, u', hs, hQ => by
    obtain rfl : x = 7 := by omega
    rw [Rs_eq]
    simp only [E_M_storm, fIsA, fRt, fLen, fLit, fBool, nI_1]
    refine ⟨fun _ => ?_, fun q => absurd (by decide) q⟩
    refine s_Menters (n := 0) rfl (by omega) ?_
    simp only [oN, E_M_storm, fIsA, fRt, fLen, fLit, fBool, nI_1]
    refine s_Menters (n := 1) rfl (by omega) ?_
    simp only [oN, E_M_storm, fIsA, fRt, fLen, fLit, fBool, nI_1]
    refine s_Menters (n := 2) rfl (by omega) ?_
    simp only [oN, E_M_storm, fIsA, fRt, fLen, fLit, fBool, nI_1]
    exact hQ _ rfl
  | m + 1, x, hx, s, u, u', hs, hQ => by
    rw [Rs_eq]
    simp only [E_M_storm, fIsA, fRt, fLen, fLit, fBool, nI_1]
    refine ⟨fun q => absurd q (nI_nlt (a := 6) (by omega) (by omega)), fun _ => ?_⟩
    exact s_MstormY hab (7 - x) 0 (by omega) (by omega) s _ (by omega) (fun u u' => s_MstormX hab m (x + 1) (by omega) _ u u' (by have := ssY_le a b x (7 - x) 0 s; omega) hQ)
theorem p_storm (t : Nat) (x y : Int32) : PrI t m_H_storm m_M_storm [.int x, .int y] := by
  intro ht0 τ h
  obtain ⟨R, C, kd, ht, ns, n, hA, hT, hR⟩ := h
  rw [N_H_storm]
  simp only [E_H_storm, fIsA, fRt, fLen, fLit, fBool]
  have fin := ok rfl (hA.inv3 hT hR (fr690 (v := 0)) rfl) (x := -1)
  have no : (0 ≤ x → 0 ≤ y → x ≤ nI 6 → y ≤ nI 6 → ¬ x + y ≤ 6) → Cl 900 m_M_storm [Value.ref 69, Value.int x, Value.int y] τ fun b τ2 => (∃ x, some (Value.int (-1)) = some (Value.int x) ∧ b = some (Value.int x)) ∧ Inv (t + 1) τ2 := fun q => by
    rw [N_M_storm]
    simp only [E_M_storm, fIsA, fRt, fLen, fLit, fBool, sI_1, reduceIte, Nat.reduceEqDiff]
    exact ⟨fun _ => fin, fun z1 => ⟨fun _ => fin, fun z2 => ⟨fun _ => fin, fun z3 => ⟨fun _ => fin, fun z4 => ⟨fun z5 => absurd z5 (q (Int32.not_lt.mp z1) (Int32.not_lt.mp z2) (Int32.not_lt.mp z3) (Int32.not_lt.mp z4)), fun _ => fin⟩⟩⟩⟩⟩
  refine ⟨fun z => no (fun q => absurd z (nlt q)), fun z1 => ⟨fun z => no (fun _ q => absurd z (nlt q)), fun z2 => ⟨fun z => no (fun _ _ q => absurd z (nlt q)), fun z3 => ?_⟩⟩⟩
  obtain ⟨a, ha, rfl⟩ := of0 (n := 6) (Int32.not_lt.mp z1) (Int32.not_lt.mp z3) (by omega)
  have e6 : (6 : Int32) - nI a = nI (6 - a) := pk_sub (a := 6) ha
  rw [e6]
  refine ⟨fun z4 => ?_, fun z4 => no (fun _ q1 _ q2 q3 => ?_)⟩
  · obtain ⟨b, hb, rfl⟩ := of0 (Int32.not_lt.mp z2) z4 (by omega)
    have hab : a + b ≤ 6 := by omega
    refine s_HstormX hab 7 0 rfl ⟨0, -4, 0, 0⟩ _ _ (by decide) (fun τ1 h1 => ?_)
    obtain ⟨s', hs'⟩ : ∃ s', s' = ssX a b 7 0 ⟨0, -4, 0, 0⟩ := ⟨_, rfl⟩
    rw [← hs'] at h1 ⊢
    rw [N_M_storm]
    simp only [E_M_storm, fIsA, fRt, fLen, fLit, fBool, sI_1, reduceIte, Nat.reduceEqDiff]
    refine ⟨fun z => absurd z z1, fun _ => ⟨fun z => absurd z z2, fun _ => ⟨fun z => absurd z z3, fun _ => ⟨fun z => absurd z (nI_nlt (a := 6) (by omega) (by omega)), fun _ => ⟨fun _ => ?_, fun z => absurd (by rw [nI_add]; exact nI_le (b := 6) hab (by omega)) z⟩⟩⟩⟩⟩
    refine s_MstormX hab 7 0 rfl ⟨0, -4, 0, 0⟩ _ _ (by decide) (fun τ2 h2 => ?_)
    rw [← hs'] at h2 ⊢
    refine ok rfl ?_
    have f3 : Fr [4, 70] [(3, 1), (69, 0), (69, 1)] τ τ2 := by
      rw [h2, h1]
      exact (((((((((((((((Fr.rf.i rfl).lc rfl).i rfl).lc rfl).i rfl).lc rfl).i rfl).i rfl).i rfl).lc rfl).i rfl).lc rfl).i rfl).lc rfl).i rfl)
    refine hA.inv f3 rfl (hT.fr f3 rfl) ⟨3, by omega, ?_, ?_, fun j hj => ?_⟩
    · rw [h2, h1]; rfl
    · rw [h2]; rfl
    · rw [h2, h1]
      rcases (show j = 0 ∨ j = 1 ∨ j = 2 by omega) with rfl | rfl | rfl <;> simp only [sL_2, sI_2, reduceIte, Nat.reduceEqDiff]
  · obtain ⟨b, hb, rfl⟩ := of0 (n := 6) q1 q2 (by omega)
    rw [nI_add] at q3
    have q3 := (nI_leI (b := 6) (by omega) (by omega)).mp q3
    exact z4 (nI_le (by omega) (by omega))
