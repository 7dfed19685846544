/-! PAIRS: field, ship, row, where they don't throw; where they do, the reference -/
/-- a call that may throw: where it doesn't (P), the same answer; where it does, the reference says so -/
def PrT (t m1 m2 : Nat) (as : List Value) (P : St → Prop) : Prop := t < 200000 → ∀ τ, Inv t τ → (P τ → Cl 900 m1 (.ref 0 :: as) τ (fun a τ1 => Cl 900 m2 (.ref 69 :: as) τ1 (fun b τ2 => ((∃ x : Int32, a = some (.int x) ∧ b = some (.int x)) ∨ ∃ x : Int64, a = some (.long x) ∧ b = some (.long x)) ∧ τ2.1 69 0 = 0 ∧ Inv (t + 1) τ2))) ∧
  (¬ P τ → Cl 900 m2 (.ref 69 :: as) τ (fun b τ2 => (∃ x : Value, b = some x) ∧ τ2.1 69 0 = 1 ∧ Inv (t + 1) τ2))
theorem okT2 {t : Nat} {x y : Int32} {τ : St} (e : x = y) (h0 : τ.1 69 0 = 0) (h : Inv (t + 1) τ) : ((∃ z : Int32, some (Value.int x) = some (.int z) ∧ some (Value.int y) = some (.int z)) ∨ ∃ z : Int64, some (Value.int x) = some (.long z) ∧ some (Value.int y) = some (.long z)) ∧ τ.1 69 0 = 0 ∧ Inv (t + 1) τ := ⟨Or.inl ⟨x, rfl, by rw [e]⟩, h0, h⟩
def in4 (y : Int32) : Prop := y = 0 ∨ y = 1 ∨ y = 2 ∨ y = 3
theorem in4_iff (y : Int32) : in4 y ↔ 0 ≤ y ∧ y ≤ nI 3 := by
  constructor
  · rintro (rfl | rfl | rfl | rfl) <;> exact ⟨by decide, by decide⟩
  · intro h
    obtain ⟨k, hk, rfl⟩ := of0 (n := 3) h.1 h.2 (by omega)
    rcases (show k = 0 ∨ k = 1 ∨ k = 2 ∨ k = 3 by omega) with rfl | rfl | rfl | rfl
    · exact Or.inl rfl
    · exact Or.inr (Or.inl rfl)
    · exact Or.inr (Or.inr (Or.inl rfl))
    · exact Or.inr (Or.inr (Or.inr rfl))
theorem s_refuse {d : Nat} {Q : Qt} {τ : St} (hQ : Q (some (.int 0)) (sI τ 69 0 1)) : Cl (d + 1) m_M_refuse [.ref 69] τ Q := by
  rw [N_M_refuse]
  simp only [E_M_refuse, fIsA, fRt, fLen, fLit, fBool]
  exact hQ
def swF1 : List (Int32 × Nat) := [(0, 52), (1, 61), (2, 70), (3, 79)]
def swF2 : List (Int32 × Nat) := [(0, 56), (1, 63), (2, 70)]
def swS1 : List (Int32 × Nat) := [(0, 48), (1, 55), (2, 64), (3, 81)]
def swS2 : List (Int32 × Nat) := [(0, 56), (1, 63), (2, 73)]
theorem p_field (t : Nat) (x y : Int32) : PrT t m_H_field m_M_field [.int x, .int y] (fun τ => (0 ≤ x ∧ x < τ.1 5 2) ∧ in4 y) := by
  intro ht0 τ h
  obtain ⟨R, C, kd, ht, ns, n, hA, hT, hR⟩ := h
  have ⟨a, b, c, d, e, f, g, i, j⟩ := hA
  have hn36 := a.n36.1
  have fin : Inv (t + 1) (sI τ 69 0 0) := hA.inv3 hT hR (fr690 (v := 0)) rfl
  have a0 : GI (sI τ 69 0 0) R C kd ht := a.fr (fr690 (v := 0)) rfl
  have b0 : ShI (sI τ 69 0 0) ns := b.fr (fr690 (v := 0)) rfl
  refine ⟨fun hP => ?_, fun hP => ?_⟩
  · have hP : (0 ≤ x ∧ x < nI (R * C)) ∧ in4 y := by
      have h' : (0 ≤ x ∧ x < τ.1 5 2) ∧ in4 y := hP
      rw [a.2.1.2.2.1] at h'
      exact h'
    obtain ⟨ff, hf0, rfl⟩ := nI_of (Int32.not_lt.mpr hP.1.1)
    have hf : ff < R * C := (nI_ltI hf0 (by omega)).mp hP.1.2
    have k3 := a.2.2.1 ff hf
    have kq := k3.1
    rw [N_H_field]
    simp only [E_H_field, fIsA, fRt, fLen, fLit, fBool]
    refine s_Ghas a (fun f' _ _ => ?_) (fun z => absurd hP.1 z)
    simp only [oT, E_H_field, fIsA, fRt, fLen, fLit, fBool]
    -- the reference, up to the choice
    have ref : ∀ (yy : Int32) (Q : Qt), in4 yy → (∀ K, K = Ru M_M_field 899 Q 31 [some (.ref 69), some (.int (nI ff)), some (.int yy)] [.int yy] (sI τ 69 0 0) → K) → Cl 900 m_M_field [.ref 69, .int (nI ff), .int yy] τ Q := fun yy Q hy hK => by
      have r := (in4_iff yy).mp hy
      rw [N_M_field]
      simp only [E_M_field, fIsA, fRt, fLen, fLit, fBool]
      refine s_MisField a0 (fun f' _ _ => ?_) (fun z => absurd hP.1 z)
      simp only [oT, E_M_field, fIsA, fRt, fLen, fLit, fBool]
      refine s_inI 0 rfl (nI 3) rfl (fun _ _ => ?_) (fun z => absurd r z)
      have := hK _ rfl
      simp only [oT, E_M_field, fIsA, fRt, fLen, fLit, fBool] at this ⊢
      exact this
    rcases hP.2 with rfl | rfl | rfl | rfl
    · refine ⟨fun q hq hx => ?_, fun z => absurd rfl (z (0, 52) (by decide))⟩
      have hp : q.2 = 52 := (by decide : ∀ q ∈ swF1, (0 : Int32) = q.1 → q.2 = 52) q hq hx
      rw [hp]
      simp only [oT, E_H_field, fIsA, fRt, fLen, fLit, fBool]
      refine s_Gkind a hf ?_
      simp only [oT, E_H_field, fIsA, fRt, fLen, fLit, fBool]
      refine ref 0 _ (Or.inl rfl) (fun K hK => ?_)
      rw [hK]
      simp only [E_M_field, fIsA, fRt, fLen, fLit, fBool]
      refine ⟨fun q hq hx => ?_, fun z => absurd rfl (z (0, 56) (by decide))⟩
      have hp : q.2 = 56 := (by decide : ∀ q ∈ swF2, (0 : Int32) = q.1 → q.2 = 56) q hq hx
      rw [hp]
      simp only [E_M_field, fIsA, fRt, fLen, fLit, fBool, nI_clamp (show ff < 2 ^ 31 by omega)]
      exact ⟨vp_in_nI (by omega) (by omega), okT2 k3.2.1.symm rfl fin⟩
    · refine ⟨fun q hq hx => ?_, fun z => absurd rfl (z (1, 61) (by decide))⟩
      have hp : q.2 = 61 := (by decide : ∀ q ∈ swF1, (1 : Int32) = q.1 → q.2 = 61) q hq hx
      rw [hp]
      simp only [oT, E_H_field, fIsA, fRt, fLen, fLit, fBool]
      refine s_Gheight a hf ?_
      simp only [oT, E_H_field, fIsA, fRt, fLen, fLit, fBool]
      refine ref 1 _ (Or.inr (Or.inl rfl)) (fun K hK => ?_)
      rw [hK]
      simp only [E_M_field, fIsA, fRt, fLen, fLit, fBool]
      refine ⟨fun q hq hx => ?_, fun z => absurd rfl (z (1, 63) (by decide))⟩
      have hp : q.2 = 63 := (by decide : ∀ q ∈ swF2, (1 : Int32) = q.1 → q.2 = 63) q hq hx
      rw [hp]
      simp only [E_M_field, fIsA, fRt, fLen, fLit, fBool, nI_clamp (show ff < 2 ^ 31 by omega)]
      exact ⟨vp_in_nI (by omega) (by omega), okT2 k3.2.2.1.symm rfl fin⟩
    · refine ⟨fun q hq hx => ?_, fun z => absurd rfl (z (2, 70) (by decide))⟩
      have hp : q.2 = 70 := (by decide : ∀ q ∈ swF1, (2 : Int32) = q.1 → q.2 = 70) q hq hx
      rw [hp]
      simp only [oT, E_H_field, fIsA, fRt, fLen, fLit, fBool]
      refine s_Hplank (f := ff) (by omega) ?_
      simp only [oT, E_H_field, fIsA, fRt, fLen, fLit, fBool]
      refine ref 2 _ (Or.inr (Or.inr (Or.inl rfl))) (fun K hK => ?_)
      rw [hK]
      simp only [E_M_field, fIsA, fRt, fLen, fLit, fBool]
      refine ⟨fun q hq hx => ?_, fun z => absurd rfl (z (2, 70) (by decide))⟩
      have hp : q.2 = 70 := (by decide : ∀ q ∈ swF2, (2 : Int32) = q.1 → q.2 = 70) q hq hx
      rw [hp]
      simp only [E_M_field, fIsA, fRt, fLen, fLit, fBool, nI_clamp (show ff < 2 ^ 31 by omega)]
      exact ⟨vp_in_nI (by omega) (by omega), okT2 (c.2.2.1 ff (by omega)).symm rfl fin⟩
    · refine ⟨fun q hq hx => ?_, fun z => absurd rfl (z (3, 79) (by decide))⟩
      have hp : q.2 = 79 := (by decide : ∀ q ∈ swF1, (3 : Int32) = q.1 → q.2 = 79) q hq hx
      rw [hp]
      simp only [oT, E_H_field, fIsA, fRt, fLen, fLit, fBool]
      refine s_HshipsAt b ?_
      simp only [oT, E_H_field, fIsA, fRt, fLen, fLit, fBool]
      refine ref 3 _ (Or.inr (Or.inr (Or.inr rfl))) (fun K hK => ?_)
      rw [hK]
      simp only [E_M_field, fIsA, fRt, fLen, fLit, fBool]
      refine ⟨fun q hq hx => absurd hx ((by decide : ∀ q ∈ swF2, ¬ (3 : Int32) = q.1) q hq), fun _ => ?_⟩
      refine s_MshipsAt (Or.inl rfl) b0 ?_
      simp only [oT, E_M_field, fIsA, fRt, fLen, fLit, fBool]
      refine okT2 (fb_cg ns 0 0 (fun k _ hk => ?_)) rfl fin
      have := b.1
      unfold onF onM
      rw [show τ.1 10 k = τ.1 75 (36 + k) from (c.1 k (by omega)).1]
      exact Iff.rfl
  · have hP : ¬ ((0 ≤ x ∧ x < nI (R * C)) ∧ in4 y) := by
      have h' : ¬ ((0 ≤ x ∧ x < τ.1 5 2) ∧ in4 y) := hP
      rw [a.2.1.2.2.1] at h'
      exact h'
    have fin1 : Inv (t + 1) (sI (sI τ 69 0 0) 69 0 1) := hA.inv3 hT hR (cs := []) (fs := [(69, 0)]) ((Fr.rf.i rfl).i rfl) rfl
    rw [N_M_field]
    simp only [E_M_field, fIsA, fRt, fLen, fLit, fBool]
    refine s_MisField a0 (fun f' hf' ef => ?_) (fun z => ?_)
    · simp only [oT, E_M_field, fIsA, fRt, fLen, fLit, fBool]
      refine s_inI 0 rfl (nI 3) rfl (fun c1 c2 => ?_) (fun z => ?_)
      · exact absurd ⟨⟨by rw [ef]; exact nI_pos' (by omega), by rw [ef]; exact nI_lt hf' (by omega)⟩, (in4_iff y).mpr ⟨c1, c2⟩⟩ hP
      · simp only [oT, E_M_field, fIsA, fRt, fLen, fLit, fBool]
        refine s_refuse ?_
        simp only [oT, E_M_field, fIsA, fRt, fLen, fLit, fBool]
        exact ⟨⟨_, rfl⟩, rfl, fin1⟩
    · simp only [oT, E_M_field, fIsA, fRt, fLen, fLit, fBool]
      refine s_refuse ?_
      simp only [oT, E_M_field, fIsA, fRt, fLen, fLit, fBool]
      exact ⟨⟨_, rfl⟩, rfl, fin1⟩
theorem p_row (t : Nat) (x : Int32) : PrT t m_H_row m_M_row [.int x] (fun τ => 0 ≤ x ∧ x < τ.1 3 1) := by
  intro ht0 τ h
  obtain ⟨R, C, kd, ht, ns, n, hA, hT, hR⟩ := h
  have fin : Inv (t + 1) (sI τ 69 0 0) := hA.inv3 hT hR (fr690 (v := 0)) rfl
  obtain ⟨rn, r1, r2, r3, r4⟩ := hR
  have r3' : (sI τ 69 0 0).1 69 1 = nI rn := r3
  have e1 : ∀ v : Int32, v ≤ nI rn - 1 ↔ v < nI rn := fun v => le_pred (by omega)
  refine ⟨fun hP => ?_, fun hP => ?_⟩
  · have hP : 0 ≤ x ∧ x < nI rn := by
      have h' : 0 ≤ x ∧ x < τ.1 3 1 := hP
      rw [r2] at h'
      exact h'
    obtain ⟨k, hk0, rfl⟩ := nI_of (Int32.not_lt.mpr hP.1)
    have hk : k < rn := (nI_ltI hk0 (by omega)).mp hP.2
    have has : ∀ (D : Nat) (Q : Qt), Q (some (.int 1)) τ → Cl (D + 1) m_Row_has [.ref 3, .int (nI k)] τ Q := fun D Q q => by
      rw [N_Row_has]
      simp only [E_Row_has, fIsA, fRt, fLen, fLit, fBool, r2]
      exact ⟨fun z => absurd z (nI_pos (by omega)), fun _ => ⟨fun z => absurd z (nI_ge (by omega) (by omega)), fun _ => ⟨fun z => absurd z (nI_ge (b := 36) (by omega) (by omega)), fun _ => q⟩⟩⟩
    rw [N_H_row]
    simp only [E_H_row, fIsA, fRt, fLen, fLit, fBool]
    refine has _ _ ?_
    simp only [oT, E_H_row, fIsA, fRt, fLen, fLit, fBool]
    rw [N_Row_at]
    simp only [E_Row_at, fIsA, fRt, fLen, fLit, fBool]
    refine has _ _ ?_
    simp only [oT, E_Row_at, E_H_row, fIsA, fRt, fLen, fLit, fBool, nI_clamp (show k < 2 ^ 31 by omega)]
    refine ⟨vp_in_nI (by omega) (by omega), ?_⟩
    rw [N_M_row]
    simp only [E_M_row, fIsA, fRt, fLen, fLit, fBool, r3']
    refine s_inI 0 rfl (nI rn - 1) rfl (fun _ _ => ?_) (fun z => absurd ⟨hP.1, (e1 _).mpr hP.2⟩ z)
    simp only [oT, E_M_row, fIsA, fRt, fLen, fLit, fBool, nI_clamp (show k < 2 ^ 31 by omega)]
    refine ⟨vp_in_nI (by omega) (by omega), Or.inr ⟨_, rfl, ?_⟩, rfl, fin⟩
    rw [r4 k hk]
    rfl
  · have hP : ¬ (0 ≤ x ∧ x < nI rn) := by
      have h' : ¬ (0 ≤ x ∧ x < τ.1 3 1) := hP
      rw [r2] at h'
      exact h'
    have fin1 : Inv (t + 1) (sI (sI τ 69 0 0) 69 0 1) := hA.inv3 hT ⟨rn, r1, r2, r3, r4⟩ (cs := []) (fs := [(69, 0)]) ((Fr.rf.i rfl).i rfl) rfl
    rw [N_M_row]
    simp only [E_M_row, fIsA, fRt, fLen, fLit, fBool, r3']
    refine s_inI 0 rfl (nI rn - 1) rfl (fun c1 c2 => absurd ⟨c1, (e1 _).mp c2⟩ hP) (fun z => ?_)
    simp only [oT, E_M_row, fIsA, fRt, fLen, fLit, fBool]
    exact ⟨⟨_, rfl⟩, rfl, fin1⟩
