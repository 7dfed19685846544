/-! PAIRS: field, ship, row where they don't throw, the law's own long cell written between the two -/
def PrV (t m1 m2 : Nat) (as : List Value) (P : St → Prop) : Prop := t < 200000 → ∀ τ, Inv t τ → P τ → Cl 900 m1 (.ref 0 :: as) τ (fun a τ1 => (∃ x : Int32, a = some (.int x)) ∧ ∀ v : Int64, Cl 900 m2 (.ref 69 :: as) (sL τ1 101 0 v) (fun b τ2 => (∃ x : Int32, a = some (.int x) ∧ b = some (.int x)) ∧ τ2.1 69 0 = 0 ∧ τ2.2 101 0 = v ∧ Inv (t + 1) τ2))
theorem okV {t : Nat} {x y : Int32} {τ : St} {v : Int64} (e : x = y) (h0 : τ.1 69 0 = 0) (h1 : τ.2 101 0 = v) (h : Inv (t + 1) τ) : (∃ z : Int32, some (Value.int x) = some (.int z) ∧ some (Value.int y) = some (.int z)) ∧ τ.1 69 0 = 0 ∧ τ.2 101 0 = v ∧ Inv (t + 1) τ := ⟨⟨y, by rw [e], rfl⟩, h0, h1, h⟩
theorem frv {τ : St} (v : Int64) : Fr [101] [(69, 0)] τ (sI (sL τ 101 0 v) 69 0 0) := by
  intro k j h1 h2
  have hk : k ≠ 101 := fun z => h1 (by rw [z]; exact List.mem_cons_self)
  have hj : ¬ (k = 69 ∧ j = 0) := fun z => h2 (by rw [z.1, z.2]; exact List.mem_cons_self)
  refine ⟨?_, ?_⟩
  · show (if k = 69 then (if j = 0 then 0 else τ.1 k j) else τ.1 k j) = τ.1 k j
    by_cases c : k = 69
    · rw [if_pos c, if_neg (fun z => hj ⟨c, z⟩)]
    · rw [if_neg c]
  · show (if k = 101 then (if j = 0 then v else τ.2 k j) else τ.2 k j) = τ.2 k j
    rw [if_neg hk]
theorem v_field (t : Nat) (x y : Int32) : PrV t m_H_field m_M_field [.int x, .int y] (fun τ => (0 ≤ x ∧ x < τ.1 5 2) ∧ in4 y) := by
  intro ht0 τ h hP
  obtain ⟨R, C, kd, ht, ns, n, hA, hT, hR⟩ := h
  have ⟨a, b, c, d, e, f, g, i, j⟩ := hA
  have hn36 := a.n36.1
  have fin : ∀ v : Int64, Inv (t + 1) (sI (sL τ 101 0 v) 69 0 0) := fun v => hA.inv3 hT hR (frv v) rfl
  have a0 : ∀ v : Int64, GI (sI (sL τ 101 0 v) 69 0 0) R C kd ht := fun v => a.fr (frv v) rfl
  have b0 : ∀ v : Int64, ShI (sI (sL τ 101 0 v) 69 0 0) ns := fun v => b.fr (frv v) rfl
  have hP : (0 ≤ x ∧ x < nI (R * C)) ∧ in4 y := by
    have h' : (0 ≤ x ∧ x < τ.1 5 2) ∧ in4 y := hP
    rw [a.2.1.2.2.1] at h'
    exact h'
  obtain ⟨ff, hf0, rfl⟩ := nI_of (Int32.not_lt.mpr hP.1.1)
  have hf : ff < R * C := (nI_ltI hf0 (by omega)).mp hP.1.2
  have k3 := a.2.2.1 ff hf
  have kq := k3.1
  rw [N_H_field]
  simp only [E_H_field, fIsA, fRt, fLen, fLit, fBool]
  refine s_Ghas a (fun f' _ _ => ?_) (fun z => absurd hP.1 z)
  simp only [oT, E_H_field, fIsA, fRt, fLen, fLit, fBool]
  -- the reference, up to the choice
  have ref : ∀ (v : Int64) (yy : Int32) (Q : Qt), in4 yy → (∀ K, K = Ru M_M_field 899 Q 31 [some (.ref 69), some (.int (nI ff)), some (.int yy)] [.int yy] (sI (sL τ 101 0 v) 69 0 0) → K) → Cl 900 m_M_field [.ref 69, .int (nI ff), .int yy] (sL τ 101 0 v) Q := fun v yy Q hy hK => by
    have r := (in4_iff yy).mp hy
    rw [N_M_field]
    simp only [E_M_field, fIsA, fRt, fLen, fLit, fBool]
    refine s_MisField (a0 v) (fun f' _ _ => ?_) (fun z => absurd hP.1 z)
    simp only [oT, E_M_field, fIsA, fRt, fLen, fLit, fBool]
    refine s_inI 0 rfl (nI 3) rfl (fun _ _ => ?_) (fun z => absurd r z)
    have := hK _ rfl
    simp only [oT, E_M_field, fIsA, fRt, fLen, fLit, fBool] at this ⊢
    exact this
  rcases hP.2 with rfl | rfl | rfl | rfl
  · refine ⟨fun q hq hx => ?_, fun z => absurd rfl (z (0, 52) (by decide))⟩
    have hp : q.2 = 52 := (by decide : ∀ q ∈ swF1, (0 : Int32) = q.1 → q.2 = 52) q hq hx
    rw [hp]
    simp only [oT, E_H_field, fIsA, fRt, fLen, fLit, fBool]
    refine s_Gkind a hf ?_
    simp only [oT, E_H_field, fIsA, fRt, fLen, fLit, fBool]
    refine ⟨⟨_, rfl⟩, fun v => ref v 0 _ (Or.inl rfl) (fun K hK => ?_)⟩
    rw [hK]
    simp only [E_M_field, fIsA, fRt, fLen, fLit, fBool]
    refine ⟨fun q hq hx => ?_, fun z => absurd rfl (z (0, 56) (by decide))⟩
    have hp : q.2 = 56 := (by decide : ∀ q ∈ swF2, (0 : Int32) = q.1 → q.2 = 56) q hq hx
    rw [hp]
    simp only [E_M_field, fIsA, fRt, fLen, fLit, fBool, nI_clamp (show ff < 2 ^ 31 by omega)]
    exact ⟨vp_in_nI (by omega) (by omega), okV k3.2.1.symm rfl rfl (fin v)⟩
  · refine ⟨fun q hq hx => ?_, fun z => absurd rfl (z (1, 61) (by decide))⟩
    have hp : q.2 = 61 := (by decide : ∀ q ∈ swF1, (1 : Int32) = q.1 → q.2 = 61) q hq hx
    rw [hp]
    simp only [oT, E_H_field, fIsA, fRt, fLen, fLit, fBool]
    refine s_Gheight a hf ?_
    simp only [oT, E_H_field, fIsA, fRt, fLen, fLit, fBool]
    refine ⟨⟨_, rfl⟩, fun v => ref v 1 _ (Or.inr (Or.inl rfl)) (fun K hK => ?_)⟩
    rw [hK]
    simp only [E_M_field, fIsA, fRt, fLen, fLit, fBool]
    refine ⟨fun q hq hx => ?_, fun z => absurd rfl (z (1, 63) (by decide))⟩
    have hp : q.2 = 63 := (by decide : ∀ q ∈ swF2, (1 : Int32) = q.1 → q.2 = 63) q hq hx
    rw [hp]
    simp only [E_M_field, fIsA, fRt, fLen, fLit, fBool, nI_clamp (show ff < 2 ^ 31 by omega)]
    exact ⟨vp_in_nI (by omega) (by omega), okV k3.2.2.1.symm rfl rfl (fin v)⟩
  · refine ⟨fun q hq hx => ?_, fun z => absurd rfl (z (2, 70) (by decide))⟩
    have hp : q.2 = 70 := (by decide : ∀ q ∈ swF1, (2 : Int32) = q.1 → q.2 = 70) q hq hx
    rw [hp]
    simp only [oT, E_H_field, fIsA, fRt, fLen, fLit, fBool]
    refine s_Hplank (f := ff) (by omega) ?_
    simp only [oT, E_H_field, fIsA, fRt, fLen, fLit, fBool]
    refine ⟨⟨_, rfl⟩, fun v => ref v 2 _ (Or.inr (Or.inr (Or.inl rfl))) (fun K hK => ?_)⟩
    rw [hK]
    simp only [E_M_field, fIsA, fRt, fLen, fLit, fBool]
    refine ⟨fun q hq hx => ?_, fun z => absurd rfl (z (2, 70) (by decide))⟩
    have hp : q.2 = 70 := (by decide : ∀ q ∈ swF2, (2 : Int32) = q.1 → q.2 = 70) q hq hx
    rw [hp]
    simp only [E_M_field, fIsA, fRt, fLen, fLit, fBool, nI_clamp (show ff < 2 ^ 31 by omega)]
    exact ⟨vp_in_nI (by omega) (by omega), okV (c.2.2.1 ff (by omega)).symm rfl rfl (fin v)⟩
  · refine ⟨fun q hq hx => ?_, fun z => absurd rfl (z (3, 79) (by decide))⟩
    have hp : q.2 = 79 := (by decide : ∀ q ∈ swF1, (3 : Int32) = q.1 → q.2 = 79) q hq hx
    rw [hp]
    simp only [oT, E_H_field, fIsA, fRt, fLen, fLit, fBool]
    refine s_HshipsAt b ?_
    simp only [oT, E_H_field, fIsA, fRt, fLen, fLit, fBool]
    refine ⟨⟨_, rfl⟩, fun v => ref v 3 _ (Or.inr (Or.inr (Or.inr rfl))) (fun K hK => ?_)⟩
    rw [hK]
    simp only [E_M_field, fIsA, fRt, fLen, fLit, fBool]
    refine ⟨fun q hq hx => absurd hx ((by decide : ∀ q ∈ swF2, ¬ (3 : Int32) = q.1) q hq), fun _ => ?_⟩
    refine s_MshipsAt (Or.inl rfl) (b0 v) ?_
    simp only [oT, E_M_field, fIsA, fRt, fLen, fLit, fBool]
    refine okV (fb_cg ns 0 0 (fun k _ hk => ?_)) rfl rfl (fin v)
    have := b.1
    unfold onF onM
    rw [show τ.1 10 k = τ.1 75 (36 + k) from (c.1 k (by omega)).1]
    exact Iff.rfl
theorem b0fix {P Q : Prop} {s : Nat} (h : P ↔ Q ∨ bt 0 s = true) : P ↔ Q ∨ false = true := by
  rw [b_0] at h
  exact h
theorem v_ship (t : Nat) (x y : Int32) : PrV t m_H_ship m_M_ship [.int x, .int y] (fun τ => (0 ≤ x ∧ x < τ.1 9 1) ∧ in4 y) := by
  intro ht0 τ h hP
  obtain ⟨R, C, kd, ht, ns, n, hA, hT, hR⟩ := h
  have ⟨a, b, c, d, e, f, g, i, j⟩ := hA
  have h8 := b.1
  have fin : ∀ v : Int64, Inv (t + 1) (sI (sL τ 101 0 v) 69 0 0) := fun v => hA.inv3 hT hR (frv v) rfl
  have a0 : ∀ v : Int64, GI (sI (sL τ 101 0 v) 69 0 0) R C kd ht := fun v => a.fr (frv v) rfl
  have b0 : ∀ v : Int64, ShI (sI (sL τ 101 0 v) 69 0 0) ns := fun v => b.fr (frv v) rfl
  have c0 : ∀ v : Int64, MoI (sI (sL τ 101 0 v) 69 0 0) 9 ns (R * C) (300 * t) kd (τ.1 75) := fun v => c.same (fun _ => rfl) (fun _ => rfl) (fun _ => rfl) (fun _ _ => rfl) (Nat.le_refl _) h8
  have hP : (0 ≤ x ∧ x < nI ns) ∧ in4 y := by
    have h' : (0 ≤ x ∧ x < τ.1 9 1) ∧ in4 y := hP
    rw [b.2.2.1] at h'
    exact h'
  obtain ⟨s, hs0, rfl⟩ := nI_of (Int32.not_lt.mpr hP.1.1)
  have hs : s < ns := (nI_ltI hs0 (by omega)).mp hP.1.2
  have e36 : (36 : Int32) + nI s = nI (36 + s) := nI_add 36 s
  rw [N_H_ship]
  simp only [E_H_ship, fIsA, fRt, fLen, fLit, fBool]
  refine s_HhasShip b (fun f' _ _ => ?_) (fun z => absurd hP.1 z)
  simp only [oT, E_H_ship, fIsA, fRt, fLen, fLit, fBool]
  have ref : ∀ (v : Int64) (yy : Int32) (Q : Qt), in4 yy → (∀ K, K = Ru M_M_ship 899 Q 31 [some (.ref 69), some (.int (nI s)), some (.int yy)] [.int yy] (sI (sL τ 101 0 v) 69 0 0) → K) → Cl 900 m_M_ship [.ref 69, .int (nI s), .int yy] (sL τ 101 0 v) Q := fun v yy Q hy hK => by
    have r := (in4_iff yy).mp hy
    rw [N_M_ship]
    simp only [E_M_ship, fIsA, fRt, fLen, fLit, fBool]
    refine s_MisShip (b0 v) (fun f' _ _ => ?_) (fun z => absurd hP.1 z)
    simp only [oT, E_M_ship, fIsA, fRt, fLen, fLit, fBool]
    refine s_inI 0 rfl (nI 3) rfl (fun _ _ => ?_) (fun z => absurd r z)
    have := hK _ rfl
    simp only [oT, E_M_ship, fIsA, fRt, fLen, fLit, fBool] at this ⊢
    exact this
  rcases hP.2 with rfl | rfl | rfl | rfl
  · refine ⟨fun q hq hx => ?_, fun z => absurd rfl (z (0, 48) (by decide))⟩
    have hp : q.2 = 48 := (by decide : ∀ q ∈ swS1, (0 : Int32) = q.1 → q.2 = 48) q hq hx
    rw [hp]
    simp only [oT, E_H_ship, fIsA, fRt, fLen, fLit, fBool]
    rw [nI_clamp (show s < 2 ^ 31 by omega)]
    refine ⟨vp_in_nI (by omega) (by omega), ?_⟩
    refine ⟨⟨_, rfl⟩, fun v => ref v 0 _ (Or.inl rfl) (fun K hK => ?_)⟩
    rw [hK]
    simp only [E_M_ship, fIsA, fRt, fLen, fLit, fBool]
    refine ⟨fun q hq hx => ?_, fun z => absurd rfl (z (0, 56) (by decide))⟩
    have hp : q.2 = 56 := (by decide : ∀ q ∈ swS2, (0 : Int32) = q.1 → q.2 = 56) q hq hx
    rw [hp]
    simp only [E_M_ship, fIsA, fRt, fLen, fLit, fBool, fIx]
    rw [nI_clamp (show s < 2 ^ 31 by omega)]
    exact ⟨vp_in_nI (by omega) (by omega), okV (b.2.2.2 s hs).1 rfl rfl (fin v)⟩
  · refine ⟨fun q hq hx => ?_, fun z => absurd rfl (z (1, 55) (by decide))⟩
    have hp : q.2 = 55 := (by decide : ∀ q ∈ swS1, (1 : Int32) = q.1 → q.2 = 55) q hq hx
    rw [hp]
    simp only [oT, E_H_ship, fIsA, fRt, fLen, fLit, fBool]
    refine s_placeOf (by omega) ?_
    simp only [oT, E_H_ship, fIsA, fRt, fLen, fLit, fBool]
    refine ⟨⟨_, rfl⟩, fun v => ref v 1 _ (Or.inr (Or.inl rfl)) (fun K hK => ?_)⟩
    rw [hK]
    simp only [E_M_ship, fIsA, fRt, fLen, fLit, fBool]
    refine ⟨fun q hq hx => ?_, fun z => absurd rfl (z (1, 63) (by decide))⟩
    have hp : q.2 = 63 := (by decide : ∀ q ∈ swS2, (1 : Int32) = q.1 → q.2 = 63) q hq hx
    rw [hp]
    simp only [E_M_ship, fIsA, fRt, fLen, fLit, fBool, fIx]
    simp only [e36, nI_clamp (show 36 + s < 2 ^ 31 by omega)]
    exact ⟨vp_in_nI (by omega) (by omega), okV (c.1 s hs).1 rfl rfl (fin v)⟩
  · refine ⟨fun q hq hx => ?_, fun z => absurd rfl (z (2, 64) (by decide))⟩
    have hp : q.2 = 64 := (by decide : ∀ q ∈ swS1, (2 : Int32) = q.1 → q.2 = 64) q hq hx
    rw [hp]
    simp only [oT, E_H_ship, fIsA, fRt, fLen, fLit, fBool]
    have k2 : τ.1 9 2 = τ.1 75 44 := c.2.1.1
    refine s_wasDragged (by omega) (fun bb => ?_) (fun bb => ?_)
    · simp only [oT, E_H_ship, fIsA, fRt, fLen, fLit, fBool]
      refine ⟨⟨_, rfl⟩, fun v => ref v 2 _ (Or.inr (Or.inr (Or.inl rfl))) (fun K hK => ?_)⟩
      rw [hK]
      simp only [E_M_ship, fIsA, fRt, fLen, fLit, fBool]
      refine ⟨fun q hq hx => ?_, fun z => absurd rfl (z (2, 73) (by decide))⟩
      have hp : q.2 = 73 := (by decide : ∀ q ∈ swS2, (2 : Int32) = q.1 → q.2 = 73) q hq hx
      rw [hp]
      simp only [E_M_ship, fIsA, fRt, fLen, fLit, fBool, fIx]
      refine s_Mhas (by omega) ?_
      show _
      rw [show (sI (sL τ 101 0 v) 69 0 0).1 75 44 = τ.1 75 44 from rfl, if_pos (by rw [← k2]; exact bb)]
      simp only [oT, E_M_ship, fIsA, fRt, fLen, fLit, fBool]
      refine s_flag (Or.inr rfl) ?_
      simp only [oT, E_M_ship, fIsA, fRt, fLen, fLit, fBool]
      exact okV rfl rfl rfl (fin v)
    · simp only [oT, E_H_ship, fIsA, fRt, fLen, fLit, fBool]
      refine ⟨⟨_, rfl⟩, fun v => ref v 2 _ (Or.inr (Or.inr (Or.inl rfl))) (fun K hK => ?_)⟩
      rw [hK]
      simp only [E_M_ship, fIsA, fRt, fLen, fLit, fBool]
      refine ⟨fun q hq hx => ?_, fun z => absurd rfl (z (2, 73) (by decide))⟩
      have hp : q.2 = 73 := (by decide : ∀ q ∈ swS2, (2 : Int32) = q.1 → q.2 = 73) q hq hx
      rw [hp]
      simp only [E_M_ship, fIsA, fRt, fLen, fLit, fBool, fIx]
      refine s_Mhas (by omega) ?_
      show _
      rw [show (sI (sL τ 101 0 v) 69 0 0).1 75 44 = τ.1 75 44 from rfl, if_neg (by rw [← k2, bb]; exact Bool.false_ne_true)]
      simp only [oT, E_M_ship, fIsA, fRt, fLen, fLit, fBool]
      refine s_flag (Or.inl rfl) ?_
      simp only [oT, E_M_ship, fIsA, fRt, fLen, fLit, fBool]
      exact okV rfl rfl rfl (fin v)
  · refine ⟨fun q hq hx => ?_, fun z => absurd rfl (z (3, 81) (by decide))⟩
    have hp : q.2 = 81 := (by decide : ∀ q ∈ swS1, (3 : Int32) = q.1 → q.2 = 81) q hq hx
    rw [hp]
    simp only [oT, E_H_ship, fIsA, fRt, fLen, fLit, fBool]
    have fbb := fun v : Int64 => b0fix ((fb_bit (A := ovS kd (sI (sL τ 101 0 v) 69 0 0)) ns 0 0 (by omega) s (by omega)).1 ⟨Nat.zero_le _, by omega⟩)
    refine s_isOver a b c hs (fun bb => ?_) (fun bb => ?_)
    · simp only [oT, E_H_ship, fIsA, fRt, fLen, fLit, fBool]
      refine ⟨⟨_, rfl⟩, fun v => ref v 3 _ (Or.inr (Or.inr (Or.inr rfl))) (fun K hK => ?_)⟩
      rw [hK]
      simp only [E_M_ship, fIsA, fRt, fLen, fLit, fBool]
      refine ⟨fun q hq hx => absurd hx ((by decide : ∀ q ∈ swS2, ¬ (3 : Int32) = q.1) q hq), fun _ => ?_⟩
      refine s_MinHarbour (a0 v) (b0 v) (c0 v) ?_
      simp only [oT, E_M_ship, fIsA, fRt, fLen, fLit, fBool]
      refine s_Mhas (by omega) ?_
      rw [if_pos ((fbb v).mpr (Or.inl bb))]
      simp only [oT, E_M_ship, fIsA, fRt, fLen, fLit, fBool]
      refine s_flag (Or.inr rfl) ?_
      simp only [oT, E_M_ship, fIsA, fRt, fLen, fLit, fBool]
      exact okV rfl rfl rfl (fin v)
    · simp only [oT, E_H_ship, fIsA, fRt, fLen, fLit, fBool]
      refine ⟨⟨_, rfl⟩, fun v => ref v 3 _ (Or.inr (Or.inr (Or.inr rfl))) (fun K hK => ?_)⟩
      rw [hK]
      simp only [E_M_ship, fIsA, fRt, fLen, fLit, fBool]
      refine ⟨fun q hq hx => absurd hx ((by decide : ∀ q ∈ swS2, ¬ (3 : Int32) = q.1) q hq), fun _ => ?_⟩
      refine s_MinHarbour (a0 v) (b0 v) (c0 v) ?_
      simp only [oT, E_M_ship, fIsA, fRt, fLen, fLit, fBool]
      refine s_Mhas (by omega) ?_
      rw [if_neg (fun w => bb (((fbb v).mp w).resolve_right Bool.false_ne_true))]
      simp only [oT, E_M_ship, fIsA, fRt, fLen, fLit, fBool]
      refine s_flag (Or.inl rfl) ?_
      simp only [oT, E_M_ship, fIsA, fRt, fLen, fLit, fBool]
      exact okV rfl rfl rfl (fin v)
def PrW (t m1 m2 : Nat) (as : List Value) (P : St → Prop) : Prop := t < 200000 → ∀ τ, Inv t τ → P τ → Cl 900 m1 (.ref 0 :: as) τ (fun a τ1 => (∃ x : Int64, a = some (.long x)) ∧ ∀ v : Int64, Cl 900 m2 (.ref 69 :: as) (sL τ1 101 0 v) (fun b τ2 => (∃ x : Int64, a = some (.long x) ∧ b = some (.long x)) ∧ τ2.1 69 0 = 0 ∧ τ2.2 101 0 = v ∧ Inv (t + 1) τ2))
theorem v_row (t : Nat) (x : Int32) : PrW t m_H_row m_M_row [.int x] (fun τ => 0 ≤ x ∧ x < τ.1 3 1) := by
  intro ht0 τ h hP
  obtain ⟨R, C, kd, ht, ns, n, hA, hT, hR⟩ := h
  have fin : ∀ v : Int64, Inv (t + 1) (sI (sL τ 101 0 v) 69 0 0) := fun v => hA.inv3 hT hR (frv v) rfl
  obtain ⟨rn, r1, r2, r3, r4⟩ := hR
  have r3' : ∀ v : Int64, (sI (sL τ 101 0 v) 69 0 0).1 69 1 = nI rn := fun v => r3
  have e1 : ∀ v : Int32, v ≤ nI rn - 1 ↔ v < nI rn := fun v => le_pred (by omega)
  have hP : 0 ≤ x ∧ x < nI rn := by
    have h' : 0 ≤ x ∧ x < τ.1 3 1 := hP
    rw [r2] at h'
    exact h'
  obtain ⟨k, hk0, rfl⟩ := nI_of (Int32.not_lt.mpr hP.1)
  have hk : k < rn := (nI_ltI hk0 (by omega)).mp hP.2
  have has : ∀ (D : Nat) (Q : Qt), Q (some (.int 1)) τ → Cl (D + 1) m_Row_has [.ref 3, .int (nI k)] τ Q := fun D Q q => by
    rw [N_Row_has]
    simp only [E_Row_has, fIsA, fRt, fLen, fLit, fBool, r2]
    exact ⟨fun z => absurd z (nI_pos (by omega)), fun _ => ⟨fun z => absurd z (nI_ge (by omega) (by omega)), fun _ => ⟨fun z => absurd z (nI_ge (b := 36) (by omega) (by omega)), fun _ => q⟩⟩⟩
  rw [N_H_row]
  simp only [E_H_row, fIsA, fRt, fLen, fLit, fBool]
  refine has _ _ ?_
  simp only [oT, E_H_row, fIsA, fRt, fLen, fLit, fBool]
  rw [N_Row_at]
  simp only [E_Row_at, fIsA, fRt, fLen, fLit, fBool]
  refine has _ _ ?_
  simp only [oT, E_Row_at, E_H_row, fIsA, fRt, fLen, fLit, fBool, nI_clamp (show k < 2 ^ 31 by omega)]
  refine ⟨vp_in_nI (by omega) (by omega), ?_⟩
  refine ⟨⟨_, rfl⟩, fun v => ?_⟩
  rw [N_M_row]
  simp only [E_M_row, fIsA, fRt, fLen, fLit, fBool, r3' v]
  refine s_inI 0 rfl (nI rn - 1) rfl (fun _ _ => ?_) (fun z => absurd ⟨hP.1, (e1 _).mpr hP.2⟩ z)
  simp only [oT, E_M_row, fIsA, fRt, fLen, fLit, fBool, nI_clamp (show k < 2 ^ 31 by omega)]
  refine ⟨vp_in_nI (by omega) (by omega), ⟨_, rfl, ?_⟩, rfl, rfl, fin v⟩
  rw [r4 k hk]
  rfl
def PrN (t m2 : Nat) (as : List Value) (P : St → Prop) : Prop := t < 200000 → ∀ τ, Inv t τ → ¬ P τ → Cl 900 m2 (.ref 69 :: as) τ (fun b τ2 => (∃ x : Int32, b = some (.int x)) ∧ τ2.1 69 0 = 1 ∧ Inv (t + 1) τ2)
def PrNL (t m2 : Nat) (as : List Value) (P : St → Prop) : Prop := t < 200000 → ∀ τ, Inv t τ → ¬ P τ → Cl 900 m2 (.ref 69 :: as) τ (fun b τ2 => (∃ x : Int64, b = some (.long x)) ∧ τ2.1 69 0 = 1 ∧ Inv (t + 1) τ2)
theorem n_field (t : Nat) (x y : Int32) : PrN t m_M_field [.int x, .int y] (fun τ => (0 ≤ x ∧ x < τ.1 5 2) ∧ in4 y) := by
  intro ht0 τ h hP
  obtain ⟨R, C, kd, ht, ns, n, hA, hT, hR⟩ := h
  have ⟨a, b, c, d, e, f, g, i, j⟩ := hA
  have hn36 := a.n36.1
  have fin : Inv (t + 1) (sI τ 69 0 0) := hA.inv3 hT hR (fr690 (v := 0)) rfl
  have a0 : GI (sI τ 69 0 0) R C kd ht := a.fr (fr690 (v := 0)) rfl
  have b0 : ShI (sI τ 69 0 0) ns := b.fr (fr690 (v := 0)) rfl
  have hP : ¬ ((0 ≤ x ∧ x < nI (R * C)) ∧ in4 y) := by
    have h' : ¬ ((0 ≤ x ∧ x < τ.1 5 2) ∧ in4 y) := hP
    rw [a.2.1.2.2.1] at h'
    exact h'
  have fin1 : Inv (t + 1) (sI (sI τ 69 0 0) 69 0 1) := hA.inv3 hT hR (cs := []) (fs := [(69, 0)]) ((Fr.rf.i rfl).i rfl) rfl
  rw [N_M_field]
  simp only [E_M_field, fIsA, fRt, fLen, fLit, fBool]
  refine s_MisField a0 (fun f' hf' ef => ?_) (fun z => ?_)
  · simp only [oT, E_M_field, fIsA, fRt, fLen, fLit, fBool]
    refine s_inI 0 rfl (nI 3) rfl (fun c1 c2 => ?_) (fun z => ?_)
    · exact absurd ⟨⟨by rw [ef]; exact nI_pos' (by omega), by rw [ef]; exact nI_lt hf' (by omega)⟩, (in4_iff y).mpr ⟨c1, c2⟩⟩ hP
    · simp only [oT, E_M_field, fIsA, fRt, fLen, fLit, fBool]
      refine s_refuse ?_
      simp only [oT, E_M_field, fIsA, fRt, fLen, fLit, fBool]
      exact ⟨⟨_, rfl⟩, rfl, fin1⟩
  · simp only [oT, E_M_field, fIsA, fRt, fLen, fLit, fBool]
    refine s_refuse ?_
    simp only [oT, E_M_field, fIsA, fRt, fLen, fLit, fBool]
    exact ⟨⟨_, rfl⟩, rfl, fin1⟩
theorem n_ship (t : Nat) (x y : Int32) : PrN t m_M_ship [.int x, .int y] (fun τ => (0 ≤ x ∧ x < τ.1 9 1) ∧ in4 y) := by
  intro ht0 τ h hP
  obtain ⟨R, C, kd, ht, ns, n, hA, hT, hR⟩ := h
  have ⟨a, b, c, d, e, f, g, i, j⟩ := hA
  have h8 := b.1
  have fin : Inv (t + 1) (sI τ 69 0 0) := hA.inv3 hT hR (fr690 (v := 0)) rfl
  have a0 : GI (sI τ 69 0 0) R C kd ht := a.fr (fr690 (v := 0)) rfl
  have b0 : ShI (sI τ 69 0 0) ns := b.fr (fr690 (v := 0)) rfl
  have c0 : MoI (sI τ 69 0 0) 9 ns (R * C) (300 * t) kd (τ.1 75) := c.same (fun _ => rfl) (fun _ => rfl) (fun _ => rfl) (fun _ _ => rfl) (Nat.le_refl _) h8
  have hP : ¬ ((0 ≤ x ∧ x < nI ns) ∧ in4 y) := by
    have h' : ¬ ((0 ≤ x ∧ x < τ.1 9 1) ∧ in4 y) := hP
    rw [b.2.2.1] at h'
    exact h'
  have fin1 : Inv (t + 1) (sI (sI τ 69 0 0) 69 0 1) := hA.inv3 hT hR (cs := []) (fs := [(69, 0)]) ((Fr.rf.i rfl).i rfl) rfl
  rw [N_M_ship]
  simp only [E_M_ship, fIsA, fRt, fLen, fLit, fBool]
  refine s_MisShip b0 (fun f' hf' ef => ?_) (fun z => ?_)
  · simp only [oT, E_M_ship, fIsA, fRt, fLen, fLit, fBool]
    refine s_inI 0 rfl (nI 3) rfl (fun c1 c2 => ?_) (fun z => ?_)
    · exact absurd ⟨⟨by rw [ef]; exact nI_pos' (by omega), by rw [ef]; exact nI_lt hf' (by omega)⟩, (in4_iff y).mpr ⟨c1, c2⟩⟩ hP
    · simp only [oT, E_M_ship, fIsA, fRt, fLen, fLit, fBool]
      refine s_refuse ?_
      simp only [oT, E_M_ship, fIsA, fRt, fLen, fLit, fBool]
      exact ⟨⟨_, rfl⟩, rfl, fin1⟩
  · simp only [oT, E_M_ship, fIsA, fRt, fLen, fLit, fBool]
    refine s_refuse ?_
    simp only [oT, E_M_ship, fIsA, fRt, fLen, fLit, fBool]
    exact ⟨⟨_, rfl⟩, rfl, fin1⟩
theorem n_row (t : Nat) (x : Int32) : PrNL t m_M_row [.int x] (fun τ => 0 ≤ x ∧ x < τ.1 3 1) := by
  intro ht0 τ h hP
  obtain ⟨R, C, kd, ht, ns, n, hA, hT, hR⟩ := h
  have fin : Inv (t + 1) (sI τ 69 0 0) := hA.inv3 hT hR (fr690 (v := 0)) rfl
  obtain ⟨rn, r1, r2, r3, r4⟩ := hR
  have r3' : (sI τ 69 0 0).1 69 1 = nI rn := r3
  have e1 : ∀ v : Int32, v ≤ nI rn - 1 ↔ v < nI rn := fun v => le_pred (by omega)
  have hP : ¬ (0 ≤ x ∧ x < nI rn) := by
    have h' : ¬ (0 ≤ x ∧ x < τ.1 3 1) := hP
    rw [r2] at h'
    exact h'
  have fin1 : Inv (t + 1) (sI (sI τ 69 0 0) 69 0 1) := hA.inv3 hT ⟨rn, r1, r2, r3, r4⟩ (cs := []) (fs := [(69, 0)]) ((Fr.rf.i rfl).i rfl) rfl
  rw [N_M_row]
  simp only [E_M_row, fIsA, fRt, fLen, fLit, fBool, r3']
  refine s_inI 0 rfl (nI rn - 1) rfl (fun c1 c2 => absurd ⟨c1, (e1 _).mp c2⟩ hP) (fun z => ?_)
  simp only [oT, E_M_row, fIsA, fRt, fLen, fLit, fBool]
  exact ⟨⟨_, rfl⟩, rfl, fin1⟩
theorem s_thrown {d : Nat} {Q : Qt} {τ : St} (hQ : Q (some (.int (τ.1 69 0))) τ) : Cl (d + 1) m_M_thrown [.ref 69] τ Q := by
  rw [N_M_thrown]
  simp only [E_M_thrown, fIsA, fRt, fLen, fLit, fBool]
  exact hQ
