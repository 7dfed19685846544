/-! PAIRS: ship, where it doesn't throw; where it does, the reference -/
theorem fb_bit {A : Nat → Prop} : ∀ (m i : Nat) (a : Int32), i + m ≤ 32 → ∀ s, s < 32 → ((i ≤ s ∧ s < i + m → (bt (fb A m i a) s = true ↔ A s ∨ bt a s = true)) ∧ (s < i ∨ i + m ≤ s → bt (fb A m i a) s = bt a s))
  | 0, i, a, _, s, hs => ⟨fun h => by omega, fun _ => rfl⟩
  | m + 1, i, a, hm, s, hs => by
    rw [fb]
    by_cases c : A i
    · rw [if_pos c]
      have ih := fb_bit (A := A) m (i + 1) (a ||| (1 <<< (nI i &&& 31))) (by omega) s hs
      have eb : bt (a ||| (1 <<< (nI i &&& 31))) s = (bt a s || decide (s = i)) := by rw [b_or, shl1 (by omega) hs]
      refine ⟨fun h => ?_, fun h => ?_⟩
      · by_cases e : s = i
        · rw [ih.2 (Or.inl (by omega)), eb, e, decide_eq_true rfl, Bool.or_true]
          exact ⟨fun _ => Or.inl c, fun _ => rfl⟩
        · rw [ih.1 ⟨by omega, by omega⟩, eb, decide_eq_false e, Bool.or_false]
      · rw [ih.2 (by omega), eb, decide_eq_false (by omega), Bool.or_false]
    · rw [if_neg c]
      have ih := fb_bit (A := A) m (i + 1) a (by omega) s hs
      refine ⟨fun h => ?_, fun h => ih.2 (by omega)⟩
      by_cases e : s = i
      · rw [ih.2 (Or.inl (by omega)), e]
        exact ⟨fun w => Or.inr w, fun w => w.resolve_left (e ▸ c)⟩
      · exact ih.1 ⟨by omega, by omega⟩
theorem p_ship (t : Nat) (x y : Int32) : PrT t m_H_ship m_M_ship [.int x, .int y] (fun τ => (0 ≤ x ∧ x < τ.1 9 1) ∧ in4 y) := by
  intro ht0 τ h
  obtain ⟨R, C, kd, ht, ns, n, hA, hT, hR⟩ := h
  have ⟨a, b, c, d, e, f, g, i, j⟩ := hA
  have h8 := b.1
  have fin : Inv (t + 1) (sI τ 69 0 0) := hA.inv3 hT hR (fr690 (v := 0)) rfl
  have a0 : GI (sI τ 69 0 0) R C kd ht := a.fr (fr690 (v := 0)) rfl
  have b0 : ShI (sI τ 69 0 0) ns := b.fr (fr690 (v := 0)) rfl
  have c0 : MoI (sI τ 69 0 0) 9 ns (R * C) (300 * t) kd (τ.1 75) := c.same (fun _ => rfl) (fun _ => rfl) (fun _ => rfl) (fun _ _ => rfl) (Nat.le_refl _) h8
  refine ⟨fun hP => ?_, fun hP => ?_⟩
  · have hP : (0 ≤ x ∧ x < nI ns) ∧ in4 y := by
      have h' : (0 ≤ x ∧ x < τ.1 9 1) ∧ in4 y := hP
      rw [b.2.2.1] at h'
      exact h'
    obtain ⟨s, hs0, rfl⟩ := nI_of (Int32.not_lt.mpr hP.1.1)
    have hs : s < ns := (nI_ltI hs0 (by omega)).mp hP.1.2
    have e36 : (36 : Int32) + nI s = nI (36 + s) := nI_add 36 s
    rw [N_H_ship]
    simp only [E_H_ship, fIsA, fRt, fLen, fLit, fBool]
    refine s_HhasShip b (fun f' _ _ => ?_) (fun z => absurd hP.1 z)
    simp only [oT, E_H_ship, fIsA, fRt, fLen, fLit, fBool]
    have ref : ∀ (yy : Int32) (Q : Qt), in4 yy → (∀ K, K = Ru M_M_ship 899 Q 31 [some (.ref 69), some (.int (nI s)), some (.int yy)] [.int yy] (sI τ 69 0 0) → K) → Cl 900 m_M_ship [.ref 69, .int (nI s), .int yy] τ Q := fun yy Q hy hK => by
      have r := (in4_iff yy).mp hy
      rw [N_M_ship]
      simp only [E_M_ship, fIsA, fRt, fLen, fLit, fBool]
      refine s_MisShip b0 (fun f' _ _ => ?_) (fun z => absurd hP.1 z)
      simp only [oT, E_M_ship, fIsA, fRt, fLen, fLit, fBool]
      refine s_inI 0 rfl (nI 3) rfl (fun _ _ => ?_) (fun z => absurd r z)
      have := hK _ rfl
      simp only [oT, E_M_ship, fIsA, fRt, fLen, fLit, fBool] at this ⊢
      exact this
    rcases hP.2 with rfl | rfl | rfl | rfl
    · refine ⟨fun q hq hx => ?_, fun z => absurd rfl (z (0, 48) (by decide))⟩
      have hp : q.2 = 48 := (by decide : ∀ q ∈ swS1, (0 : Int32) = q.1 → q.2 = 48) q hq hx
      rw [hp]
      simp only [oT, E_H_ship, fIsA, fRt, fLen, fLit, fBool]
      rw [nI_clamp (show s < 2 ^ 31 by omega)]
      refine ⟨vp_in_nI (by omega) (by omega), ?_⟩
      refine ref 0 _ (Or.inl rfl) (fun K hK => ?_)
      rw [hK]
      simp only [E_M_ship, fIsA, fRt, fLen, fLit, fBool]
      refine ⟨fun q hq hx => ?_, fun z => absurd rfl (z (0, 56) (by decide))⟩
      have hp : q.2 = 56 := (by decide : ∀ q ∈ swS2, (0 : Int32) = q.1 → q.2 = 56) q hq hx
      rw [hp]
      simp only [E_M_ship, fIsA, fRt, fLen, fLit, fBool, fIx]
      rw [nI_clamp (show s < 2 ^ 31 by omega)]
      exact ⟨vp_in_nI (by omega) (by omega), okT2 (b.2.2.2 s hs).1 rfl fin⟩
    · refine ⟨fun q hq hx => ?_, fun z => absurd rfl (z (1, 55) (by decide))⟩
      have hp : q.2 = 55 := (by decide : ∀ q ∈ swS1, (1 : Int32) = q.1 → q.2 = 55) q hq hx
      rw [hp]
      simp only [oT, E_H_ship, fIsA, fRt, fLen, fLit, fBool]
      refine s_placeOf (by omega) ?_
      simp only [oT, E_H_ship, fIsA, fRt, fLen, fLit, fBool]
      refine ref 1 _ (Or.inr (Or.inl rfl)) (fun K hK => ?_)
      rw [hK]
      simp only [E_M_ship, fIsA, fRt, fLen, fLit, fBool]
      refine ⟨fun q hq hx => ?_, fun z => absurd rfl (z (1, 63) (by decide))⟩
      have hp : q.2 = 63 := (by decide : ∀ q ∈ swS2, (1 : Int32) = q.1 → q.2 = 63) q hq hx
      rw [hp]
      simp only [E_M_ship, fIsA, fRt, fLen, fLit, fBool, fIx]
      simp only [e36, nI_clamp (show 36 + s < 2 ^ 31 by omega)]
      exact ⟨vp_in_nI (by omega) (by omega), okT2 (c.1 s hs).1 rfl fin⟩
    · refine ⟨fun q hq hx => ?_, fun z => absurd rfl (z (2, 64) (by decide))⟩
      have hp : q.2 = 64 := (by decide : ∀ q ∈ swS1, (2 : Int32) = q.1 → q.2 = 64) q hq hx
      rw [hp]
      simp only [oT, E_H_ship, fIsA, fRt, fLen, fLit, fBool]
      have k2 : τ.1 9 2 = τ.1 75 44 := c.2.1.1
      refine s_wasDragged (by omega) (fun bb => ?_) (fun bb => ?_)
      · simp only [oT, E_H_ship, fIsA, fRt, fLen, fLit, fBool]
        refine ref 2 _ (Or.inr (Or.inr (Or.inl rfl))) (fun K hK => ?_)
        rw [hK]
        simp only [E_M_ship, fIsA, fRt, fLen, fLit, fBool]
        refine ⟨fun q hq hx => ?_, fun z => absurd rfl (z (2, 73) (by decide))⟩
        have hp : q.2 = 73 := (by decide : ∀ q ∈ swS2, (2 : Int32) = q.1 → q.2 = 73) q hq hx
        rw [hp]
        simp only [E_M_ship, fIsA, fRt, fLen, fLit, fBool, fIx]
        refine s_Mhas (by omega) ?_
        show _
        rw [show (sI τ 69 0 0).1 75 44 = τ.1 75 44 from rfl, if_pos (by rw [← k2]; exact bb)]
        simp only [oT, E_M_ship, fIsA, fRt, fLen, fLit, fBool]
        refine s_flag (Or.inr rfl) ?_
        simp only [oT, E_M_ship, fIsA, fRt, fLen, fLit, fBool]
        exact okT2 rfl rfl fin
      · simp only [oT, E_H_ship, fIsA, fRt, fLen, fLit, fBool]
        refine ref 2 _ (Or.inr (Or.inr (Or.inl rfl))) (fun K hK => ?_)
        rw [hK]
        simp only [E_M_ship, fIsA, fRt, fLen, fLit, fBool]
        refine ⟨fun q hq hx => ?_, fun z => absurd rfl (z (2, 73) (by decide))⟩
        have hp : q.2 = 73 := (by decide : ∀ q ∈ swS2, (2 : Int32) = q.1 → q.2 = 73) q hq hx
        rw [hp]
        simp only [E_M_ship, fIsA, fRt, fLen, fLit, fBool, fIx]
        refine s_Mhas (by omega) ?_
        show _
        rw [show (sI τ 69 0 0).1 75 44 = τ.1 75 44 from rfl, if_neg (by rw [← k2, bb]; exact Bool.false_ne_true)]
        simp only [oT, E_M_ship, fIsA, fRt, fLen, fLit, fBool]
        refine s_flag (Or.inl rfl) ?_
        simp only [oT, E_M_ship, fIsA, fRt, fLen, fLit, fBool]
        exact okT2 rfl rfl fin
    · refine ⟨fun q hq hx => ?_, fun z => absurd rfl (z (3, 81) (by decide))⟩
      have hp : q.2 = 81 := (by decide : ∀ q ∈ swS1, (3 : Int32) = q.1 → q.2 = 81) q hq hx
      rw [hp]
      simp only [oT, E_H_ship, fIsA, fRt, fLen, fLit, fBool]
      have fbb := (fb_bit (A := ovS kd (sI τ 69 0 0)) ns 0 0 (by omega) s (by omega)).1 ⟨Nat.zero_le _, by omega⟩
      rw [b_0] at fbb
      refine s_isOver a b c hs (fun bb => ?_) (fun bb => ?_)
      · simp only [oT, E_H_ship, fIsA, fRt, fLen, fLit, fBool]
        refine ref 3 _ (Or.inr (Or.inr (Or.inr rfl))) (fun K hK => ?_)
        rw [hK]
        simp only [E_M_ship, fIsA, fRt, fLen, fLit, fBool]
        refine ⟨fun q hq hx => absurd hx ((by decide : ∀ q ∈ swS2, ¬ (3 : Int32) = q.1) q hq), fun _ => ?_⟩
        refine s_MinHarbour a0 b0 c0 ?_
        simp only [oT, E_M_ship, fIsA, fRt, fLen, fLit, fBool]
        refine s_Mhas (by omega) ?_
        rw [if_pos (fbb.mpr (Or.inl bb))]
        simp only [oT, E_M_ship, fIsA, fRt, fLen, fLit, fBool]
        refine s_flag (Or.inr rfl) ?_
        simp only [oT, E_M_ship, fIsA, fRt, fLen, fLit, fBool]
        exact okT2 rfl rfl fin
      · simp only [oT, E_H_ship, fIsA, fRt, fLen, fLit, fBool]
        refine ref 3 _ (Or.inr (Or.inr (Or.inr rfl))) (fun K hK => ?_)
        rw [hK]
        simp only [E_M_ship, fIsA, fRt, fLen, fLit, fBool]
        refine ⟨fun q hq hx => absurd hx ((by decide : ∀ q ∈ swS2, ¬ (3 : Int32) = q.1) q hq), fun _ => ?_⟩
        refine s_MinHarbour a0 b0 c0 ?_
        simp only [oT, E_M_ship, fIsA, fRt, fLen, fLit, fBool]
        refine s_Mhas (by omega) ?_
        rw [if_neg (fun w => bb ((fbb.mp w).resolve_right Bool.false_ne_true))]
        simp only [oT, E_M_ship, fIsA, fRt, fLen, fLit, fBool]
        refine s_flag (Or.inl rfl) ?_
        simp only [oT, E_M_ship, fIsA, fRt, fLen, fLit, fBool]
        exact okT2 rfl rfl fin
  · have hP : ¬ ((0 ≤ x ∧ x < nI ns) ∧ in4 y) := by
      have h' : ¬ ((0 ≤ x ∧ x < τ.1 9 1) ∧ in4 y) := hP
      rw [b.2.2.1] at h'
      exact h'
    have fin1 : Inv (t + 1) (sI (sI τ 69 0 0) 69 0 1) := hA.inv3 hT hR (cs := []) (fs := [(69, 0)]) ((Fr.rf.i rfl).i rfl) rfl
    rw [N_M_ship]
    simp only [E_M_ship, fIsA, fRt, fLen, fLit, fBool]
    refine s_MisShip b0 (fun f' hf' ef => ?_) (fun z => ?_)
    · simp only [oT, E_M_ship, fIsA, fRt, fLen, fLit, fBool]
      refine s_inI 0 rfl (nI 3) rfl (fun c1 c2 => ?_) (fun z => ?_)
      · exact absurd ⟨⟨by rw [ef]; exact nI_pos' (by omega), by rw [ef]; exact nI_lt hf' (by omega)⟩, (in4_iff y).mpr ⟨c1, c2⟩⟩ hP
      · simp only [oT, E_M_ship, fIsA, fRt, fLen, fLit, fBool]
        refine s_refuse ?_
        simp only [oT, E_M_ship, fIsA, fRt, fLen, fLit, fBool]
        exact ⟨⟨_, rfl⟩, rfl, fin1⟩
    · simp only [oT, E_M_ship, fIsA, fRt, fLen, fLit, fBool]
      refine s_refuse ?_
      simp only [oT, E_M_ship, fIsA, fRt, fLen, fLit, fBool]
      exact ⟨⟨_, rfl⟩, rfl, fin1⟩
