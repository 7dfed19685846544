/-! PAIRS: sign; what lies beside; where a ship goes -/
theorem p_signP (t : Nat) (v : Int32) : PrI t m_H_sign m_M_sign [.int v] := by
  intro ht0 τ h
  obtain ⟨R, C, kd, ht, ns, n, hA, hT, hR⟩ := h
  exact p_sign (d := 898) (Q := fun a b τ2 => (∃ x : Int32, a = some (.int x) ∧ b = some (.int x)) ∧ Inv (t + 1) τ2) hT (fun x n' τ' T' f => ok rfl (hA.inv f rfl T' (hR.fr f rfl)))
section BS
variable {d R C ns : Nat} {kd ht : Nat → Nat} {Q : Qt} {τ : St}
theorem s_Mbeside (g : GI τ R C kd ht) {f h : Nat} (hf : f < R * C) (hh : h < 4) (hQ : Q (some (.int (oI (nb R C f h)))) τ) : Cl (d + 2) m_M_beside [.ref 69, .int (nI f), .int (nI h)] τ Q := by
  obtain ⟨⟨r1, r6, c1, c6⟩, ⟨_, _, _, eR, eC⟩, _⟩ := g
  have hn : R * C ≤ 36 := Nat.mul_le_mul r6 c6
  have hC : nI C ≠ 0 := nI_ne0 (by omega) (by omega)
  have ed : nI f / nI C = nI (f / C) := pk_div (by omega) (by omega) (by omega)
  have er : nI f - nI f / nI C * nI C = nI (f % C) := pk_rem (by omega) (by omega) (by omega)
  have hm := Nat.mod_lt f (show C > 0 by omega)
  have hq : f / C < R := Nat.div_lt_of_lt_mul (by rw [Nat.mul_comm]; exact hf)
  have hdm := Nat.div_add_mod f C
  rw [N_M_beside]
  simp only [E_M_beside, fIsA, fRt, fLen, fLit, fBool, eC, ed]
  -- in row and column by their numbers
  have inY : ∀ (v : Int32) (k n : Nat) (Q : Qt), v = nI k → k < n → n < 2 ^ 30 → Q (some (.int 1)) τ → Cl (d + 1) m_M_in [.long v.toInt64, .long 0, .long (nI n - 1).toInt64] τ Q := fun v k n Q e hk hn hq => by
    subst e
    exact s_below hn (fun _ _ _ => hq) (fun z => absurd ⟨nI_pos' (by omega), nI_lt hk (by omega)⟩ z)
  have inN : ∀ (v : Int32) (n : Nat) (Q : Qt), (v = -1 ∨ v = nI n) → n < 2 ^ 30 → Q (some (.int 0)) τ → Cl (d + 1) m_M_in [.long v.toInt64, .long 0, .long (nI n - 1).toInt64] τ Q := fun v n Q e hn hq => by
    refine s_below hn (fun k hk ek => ?_) (fun _ => hq)
    rcases e with e | e
    · rw [e] at ek
      have := nI_pos' (n := k) (by omega)
      rw [← ek] at this
      exact absurd this (by decide)
    · rw [e] at ek
      have := (nI_eq (by omega) (by omega)).mp ek
      omega
  have neg1 : ∀ k : Nat, 0 < k → nI k + -1 = nI (k - 1) := fun k hk => by
    obtain ⟨j, rfl⟩ : ∃ j, k = j + 1 := ⟨k - 1, by omega⟩
    rw [pk_m1, Nat.add_sub_cancel]
  have fm : ∀ p q : Nat, nI C * nI p + nI q = nI (C * p + q) := fun p q => by rw [pk_mul, nI_add]
  refine ⟨hC, fun h2 => ⟨fun h0 => ?_, fun h0 => ?_⟩, fun h2 => ?_⟩
  · have h2 : h ≠ 2 := fun z => h2 (by rw [z]; rfl)
    have h0 : h ≠ 0 := fun z => h0 (by rw [z]; rfl)
    rw [Rs_eq]
    simp only [E_M_beside, fIsA, fRt, fLen, fLit, fBool, eC, eR, er, nI_z]
    refine ⟨hC, fun h1 => ⟨fun h3 => ?_, fun h3 => ?_⟩, fun h1 => ?_⟩
    · exfalso
      have h1 : h ≠ 1 := fun z => h1 (by rw [z]; rfl)
      have h3 : h ≠ 3 := fun z => h3 (by rw [z]; rfl)
      omega
    · have h3 : h = 3 := (nI_eq (b := 3) (by omega) (by omega)).mp h3
      subst h3
      refine inY _ _ _ _ rfl hq (by omega) ?_
      simp only [oT, E_M_beside, fIsA, fRt, fLen, fLit, fBool, eC, eR, er, nI_z]
      have e : nb R C f 3 = if 0 < f % C then some (f - 1) else none := rfl
      rw [e] at hQ
      by_cases c : 0 < f % C
      · rw [if_pos c] at hQ
        refine inY _ (f % C - 1) _ _ (neg1 _ c) (by omega) (by omega) ?_
        simp only [oT, E_M_beside, fIsA, fRt, fLen, fLit, fBool, eC, eR, er, nI_z, neg1 _ c]
        rw [fm, show C * (f / C) + (f % C - 1) = f - 1 by omega]
        exact hQ
      · rw [if_neg c] at hQ
        refine inN _ _ _ (Or.inl (by rw [show f % C = 0 by omega]; rfl)) (by omega) ?_
        simp only [oT, E_M_beside, fIsA, fRt, fLen, fLit, fBool]
        exact hQ
    · have h1 : h = 1 := (nI_eq (b := 1) (by omega) (by omega)).mp h1
      subst h1
      refine inY _ _ _ _ rfl hq (by omega) ?_
      simp only [oT, E_M_beside, fIsA, fRt, fLen, fLit, fBool, eC, eR, er, nI_z, nI_1]
      have e : nb R C f 1 = if f % C + 1 < C then some (f + 1) else none := rfl
      rw [e] at hQ
      by_cases c : f % C + 1 < C
      · rw [if_pos c] at hQ
        refine inY _ _ _ _ rfl c (by omega) ?_
        simp only [oT, E_M_beside, fIsA, fRt, fLen, fLit, fBool, eC, eR, er, nI_z, nI_1]
        rw [fm, show C * (f / C) + (f % C + 1) = f + 1 by omega]
        exact hQ
      · rw [if_neg c] at hQ
        refine inN _ _ _ (Or.inr (by rw [show f % C + 1 = C by omega])) (by omega) ?_
        simp only [oT, E_M_beside, fIsA, fRt, fLen, fLit, fBool]
        exact hQ
  · have h0 : h = 0 := (nI_eq (b := 0) (by omega) (by omega)).mp h0
    subst h0
    rw [Rs_eq]
    simp only [E_M_beside, fIsA, fRt, fLen, fLit, fBool, eC, eR, er, nI_z]
    have e : nb R C f 0 = if C ≤ f then some (f - C) else none := rfl
    rw [e] at hQ
    refine ⟨hC, fun _ => ⟨fun _ => ?_, fun z => absurd z (by decide)⟩, fun z => absurd z (by decide)⟩
    by_cases c : C ≤ f
    · rw [if_pos c] at hQ
      have q0 : 0 < f / C := Nat.div_pos c (by omega)
      refine inY _ _ _ _ (neg1 _ q0) (by omega) (by omega) ?_
      simp only [oT, E_M_beside, fIsA, fRt, fLen, fLit, fBool, eC, eR, er, nI_z, neg1 _ q0]
      refine inY _ _ _ _ rfl hm (by omega) ?_
      simp only [oT, E_M_beside, fIsA, fRt, fLen, fLit, fBool, eC, eR, er, nI_z, neg1 _ q0]
      have e2 : C * (f / C - 1) + f % C = f - C := by
        have := Nat.mul_le_mul_left C q0
        rw [Nat.mul_sub]
        omega
      rw [fm, e2]
      exact hQ
    · rw [if_neg c] at hQ
      refine inN _ _ _ (Or.inl (by rw [Nat.div_eq_of_lt (by omega)]; rfl)) (by omega) ?_
      simp only [oT, E_M_beside, fIsA, fRt, fLen, fLit, fBool]
      exact hQ
  · have h2 : h = 2 := (nI_eq (b := 2) (by omega) (by omega)).mp h2
    subst h2
    rw [Rs_eq]
    simp only [E_M_beside, fIsA, fRt, fLen, fLit, fBool, eC, eR, er, nI_z, nI_1]
    have e : nb R C f 2 = if f + C < R * C then some (f + C) else none := rfl
    rw [e] at hQ
    have key : f + C < R * C ↔ f / C + 1 < R := by
      constructor
      · intro z
        have : (f + C) / C < R := Nat.div_lt_of_lt_mul (by rw [Nat.mul_comm]; exact z)
        rw [Nat.add_div_right _ (by omega)] at this
        exact this
      · intro z
        have : C * (f / C + 2) ≤ C * R := Nat.mul_le_mul_left C z
        rw [Nat.mul_add] at this
        rw [Nat.mul_comm R C]
        omega
    refine ⟨hC, fun _ => ⟨fun _ => ?_, fun z => absurd z (by decide)⟩, fun z => absurd z (by decide)⟩
    by_cases c : f + C < R * C
    · rw [if_pos c] at hQ
      refine inY _ _ _ _ rfl (key.mp c) (by omega) ?_
      simp only [oT, E_M_beside, fIsA, fRt, fLen, fLit, fBool, eC, eR, er, nI_z, nI_1]
      refine inY _ _ _ _ rfl hm (by omega) ?_
      simp only [oT, E_M_beside, fIsA, fRt, fLen, fLit, fBool, eC, eR, er, nI_z, nI_1]
      have e2 : C * (f / C + 1) + f % C = f + C := by rw [Nat.mul_add]; omega
      rw [fm, e2]
      exact hQ
    · rw [if_neg c] at hQ
      have : f / C + 1 = R := by
        have := fun z => c (key.mpr z)
        omega
      refine inN _ _ _ (Or.inr (by rw [this])) (by omega) ?_
      simp only [oT, E_M_beside, fIsA, fRt, fLen, fLit, fBool]
      exact hQ
end BS
