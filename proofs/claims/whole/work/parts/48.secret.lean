/-! PAIRS: secret, told -/
theorem s_Hpower_loop {d b n : Nat} {Q : Qt} {τ : St} (hb : b < 2 ^ 31) (hn : n ≤ 1000) (hQ : Q (some (.long (lN (b ^ n)))) τ) : ∀ (m i : Nat), i + m = n → Rs M_H_power d Q 5 [some (.int (nI b)), some (.int (nI n)), some (.long (lN (b ^ i))), none, some (.int (nI i))] [] τ
  | 0, i, hi => by
    obtain rfl : i = n := by omega
    rw [Rs_eq]
    simp only [E_H_power, fIsA, fRt, fLen, fLit, fBool]
    exact ⟨fun _ => hQ, fun q => absurd (Int32.le_refl _) q⟩
  | m + 1, i, hi => by
    rw [Rs_eq]
    have e : lN (b ^ i) * (nI b).toInt64 = lN (b ^ (i + 1)) := by rw [nI_l hb, lN_mul]; rfl
    simp only [E_H_power, fIsA, fRt, fLen, fLit, fBool, nI_1, e]
    exact ⟨fun q => absurd q (nI_ge (by omega) (by omega)), fun _ => s_Hpower_loop hb hn hQ m (i + 1) (by omega)⟩
theorem s_Hpower {d b n : Nat} {Q : Qt} {τ : St} (hb : b < 2 ^ 31) (hn : n ≤ 1000) (hQ : Q (some (.long (lN (b ^ n)))) τ) : Cl (d + 1) m_H_power [.int (nI b), .int (nI n)] τ Q := by
  rw [N_H_power]
  simp only [E_H_power, fIsA, fRt, fLen, fLit, fBool]
  exact s_Hpower_loop hb hn hQ n 0 (by omega)
theorem s_Mpower_loop {d b n : Nat} {Q : Qt} {τ : St} (hb : b < 2 ^ 31) (hn : n ≤ 1000) (hQ : Q (some (.long (lN (b ^ n)))) τ) : ∀ (m i : Nat), i + m = n → Rs M_M_power d Q 5 [some (.int (nI b)), some (.int (nI n)), some (.long (lN (b ^ i))), none, some (.int (nI i))] [] τ
  | 0, i, hi => by
    obtain rfl : i = n := by omega
    rw [Rs_eq]
    simp only [E_M_power, fIsA, fRt, fLen, fLit, fBool]
    exact ⟨fun _ => hQ, fun q => absurd (Int32.le_refl _) q⟩
  | m + 1, i, hi => by
    rw [Rs_eq]
    have e : lN (b ^ i) * (nI b).toInt64 = lN (b ^ (i + 1)) := by rw [nI_l hb, lN_mul]; rfl
    simp only [E_M_power, fIsA, fRt, fLen, fLit, fBool, nI_1, e]
    exact ⟨fun q => absurd q (nI_ge (by omega) (by omega)), fun _ => s_Mpower_loop hb hn hQ m (i + 1) (by omega)⟩
theorem s_Mpower {d b n : Nat} {Q : Qt} {τ : St} (hb : b < 2 ^ 31) (hn : n ≤ 1000) (hQ : Q (some (.long (lN (b ^ n)))) τ) : Cl (d + 1) m_M_power [.int (nI b), .int (nI n)] τ Q := by
  rw [N_M_power]
  simp only [E_M_power, fIsA, fRt, fLen, fLit, fBool]
  exact s_Mpower_loop hb hn hQ n 0 (by omega)
theorem half_rem {l r k : Nat} (h0 : 0 < r) (h1 : r < l) (h : l < 2 ^ (k + 1)) : l % r < 2 ^ k := by
  have hp : 2 ^ (k + 1) = 2 ^ k * 2 := rfl
  have h2 := Nat.mod_lt l h0
  by_cases c : r ≤ 2 ^ k
  · omega
  · have : l % r = l - r := by
      rw [Nat.mod_eq_sub_mod (by omega), Nat.mod_eq_of_lt (by omega)]
    omega
theorem lN_ne0 {b : Nat} (h : b < 2 ^ 63) : (lN b = 0) = (b = 0) := propext (pk_lEQ (b := 0) h (by omega))
theorem s_Hgcd_loop {d : Nat} {Q : Qt} {τ : St} {A B : Int64} : ∀ (k i g l : Nat) (u : Option Value), i + 2 * k ≤ 99 → g < 2 ^ 63 → l < 2 ^ k → l < 2 ^ 63 → Q (some (.long (lN (Nat.gcd g l)))) τ → Rs M_H_commonDivisor d Q 9 [some (.long A), none, some (.long B), none, some (.long (lN g)), none, some (.long (lN l)), none, some (.int (nI i)), u, none] [] τ
  | 0, i, g, l, u, hi, hg, hl, hl2, hQ => by
    obtain rfl : l = 0 := by omega
    rw [Rs_eq]
    simp only [E_H_commonDivisor, fIsA, fRt, fLen, fLit, fBool, nI_1, lg_cmp_eq]
    rw [Nat.gcd_zero_right] at hQ
    exact ⟨fun _ => hQ, fun _ => ⟨fun _ => hQ, fun q => absurd rfl q⟩⟩
  | k + 1, i, g, l, u, hi, hg, hl, hl2, hQ => by
    have h100 : ∀ j : Nat, j < 100 → ¬ (100 : Int32) ≤ nI j := fun j hj => nI_ge (b := 100) hj (by omega)
    rw [Rs_eq]
    simp only [E_H_commonDivisor, fIsA, fRt, fLen, fLit, fBool, nI_1, lg_cmp_eq, lN_ne0 hl2]
    refine ⟨fun q => absurd q (h100 i (by omega)), fun _ => ⟨fun q => ?_, fun q => ⟨q, ?_⟩⟩⟩
    · rw [q, Nat.gcd_zero_right] at hQ; exact hQ
    · rw [pk_lRem hg (by omega) hl2]
      have hr := Nat.mod_lt g (show l > 0 by omega)
      have eg : Nat.gcd g l = Nat.gcd l (g % l) := by rw [Nat.gcd_comm g l, Nat.gcd_rec l g, Nat.gcd_comm]
      rw [eg] at hQ
      rw [Rs_eq]
      simp only [E_H_commonDivisor, fIsA, fRt, fLen, fLit, fBool, nI_1, lg_cmp_eq, lN_ne0 (show g % l < 2 ^ 63 by omega)]
      refine ⟨fun q => absurd q (h100 (i + 1) (by omega)), fun _ => ⟨fun q => ?_, fun q2 => ⟨q2, ?_⟩⟩⟩
      · rw [q, Nat.gcd_zero_right] at hQ; exact hQ
      · rw [pk_lRem hl2 (by omega) (by omega)]
        have eg2 : Nat.gcd l (g % l) = Nat.gcd (g % l) (l % (g % l)) := by rw [Nat.gcd_comm l, Nat.gcd_rec (g % l) l, Nat.gcd_comm]
        rw [eg2] at hQ
        have hh := half_rem (l := l) (r := g % l) (k := k) (by omega) hr hl
        exact s_Hgcd_loop k (i + 1 + 1) _ _ _ (by omega) (by omega) hh (by have := Nat.mod_lt l (show g % l > 0 by omega); omega) hQ
theorem s_Hgcd {d g l : Nat} {Q : Qt} {τ : St} (hg : g < 2 ^ 49) (hl : l < 2 ^ 49) (hQ : Q (some (.long (lN (Nat.gcd g l)))) τ) : Cl (d + 1) m_H_commonDivisor [.long (lN g), .long (lN l)] τ Q := by
  rw [N_H_commonDivisor]
  simp only [E_H_commonDivisor, fIsA, fRt, fLen, fLit, fBool]
  exact s_Hgcd_loop 49 0 g l _ (by omega) (by omega) hl (by omega) hQ
theorem s_Mgcd {d : Nat} {Q : Qt} {τ : St} : ∀ (k g l : Nat), g < 2 ^ 63 → l < 2 ^ k → l < 2 ^ 63 → Q (some (.long (lN (Nat.gcd g l)))) τ → Cl (d + 2 * k + 1) m_M_common [.long (lN g), .long (lN l)] τ Q
  | 0, g, l, hg, hl, hl2, hQ => by
    obtain rfl : l = 0 := by omega
    rw [N_M_common]
    simp only [E_M_common, fIsA, fRt, fLen, fLit, fBool, nI_1, lg_cmp_eq]
    rw [Nat.gcd_zero_right] at hQ
    exact ⟨fun q => absurd rfl q, fun _ => hQ⟩
  | k + 1, g, l, hg, hl, hl2, hQ => by
    rw [N_M_common]
    simp only [E_M_common, fIsA, fRt, fLen, fLit, fBool, nI_1, lg_cmp_eq, lN_ne0 hl2]
    refine ⟨fun q => ⟨q, ?_⟩, fun q => ?_⟩
    · rw [pk_lRem hg (by omega) hl2]
      have hr := Nat.mod_lt g (show l > 0 by omega)
      have eg : Nat.gcd g l = Nat.gcd l (g % l) := by rw [Nat.gcd_comm g l, Nat.gcd_rec l g, Nat.gcd_comm]
      rw [eg] at hQ
      rw [show d + 2 * (k + 1) = (d + 2 * k + 1) + 1 by omega, N_M_common]
      simp only [E_M_common, fIsA, fRt, fLen, fLit, fBool, nI_1, lg_cmp_eq, lN_ne0 (show g % l < 2 ^ 63 by omega)]
      refine ⟨fun q2 => ⟨q2, ?_⟩, fun q => ?_⟩
      · rw [pk_lRem hl2 (by omega) (by omega)]
        have eg2 : Nat.gcd l (g % l) = Nat.gcd (g % l) (l % (g % l)) := by rw [Nat.gcd_comm l, Nat.gcd_rec (g % l) l, Nat.gcd_comm]
        rw [eg2] at hQ
        have hh := half_rem (l := l) (r := g % l) (k := k) (by omega) hr hl
        refine s_Mgcd k _ _ (by omega) hh (by have := Nat.mod_lt l (show g % l > 0 by omega); omega) ?_
        simp only [oT, E_M_common, fIsA, fRt, fLen, fLit, fBool]
        exact hQ
      · simp only [oT, E_M_common, fIsA, fRt, fLen, fLit, fBool]
        rw [q, Nat.gcd_zero_right] at hQ; exact hQ
    · rw [q, Nat.gcd_zero_right] at hQ; exact hQ
theorem pw12 {b n : Nat} (hb : b ≤ 10) (hn : n ≤ 12) : b ^ n ≤ 1000000000000 := Nat.le_trans (Nat.pow_le_pow_left hb n) (Nat.pow_le_pow_right (n := 10) (by omega) hn)
theorem p_secret (t : Nat) (x y : Int32) : PrI t m_H_secret m_M_secret [.int x, .int y] := by
  intro ht0 τ h
  obtain ⟨R, C, kd, ht, ns, n, hA, hT, hR⟩ := h
  rw [N_H_secret]
  simp only [E_H_secret, fIsA, fRt, fLen, fLit, fBool]
  have fin := ok rfl (hA.inv3 hT hR (fr690 (v := 0)) rfl) (x := -1)
  have no : ¬ ((0 ≤ x ∧ x ≤ nI 12) ∧ 0 ≤ y ∧ y ≤ nI 10) → Cl 900 m_M_secret [Value.ref 69, Value.int x, Value.int y] τ fun b τ2 => (∃ x, some (Value.int (-1)) = some (Value.int x) ∧ b = some (Value.int x)) ∧ Inv (t + 1) τ2 := fun q => by
    rw [N_M_secret]
    simp only [E_M_secret, fIsA, fRt, fLen, fLit, fBool, sI_1, reduceIte, Nat.reduceEqDiff]
    refine s_inI 0 rfl (nI 12) rfl (fun c1 c2 => ?_) (fun _ => ?_)
    · simp only [oT, E_M_secret, fIsA, fRt, fLen, fLit, fBool]
      refine s_inI 0 rfl (nI 10) rfl (fun c3 c4 => absurd ⟨⟨c1, c2⟩, c3, c4⟩ q) (fun _ => ?_)
      simp only [oT, E_M_secret, fIsA, fRt, fLen, fLit, fBool]
      exact fin
    · simp only [oT, E_M_secret, fIsA, fRt, fLen, fLit, fBool]
      exact fin
  by_cases q : (0 ≤ x ∧ x ≤ nI 12) ∧ 0 ≤ y ∧ y ≤ nI 10
  · refine ⟨fun z => absurd z (nlt q.1.1), fun _ => ⟨fun z => absurd z (nlt q.1.2), fun _ => ⟨fun z => absurd z (nlt q.2.1), fun _ => ⟨fun _ => ?_, fun z => absurd q.2.2 z⟩⟩⟩⟩
    obtain ⟨a, ha, rfl⟩ := of0 (n := 12) q.1.1 q.1.2 (by omega)
    obtain ⟨b, hb, rfl⟩ := of0 (n := 10) q.2.1 q.2.2 (by omega)
    have e10 : (10 : Int32) - nI b = nI (10 - b) := pk_sub (a := 10) hb
    have p1 := pw12 (b := 10 - b) (by omega) ha
    have p2 := pw12 (b := 10) (by omega) ha
    have g0 : 0 < Nat.gcd ((10 - b) ^ a) (10 ^ a) := Nat.gcd_pos_of_pos_right _ (Nat.pow_pos (by omega))
    have g1 : Nat.gcd ((10 - b) ^ a) (10 ^ a) ≤ 10 ^ a := Nat.gcd_le_right _ (Nat.pow_pos (by omega))
    rw [e10]
    refine s_Hpower (by omega) (by omega) ?_
    simp only [oT, E_H_secret, fIsA, fRt, fLen, fLit, fBool]
    refine s_Hpower (b := 10) (by omega) (by omega) ?_
    simp only [oT, E_H_secret, fIsA, fRt, fLen, fLit, fBool]
    refine s_Hgcd (by omega) (by omega) ?_
    generalize hg : Nat.gcd ((10 - b) ^ a) (10 ^ a) = g at g0 g1
    have gne : ¬ lN g = 0 := fun z => by rw [lN_ne0 (by omega)] at z; omega
    simp only [oT, E_H_secret, fIsA, fRt, fLen, fLit, fBool, lg_cmp_le]
    refine ⟨fun z => absurd ((pk_lLE (b := 0) (by omega) (by omega)).mp z) (by omega), fun _ => ⟨gne, gne, ?_⟩⟩
    refine s_RowBoth ?_
    simp only [oN, E_H_secret, fIsA, fRt, fLen, fLit, fBool]
    rw [N_M_secret]
    simp only [E_M_secret, fIsA, fRt, fLen, fLit, fBool, sI_1, reduceIte, Nat.reduceEqDiff]
    refine s_inI 0 rfl (nI 12) rfl (fun c1 c2 => ?_) (fun z => absurd q.1 z)
    simp only [oT, E_M_secret, fIsA, fRt, fLen, fLit, fBool]
    refine s_inI 0 rfl (nI 10) rfl (fun c3 c4 => ?_) (fun z => absurd q.2 z)
    simp only [oT, E_M_secret, fIsA, fRt, fLen, fLit, fBool]
    rw [e10]
    refine s_Mpower (by omega) (by omega) ?_
    simp only [oT, E_M_secret, fIsA, fRt, fLen, fLit, fBool]
    refine s_Mpower (b := 10) (by omega) (by omega) ?_
    simp only [oT, E_M_secret, fIsA, fRt, fLen, fLit, fBool]
    refine s_Mgcd (d := 800) 49 _ _ (by omega) (by omega) (by omega) ?_
    rw [hg]
    simp only [oT, E_M_secret, fIsA, fRt, fLen, fLit, fBool]
    refine ⟨gne, ?_⟩
    refine s_Menters (n := 0) rfl (by omega) ?_
    simp only [oN, E_M_secret, fIsA, fRt, fLen, fLit, fBool]
    refine ⟨gne, ?_⟩
    refine s_Menters (n := 1) rfl (by omega) ?_
    simp only [oN, E_M_secret, fIsA, fRt, fLen, fLit, fBool]
    generalize lN ((10 - b) ^ a) / lN g = U
    generalize lN (10 ^ a) / lN g = V
    refine ok rfl ?_
    have f3 : Fr [4, 70] [(3, 1), (69, 0), (69, 1)] τ (sI (sL (sI (sL (sI (sI (sI (sL (sI (sL (sI τ 3 1 0) 4 0 U) 3 1 1) 4 1 V) 3 1 2) 69 0 0) 69 1 0) 70 0 U) 69 1 (nI (0 + 1))) 70 1 V) 69 1 (nI (1 + 1))) := ((((((((((Fr.rf.i rfl).lc rfl).i rfl).lc rfl).i rfl).i rfl).i rfl).lc rfl).i rfl).lc rfl).i rfl
    exact hA.inv f3 rfl (hT.fr f3 rfl) (RoI.two (v := U) (w := V) rfl rfl rfl rfl rfl rfl)
  · have no := no q
    exact ⟨fun _ => no, fun z1 => ⟨fun _ => no, fun z2 => ⟨fun _ => no, fun z3 => ⟨fun z4 => absurd ⟨⟨Int32.not_lt.mp z1, Int32.not_lt.mp z2⟩, Int32.not_lt.mp z3, z4⟩ q, fun _ => no⟩⟩⟩⟩
/-- the greatest n below m that a number holds, or -2 -/
noncomputable def gtN (P : Nat → Prop) : Nat → Int32
  | 0 => -2
  | n + 1 => @ite _ (P n) (Classical.propDecidable _) (nI n) (gtN P n)
def tdP (b v n : Nat) : Prop := v * 10 ^ n ≤ 100 * b ^ n
theorem td_cmp {b v n : Nat} (hb : b ≤ 10) (hv : v ≤ 100) (hn : n ≤ 12) : (lg_cmp (100 * lN (b ^ n)) ((nI v).toInt64 * lN (10 ^ n)) < 0) = ¬ tdP b v n := by
  have p1 := pw12 hb hn
  have p2 := pw12 (b := 10) (by omega) hn
  have p3 : v * 10 ^ n ≤ 100 * 1000000000000 := Nat.mul_le_mul hv p2
  rw [show (100 : Int64) * lN (b ^ n) = lN (100 * b ^ n) from lN_mul 100 _, nI_l (by omega), lN_mul]
  refine propext ?_
  rw [lg_cmp_lt, pk_lLT (by omega) (by omega)]
  unfold tdP
  omega
theorem s_Htold_loop {d b v : Nat} {Q : Qt} {τ : St} (hb : b ≤ 10) (hv : v ≤ 100) : ∀ (n : Nat) (x : Int32), n ≤ 13 → x = nI n - 1 → Q (some (.int (gtN (tdP (10 - b) v) n))) τ → Rs M_H_told (d + 1) Q 25 [some (.ref 0), some (.int (nI b)), some (.int (nI v)), some (.int x)] [] τ
  | 0, x, hn, hx, hQ => by
    subst hx
    rw [Rs_eq]
    simp only [E_H_told, fIsA, fRt, fLen, fLit, fBool]
    exact ⟨fun _ => hQ, fun q => absurd (by decide) q⟩
  | n + 1, x, hn, hx, hQ => by
    subst hx
    rw [Rs_eq, nI_pred]
    have e10 : (10 : Int32) - nI b = nI (10 - b) := pk_sub (a := 10) hb
    simp only [E_H_told, fIsA, fRt, fLen, fLit, fBool, e10]
    refine ⟨fun q => absurd q (nI_pos (by omega)), fun _ => ?_⟩
    refine s_Hpower (by omega) (by omega) ?_
    simp only [oT, E_H_told, fIsA, fRt, fLen, fLit, fBool]
    refine s_Hpower (b := 10) (by omega) (by omega) ?_
    simp only [oT, E_H_told, fIsA, fRt, fLen, fLit, fBool, td_cmp (show 10 - b ≤ 10 by omega) hv (show n ≤ 12 by omega)]
    rw [gtN] at hQ
    refine ⟨fun q => ?_, fun q => ?_⟩
    · rw [if_neg q] at hQ
      exact s_Htold_loop hb hv n _ (by omega) (by rw [Int32.sub_eq_add_neg]) hQ
    · rw [if_pos (Classical.not_not.mp q)] at hQ
      exact hQ
theorem s_Mtold_loop {d b v : Nat} {Q : Qt} {τ : St} (hb : b ≤ 10) (hv : v ≤ 100) (hQ : Q (some (.int (gtN (tdP (10 - b) v) 13))) τ) : ∀ (m n : Nat), n + m = 13 → Rs M_M_told (d + 1) Q 37 [some (.ref 69), some (.int (nI b)), some (.int (nI v)), some (.int (gtN (tdP (10 - b) v) n)), some (.int (nI n))] [] τ
  | 0, n, hn => by
    obtain rfl : n = 13 := by omega
    rw [Rs_eq]
    simp only [E_M_told, fIsA, fRt, fLen, fLit, fBool]
    exact ⟨fun _ => hQ, fun q => absurd (by decide) q⟩
  | m + 1, n, hn => by
    rw [Rs_eq]
    have e10 : (10 : Int32) - nI b = nI (10 - b) := pk_sub (a := 10) hb
    simp only [E_M_told, fIsA, fRt, fLen, fLit, fBool, e10]
    refine ⟨fun q => absurd q (nI_nlt (a := 12) (by omega) (by omega)), fun _ => ?_⟩
    refine s_Mpower (by omega) (by omega) ?_
    simp only [oT, E_M_told, fIsA, fRt, fLen, fLit, fBool]
    refine s_Mpower (b := 10) (by omega) (by omega) ?_
    simp only [oT, E_M_told, fIsA, fRt, fLen, fLit, fBool, nI_1, td_cmp (show 10 - b ≤ 10 by omega) hv (show n ≤ 12 by omega)]
    have ih := s_Mtold_loop hb hv hQ m (n + 1) (by omega) (d := d)
    rw [gtN] at ih
    refine ⟨fun q => ?_, fun q => ?_⟩
    · rw [if_neg q] at ih; exact ih
    · rw [if_pos (Classical.not_not.mp q)] at ih; exact ih
theorem p_told (t : Nat) (x y : Int32) : PrI t m_H_told m_M_told [.int x, .int y] := by
  intro ht0 τ h
  obtain ⟨R, C, kd, ht, ns, n, hA, hT, hR⟩ := h
  rw [N_H_told]
  simp only [E_H_told, fIsA, fRt, fLen, fLit, fBool]
  have fin := ok rfl (hA.inv3 hT hR (fr690 (v := 0)) rfl) (x := -1)
  have no : ¬ ((0 ≤ x ∧ x ≤ nI 10) ∧ 0 ≤ y ∧ y ≤ nI 100) → Cl 900 m_M_told [Value.ref 69, Value.int x, Value.int y] τ fun b τ2 => (∃ x, some (Value.int (-1)) = some (Value.int x) ∧ b = some (Value.int x)) ∧ Inv (t + 1) τ2 := fun q => by
    rw [N_M_told]
    simp only [E_M_told, fIsA, fRt, fLen, fLit, fBool, sI_1, reduceIte, Nat.reduceEqDiff]
    refine s_inI 0 rfl (nI 10) rfl (fun c1 c2 => ?_) (fun _ => ?_)
    · simp only [oT, E_M_told, fIsA, fRt, fLen, fLit, fBool]
      refine s_inI 0 rfl (nI 100) rfl (fun c3 c4 => absurd ⟨⟨c1, c2⟩, c3, c4⟩ q) (fun _ => ?_)
      simp only [oT, E_M_told, fIsA, fRt, fLen, fLit, fBool]
      exact fin
    · simp only [oT, E_M_told, fIsA, fRt, fLen, fLit, fBool]
      exact fin
  by_cases q : (0 ≤ x ∧ x ≤ nI 10) ∧ 0 ≤ y ∧ y ≤ nI 100
  · refine ⟨fun z => absurd z (nlt q.1.1), fun _ => ⟨fun z => absurd z (nlt q.1.2), fun _ => ⟨fun z => absurd z (nlt q.2.1), fun _ => ⟨fun _ => ?_, fun z => absurd q.2.2 z⟩⟩⟩⟩
    obtain ⟨a, ha, rfl⟩ := of0 (n := 10) q.1.1 q.1.2 (by omega)
    obtain ⟨b, hb, rfl⟩ := of0 (n := 100) q.2.1 q.2.2 (by omega)
    refine s_Htold_loop ha hb 13 12 (by omega) (by decide) ?_
    rw [N_M_told]
    simp only [E_M_told, fIsA, fRt, fLen, fLit, fBool, sI_1, reduceIte, Nat.reduceEqDiff]
    refine s_inI 0 rfl (nI 10) rfl (fun c1 c2 => ?_) (fun z => absurd q.1 z)
    simp only [oT, E_M_told, fIsA, fRt, fLen, fLit, fBool]
    refine s_inI 0 rfl (nI 100) rfl (fun c3 c4 => ?_) (fun z => absurd q.2 z)
    simp only [oT, E_M_told, fIsA, fRt, fLen, fLit, fBool]
    exact s_Mtold_loop ha hb (ok rfl (hA.inv3 hT hR (fr690 (v := 0)) rfl)) 13 0 (by omega)
  · have no := no q
    exact ⟨fun _ => no, fun z1 => ⟨fun _ => no, fun z2 => ⟨fun _ => no, fun z3 => ⟨fun z4 => absurd ⟨⟨Int32.not_lt.mp z1, Int32.not_lt.mp z2⟩, Int32.not_lt.mp z3, z4⟩ q, fun _ => no⟩⟩⟩⟩
