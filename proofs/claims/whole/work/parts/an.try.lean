/-! PLANKS: the class -/
theorem sb_cn (x : Int64) : ∀ (m i a : Nat), sb x m i a + cnL x i = a + cnL x (i + m)
  | 0, i, a => rfl
  | m + 1, i, a => by
    have h := sb_cn x m (i + 1) (a + (bitL x i).toNat)
    have e : cnL x (i + 1) = cnL x i + (if bitL x i then 1 else 0) := rfl
    rw [show i + (m + 1) = i + 1 + m by omega]
    show sb x m (i + 1) (a + (bitL x i).toNat) + cnL x i = _
    cases c : bitL x i with
    | true =>
      rw [c] at h e
      have h : sb x m (i + 1) (a + 1) + cnL x (i + 1) = a + 1 + cnL x (i + 1 + m) := h
      have e : cnL x (i + 1) = cnL x i + 1 := e
      show sb x m (i + 1) (a + 1) + cnL x i = _
      omega
    | false =>
      rw [c] at h e
      have h : sb x m (i + 1) (a + 0) + cnL x (i + 1) = a + 0 + cnL x (i + 1 + m) := h
      have e : cnL x (i + 1) = cnL x i + 0 := e
      show sb x m (i + 1) (a + 0) + cnL x i = _
      omega
theorem bL_cn {x : Int64} (h : ∀ f, bitL x f = true → f < 36) : bL x = nI (cnL x 36) := by
  have e := (bL_is (x := x) (fun f h1 _ => by
    cases c : bitL x f with
    | false => rfl
    | true => have := h f c; omega)).1
  have s := sb_cn x 36 0 0
  have z : cnL x 0 = 0 := rfl
  rw [e]
  congr 1
  rw [show 0 + 36 = 36 by omega] at s
  omega
theorem cn_of {x : Int64} {a b : Nat} (h : ∀ q, bitL x q = true ↔ q = a ∨ q = b) : ∀ n, cnL x n = (if a < n then 1 else 0) + (if b < n ∧ b ≠ a then 1 else 0)
  | 0 => rfl
  | n + 1 => by
    have ih := cn_of h n
    show cnL x n + (if bitL x n = true then 1 else 0) = _
    rw [ih]
    by_cases c : n = a ∨ n = b
    · rw [if_pos ((h n).mpr c)]
      (repeat' split) <;> omega
    · rw [if_neg (fun w => c ((h n).mp w))]
      (repeat' split) <;> omega
theorem cn_one {x : Int64} : ∀ n, 1 ≤ cnL x n → ∃ a, a < n ∧ bitL x a = true
  | 0, h => absurd h (by show ¬ 1 ≤ 0; omega)
  | n + 1, h => by
    have h : 1 ≤ cnL x n + (if bitL x n = true then 1 else 0) := h
    by_cases c : bitL x n = true
    · exact ⟨n, by omega, c⟩
    · rw [if_neg c] at h
      obtain ⟨a, a1, a2⟩ := cn_one n h
      exact ⟨a, by omega, a2⟩
theorem cn_one' {x : Int64} {a : Nat} (h : bitL x a = true) : ∀ n, a < n → 1 ≤ cnL x n
  | 0, w => absurd w (Nat.not_lt_zero _)
  | n + 1, w => by
    show 1 ≤ cnL x n + (if bitL x n = true then 1 else 0)
    by_cases c : a = n
    · subst c; rw [if_pos h]; omega
    · have := cn_one' h n (by omega); omega
theorem cn_two {x : Int64} : ∀ n, 2 ≤ cnL x n → ∃ a b, a < b ∧ b < n ∧ bitL x a = true ∧ bitL x b = true
  | 0, h => absurd h (by show ¬ 2 ≤ 0; omega)
  | n + 1, h => by
    have h : 2 ≤ cnL x n + (if bitL x n = true then 1 else 0) := h
    by_cases c : bitL x n = true
    · rw [if_pos c] at h
      obtain ⟨a, a1, a2⟩ := cn_one (x := x) n (by omega)
      exact ⟨a, n, a1, by omega, a2, c⟩
    · rw [if_neg c] at h
      obtain ⟨a, b, a1, a2, a3⟩ := cn_two n h
      exact ⟨a, b, a1, by omega, a3⟩
theorem cn_two' {x : Int64} {a b : Nat} (ab : a < b) (ha : bitL x a = true) (hb : bitL x b = true) : ∀ n, b < n → 2 ≤ cnL x n
  | 0, w => absurd w (Nat.not_lt_zero _)
  | n + 1, w => by
    show 2 ≤ cnL x n + (if bitL x n = true then 1 else 0)
    by_cases c : b = n
    · subst c
      have := cn_one' ha b ab
      rw [if_pos hb]; omega
    · have := cn_two' ab ha hb n (by omega); omega
/-- a set of one field or of two -/
def pn (a b : Nat) : Nat := if a = b then 2 ^ a else 2 ^ a + 2 ^ b
theorem pn_lt {a b : Nat} (h : a ≤ b) : pn a b < 2 ^ (b + 1) := by
  unfold pn
  rw [Nat.pow_succ]
  by_cases c : a = b
  · rw [if_pos c, c]
    have := Nat.two_pow_pos b
    omega
  · rw [if_neg c]
    have := Nat.pow_lt_pow_right (show 1 < 2 by omega) (show a < b by omega)
    omega
theorem pn_ge {a b : Nat} : 2 ^ b ≤ pn a b := by
  unfold pn
  by_cases c : a = b
  · rw [if_pos c, c]; exact Nat.le_refl _
  · rw [if_neg c]; exact Nat.le_add_left _ _
theorem pn_ord {a b a' b' : Nat} (h' : a' ≤ b') (hk : (a = b ∧ a' = b') ∨ (a < b ∧ a' < b')) (o : b' < b ∨ b' = b ∧ a' < a) : pn a' b' < pn a b := by
  rcases o with o | ⟨o, o2⟩
  · have h1 := pn_lt h'
    have h2 := pn_ge (a := a) (b := b)
    have := Nat.pow_le_pow_right (show 0 < 2 by omega) (show b' + 1 ≤ b by omega)
    omega
  · subst o
    rcases hk with ⟨x, y⟩ | ⟨x, y⟩
    · omega
    · unfold pn
      rw [if_neg (by omega), if_neg (by omega)]
      have := Nat.pow_lt_pow_right (show 1 < 2 by omega) o2
      omega
theorem pn_bits {a b : Nat} (h : a ≤ b) (hb : b < 36) : ((1 : Int64) <<< ((nI b).toInt64 &&& 63)) ||| (1 <<< ((nI a).toInt64 &&& 63)) = lN (pn a b) := bL_ext (fun i hi => by
  rw [bL_or, bL_shl1 (by omega) hi, bL_shl1 (by omega) hi, bitL_lN hi]
  unfold pn
  by_cases c : a = b
  · subst c
    rw [if_pos rfl, Bool.or_self, Nat.testBit_two_pow]
    by_cases e : i = a
    · rw [decide_eq_true e, decide_eq_true e.symm]
    · rw [decide_eq_false e, decide_eq_false (fun w => e w.symm)]
  · rw [if_neg c, tb_add (Nat.pow_lt_pow_right (by omega) (show a < b by omega)) i, Nat.testBit_two_pow, Bool.or_comm]
    congr 1
    by_cases e : i = a
    · rw [decide_eq_true e, decide_eq_true e.symm]
    · rw [decide_eq_false e, decide_eq_false (fun w => e w.symm)])
theorem WzI.pl {R C m i : Nat} {ht : Nat → Nat} {S r r' : Nat → Int32} {w hh : Int32} {τ : St} (h : WzI R C ht m S w r hh i τ) (P : Int64) (e : ∀ q, q < R * C → r' q = if bitL P q then 1 else 0) : WzI R C ht m S w r' hh i (sL τ 59 4 P) := by
  obtain ⟨ρ, n, S1, P0, h, ⟨w1, w2, w3, w4⟩, ⟨t1, t2, t3⟩, a, b, c, _⟩ := h
  exact ⟨ρ, n, S1, P, h, ⟨w1, w2, rfl, w4⟩, ⟨t1, t2, t3⟩, a, b, c, e⟩
theorem hit_wy {τ : St} {R C l : Nat} {kd ht : Nat → Nat} {P : Nat → Nat → Nat} {pl : Nat → Nat → Int32} (g : GI τ R C kd ht) (hpl : ∀ f q, pl f q = nI (P f q)) (hP : ∀ f q, P f q ≤ 1498) (hl : l < 2 ^ 31) : hitP kd R C pl (τ.2 5 7) (τ.2 5 8) l ↔ wyP kd R C P l := by
  have sB := seaB g
  rw [hit_to (P := P) hpl hP hl (fun q z => ⟨((sB q).mp z).1, by have := ((sB q).mp z).2; omega⟩)]
  constructor
  · rintro ⟨f, j, a, b⟩
    exact ⟨f, j, (sB f).mp a, toK_T (fun q => (hbB g q).mp) j f b⟩
  · rintro ⟨f, j, a, b⟩
    exact ⟨f, j, (sB f).mpr a, toK_T (fun q => (hbB g q).mpr) j f b⟩
theorem s_Wcrosses {d R C m i L : Nat} {kd ht : Nat → Nat} {S r : Nat → Int32} {w hh : Int32} {P : Nat → Nat → Nat} {Q : Qt} {τ : St} (g : GI τ R C kd ht) (wa : WzI R C ht m S w r hh i τ) (hP : ∀ f q, plF ht m S w r hh i f q = nI (P f q) ∧ P f q ≤ 1498) (hL : L < 2 ^ 30) (yes : L ≠ 0 → wyP kd R C P (L - 1) → Q (some (.int 1)) τ) (no : L = 0 ∨ ¬ wyP kd R C P (L - 1) → Q (some (.int 0)) τ) : Cl (d + 6) m_Ways_crosses [.ref 59, .int (nI L - 1)] τ Q := by
  have hn := g.n36
  have sB := seaB g
  rw [N_Ways_crosses]
  simp only [E_Ways_crosses, fIsA, fRt, fLen, fLit, fBool]
  refine s_Wreached g (fun f q Q' hf hq hQ' => wa.pt g hf hq hQ') (fun q z => ((sB q).mp z).1) (fun X hX => ?_)
  by_cases z : L = 0
  · subst z
    have only : ∀ k q, rcK kd R C (plF ht m S w r hh i) (τ.2 5 7) (nI 0 - 1) k q → bitL (τ.2 5 7) q = true := by
      intro k
      induction k with
      | zero => intro q z; exact z
      | succ k ih =>
        intro q z
        rcases z with z | ⟨f, h', a, b, c, e, l⟩
        · exact ih q z
        · refine absurd ?_ l
          rw [(hP f q).1]
          exact Int32.lt_of_lt_of_le (show (nI 0 - 1 : Int32) < 0 by decide) (nI_pos' (by have := (hP f q).2; omega))
    have e0 : X &&& τ.2 5 8 = 0 := bL_ext (fun q hq => by
      rw [bL_and, bL_0]
      cases c : bitL X q with
      | false => rfl
      | true =>
        obtain ⟨k, w⟩ := (hX q hq).mp c
        have s := (sB q).mp (only k q w)
        cases c2 : bitL (τ.2 5 8) q with
        | false => rfl
        | true => have := ((hbB g q).mp c2).2; omega)
    have e1 : (lg_cmp (X &&& τ.2 5 8) 0 = 0) = True := eq_true (lcmp0.mpr e0)
    simp only [oT, oN, E_Ways_crosses, fIsA, fRt, fLen, fLit, fBool, e1]
    first
      | exact ⟨Or.inl rfl, no (Or.inl rfl)⟩
      | exact no (Or.inl rfl)
  · have eL : nI L - 1 = nI (L - 1) := pk_sub (b := 1) (by omega)
    rw [eL] at hX
    have hb := hit_bit (T := τ.2 5 8) (l := L - 1) hX
    rw [hit_wy g (fun f q => (hP f q).1) (fun f q => (hP f q).2) (by omega)] at hb
    by_cases c : wyP kd R C P (L - 1)
    · have e1 : (lg_cmp (X &&& τ.2 5 8) 0 = 0) = False := eq_false (fun w => hb.mp (lcmp0.mp w) c)
      simp only [oT, oN, E_Ways_crosses, fIsA, fRt, fLen, fLit, fBool, e1]
      first
        | exact ⟨Or.inr rfl, yes z c⟩
        | exact yes z c
    · have e1 : (lg_cmp (X &&& τ.2 5 8) 0 = 0) = True := eq_true (lcmp0.mpr (hb.mpr c))
      simp only [oT, oN, E_Ways_crosses, fIsA, fRt, fLen, fLit, fBool, e1]
      first
        | exact ⟨Or.inl rfl, no (Or.inr c)⟩
        | exact no (Or.inr c)
