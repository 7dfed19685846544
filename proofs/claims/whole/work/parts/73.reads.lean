/-! READING: texts' literals, digits, numbers, what a fault answers; by the class and by the reference -/
theorem sI_sI {τ : St} {k j : Nat} {v w : Int32} : sI (sI τ k j v) k j w = sI τ k j w := by
  apply Prod.ext
  · funext a b
    simp only [sI_1]
    split
    · split
      · rfl
      · rfl
    · rfl
  · rfl
theorem sLn_len : ∀ i, i < 6 → (sBy.getD i []).length = sLn.getD i 0 ∧ Int32.ofNat (sLn.getD i 0) >>> ((0 : Int32) &&& 31) = nI (sLn.getD i 0) ∧ sLn.getD i 0 ≤ 13 := by decide +kernel
theorem sBy_ok : ∀ i, i < 6 → ∀ k, k < 13 → k < sLn.getD i 0 → ((((sBy.getD i []).getD k 0) &&& 255).toUInt32 % 65536).toInt32 = (sBy.getD i []).getD k 0 ∧ ∃ b, b < 256 ∧ (sBy.getD i []).getD k 0 = nI b := by
  have h : ∀ i, i < 6 → ∀ k, k < 13 → k < sLn.getD i 0 → ((((sBy.getD i []).getD k 0) &&& 255).toUInt32 % 65536).toInt32 = (sBy.getD i []).getD k 0 ∧ ((sBy.getD i []).getD k 0).toNatClampNeg < 256 ∧ (sBy.getD i []).getD k 0 = nI ((sBy.getD i []).getD k 0).toNatClampNeg := by decide +kernel
  exact fun i hi k hk hl => ⟨(h i hi k hk hl).1, _, (h i hi k hk hl).2.1, (h i hi k hk hl).2.2⟩
theorem s_sCoder {d i : Nat} {Q : Qt} {τ : St} (hi : i < 6) (hQ : Q (some (.int 0)) τ) : Cl (d + 1) m_s_coder [.ref (1000 + i)] τ Q := by
  rw [N_s_coder]
  simp only [E_s_coder, fIsA, fRt, fLen, fLit, fBool]
  exact ⟨hi, rfl, hQ⟩
theorem s_sLength {d i : Nat} {Q : Qt} {τ : St} (hi : i < 6) (hQ : Q (some (.int (nI (sLn.getD i 0)))) τ) : Cl (d + 2) m_s_length [.ref (1000 + i)] τ Q := by
  rw [N_s_length]
  simp only [E_s_length, fIsA, fRt, fLen, fLit, fBool]
  refine ⟨hi, hi, hi, s_sCoder hi ?_⟩
  simp only [oT, E_s_length, fIsA, fRt, fLen, fLit, fBool]
  rw [(sLn_len i hi).2.1]
  exact hQ
theorem s_sLatin {d i : Nat} {Q : Qt} {τ : St} (hi : i < 6) (hQ : Q (some (.int 1)) τ) : Cl (d + 1) m_s_isLatin1 [.ref (1000 + i)] τ Q := by
  rw [N_s_isLatin1]
  simp only [E_s_isLatin1, fIsA, fRt, fLen, fLit, fBool]
  exact ⟨hi, hQ⟩
theorem s_checkIx {d : Nat} {x y : Int32} {Q : Qt} {τ : St} (h0 : ¬ x < 0) (h1 : x < y) (hQ : Q none τ) : Cl (d + 2) m_s_checkIndex [.int x, .int y] τ Q := by
  rw [N_s_checkIndex]
  simp only [E_s_checkIndex, fIsA, fRt, fLen, fLit, fBool]
  constructor
  · rw [N_p_checkIndexN]
    simp only [E_p_checkIndex, fIsA, fRt, fLen, fLit, fBool, oT, E_s_checkIndex]
    exact ⟨fun w => absurd w h0, fun _ => ⟨fun _ => hQ, fun w => absurd h1 w⟩⟩
  · rw [N_p_checkIndexR]
    simp only [E_p_checkIndex, fIsA, fRt, fLen, fLit, fBool, oT, E_s_checkIndex]
    exact ⟨fun w => absurd w h0, fun _ => ⟨fun _ => hQ, fun w => absurd h1 w⟩⟩
theorem nc256 : ∀ b, b < 256 → (nI b).toUInt32.toUInt16.toUInt32.toInt32 = nI b := by decide +kernel
theorem s_sChar {d i k : Nat} {Q : Qt} {τ : St} (hi : i < 6) (hk : k < sLn.getD i 0) (hQ : Q (some (.int ((sBy.getD i []).getD k 0))) τ) : Cl (d + 4) m_s_charAt [.ref (1000 + i), .int (nI k)] τ Q := by
  have hl := (sLn_len i hi).2.2
  obtain ⟨b1, b, hb, b2⟩ := sBy_ok i hi k (by omega) hk
  have nar : narrow .char (.int ((sBy.getD i []).getD k 0)) = .int ((sBy.getD i []).getD k 0) := by
    rw [b2]
    exact congrArg Value.int (nc256 b hb)
  rw [N_s_charAt]
  simp only [E_s_charAt, fIsA, fRt, fLen, fLit, fBool]
  refine ⟨hi, s_sLatin hi ?_⟩
  simp only [oT, E_s_charAt, fIsA, fRt, fLen, fLit, fBool]
  refine ⟨hi, ?_⟩
  rw [N_l_charAt]
  simp only [E_l_charAt, fIsA, fRt, fLen, fLit, fBool]
  refine ⟨hi, s_checkIx (nI_pos (by omega)) (nI_lt hk (by omega)) ?_⟩
  simp only [oN, E_l_charAt, fIsA, fRt, fLen, fLit, fBool, nI_clamp (show k < 2 ^ 31 by omega)]
  refine ⟨hi, vp_in_nI hk (by omega), ?_⟩
  simp only [oT, E_s_charAt, b1, nar, fBool]
  exact hQ
/-- where a text has a sign -/
def ixO : List Int32 → Nat → Int32 → Int32
  | [], _, _ => -1
  | c :: l, k, b => if c = b then nI k else ixO l (k + 1) b
def amO (i : Nat) (g : Nat → Nat) (p m : Nat) : Int32 := if p < m then ixO (sBy.getD i []) 0 (nI (g p)) else -1
theorem s_among {d i : Nat} {Q : Qt} {τ : St} {g : Nat → Nat} {n p m : Nat} (h : MR τ g n p m) (hi : i < 6) (hQ : Q (some (.int (amO i g p m))) τ) : Cl (d + 5) m_M_among [.ref 69, .ref (1000 + i)] τ Q := by
  obtain ⟨a1, a2, a3, a4, a5, a6⟩ := h
  have hl := sLn_len i hi
  have loop : ∀ (l : List Int32) (k : Nat), (sBy.getD i []).drop k = l → k ≤ (sBy.getD i []).length → Q (some (.int (if p < m then ixO l k (nI (g p)) else -1))) τ → Rs M_M_among (d + 4) Q 2 [some (.ref 69), some (.ref (1000 + i)), some (.int (nI k))] [] τ := by
    intro l
    induction l with
    | nil =>
      intro k hk hk2 hq
      have : (sBy.getD i []).length ≤ k := List.drop_eq_nil_iff.mp hk
      rw [Rs_eq]
      simp only [E_M_among, fIsA, fRt, fLen, fLit, fBool]
      refine ⟨hi, s_sLength hi ?_⟩
      simp only [oT, E_M_among, fIsA, fRt, fLen, fLit, fBool]
      refine ⟨fun _ => ?_, fun w => absurd (nI_le (by omega) (by omega)) w⟩
      rwa [ixO, ite_self] at hq
    | cons c l ih =>
      intro k hk hk2 hq
      have hlt : k < (sBy.getD i []).length := by
        rcases Nat.lt_or_ge k (sBy.getD i []).length with w | w
        · exact w
        · rw [List.drop_eq_nil_iff.mpr w] at hk; cases hk
      have hc : (sBy.getD i []).getD k 0 = c := by
        rw [List.drop_eq_getElem_cons hlt] at hk
        injection hk with h1 h2
        rw [List.getD_eq_getElem?_getD, List.getElem?_eq_getElem hlt]; exact h1
      have hd : (sBy.getD i []).drop (k + 1) = l := by
        rw [List.drop_eq_getElem_cons hlt] at hk
        injection hk with h1 h2
      rw [Rs_eq]
      simp only [E_M_among, fIsA, fRt, fLen, fLit, fBool, a1, a2]
      refine ⟨hi, s_sLength hi ?_⟩
      simp only [oT, E_M_among, fIsA, fRt, fLen, fLit, fBool, a1, a2]
      refine ⟨fun w => absurd w (nI_ge (by omega) (by omega)), fun _ => ⟨fun w => ?_, fun w => ?_⟩⟩
      · have w := (nI_leI (by omega) (by omega)).mp w
        rwa [if_neg (by omega)] at hq
      · have w : ¬ m ≤ p := fun z => w (nI_le z (by omega))
        refine ⟨hi, s_sChar hi (by omega) ?_⟩
        rw [hc]
        simp only [oT, E_M_among, fIsA, fRt, fLen, fLit, fBool, a1, nI_clamp (show p < 2 ^ 31 by omega), (a6 p (by omega)).1, nI_1]
        rw [if_pos (by omega), ixO] at hq
        refine ⟨vp_in_nI (by omega) (by omega), fun z => ?_, fun z => ?_⟩
        · rw [if_neg z] at hq
          exact ih (k + 1) hd hlt (by rw [if_pos (by omega)]; exact hq)
        · rw [if_pos z] at hq
          exact hq
  rw [N_M_among]
  simp only [E_M_among, fIsA, fRt, fLen, fLit, fBool]
  exact loop _ 0 List.drop_zero (Nat.zero_le _) hQ
theorem amO_lt {i : Nat} {g : Nat → Nat} {p m : Nat} (h : ¬ amO i g p m < 0) : p < m := by
  unfold amO at h
  by_cases c : p < m
  · exact c
  · rw [if_neg c] at h; exact absurd (by decide) h
theorem s_takesOf {d i : Nat} {Q : Qt} {τ : St} {g : Nat → Nat} {n p m : Nat} (h : MR τ g n p m) (hi : i < 6) (no : amO i g p m < 0 → Q (some (.int (amO i g p m))) τ) (yes : ¬ amO i g p m < 0 → Q (some (.int (amO i g p m))) (sI τ 69 15 (nI (p + 1)))) : Cl (d + 6) m_M_takesOf [.ref 69, .ref (1000 + i)] τ Q := by
  have a1 := h.1
  rw [N_M_takesOf]
  simp only [E_M_takesOf, fIsA, fRt, fLen, fLit, fBool]
  refine s_among h hi ?_
  simp only [oT, E_M_takesOf, fIsA, fRt, fLen, fLit, fBool, a1]
  refine ⟨fun w => ?_, fun w => ?_⟩
  · refine s_flag (Or.inl rfl) ?_
    simp only [oT, E_M_takesOf, fIsA, fRt, fLen, fLit, fBool, nI_z]
    rw [sI_same a1]
    exact no w
  · refine s_flag (Or.inr rfl) ?_
    simp only [oT, E_M_takesOf, fIsA, fRt, fLen, fLit, fBool, nI_1]
    exact yes w
/-! digits and numbers -/
abbrev isDg (g : Nat → Nat) (m p : Nat) : Prop := p < m ∧ 48 ≤ g p ∧ g p ≤ 57
theorem TT.can {τ : St} {g : Nat → Nat} {n p m : Nat} (h : TT τ g n p m) : sI τ 1 2 (nI p) = τ := sI_same h.2.1
theorem MR.can {τ : St} {g : Nat → Nat} {n p m : Nat} (h : MR τ g n p m) : sI τ 69 15 (nI p) = τ := sI_same h.1
theorem dg_no {g : Nat → Nat} {p m : Nat} (h : ¬ isDg g m p) : ∀ k, p < m → g p = 48 + k → 0 ≤ k → k ≤ 9 → False := fun k h1 h2 _ h3 => h ⟨h1, by omega, by omega⟩
theorem s_dig {d : Nat} {Q : Qt} {τ : St} {g : Nat → Nat} {n p m : Nat} (h : TT τ g n p m) (h1 : isDg g m p → Q (some (.int (nI (g p - 48)))) (sI τ 1 2 (nI (p + 1)))) (h0 : ¬ isDg g m p → Q (some (.int (-1))) τ) : Cl (d + 2) m_Text_takeDigit [.ref 1, .int (nI 0), .int (nI 9)] τ Q := by
  refine s_takeDigit h (by omega) (by omega) (fun k a b _ c => ?_) (fun w => h0 (fun z => w (g p - 48) z.1 (by have := z.2.1; omega) (by omega) (by have := z.2; omega)))
  have := h1 ⟨a, by omega, by omega⟩
  rw [show g p - 48 = k by omega] at this
  exact this
theorem s_MisDigit {d : Nat} {Q : Qt} {τ : St} {g : Nat → Nat} {n p m : Nat} (h : MR τ g n p m) (h1 : isDg g m p → Q (some (.int 1)) τ) (h0 : ¬ isDg g m p → Q (some (.int 0)) τ) : Cl (d + 2) m_M_isDigit [.ref 69] τ Q := by
  obtain ⟨a1, a2, a3, a4, a5, a6⟩ := h
  rw [N_M_isDigit]
  simp only [E_M_isDigit, fIsA, fRt, fLen, fLit, fBool, a1, a2]
  refine ⟨fun w => ?_, fun w => ?_⟩
  · have w := (nI_leI (by omega) (by omega)).mp w
    exact h0 (fun z => by have := z.1; omega)
  · have w : ¬ m ≤ p := fun z => w (nI_le z (by omega))
    obtain ⟨b1, b2⟩ := a6 p (by omega)
    rw [nI_clamp (by omega), b1]
    refine ⟨vp_in_nI (by omega) (by omega), s_inI 48 rfl (nI 57) rfl (fun c1 c2 => ?_) (fun z => ?_)⟩
    · simp only [oT, E_M_isDigit, fIsA, fRt, fLen, fLit, fBool]
      exact h1 ⟨by omega, (nI_leI (a := 48) (by omega) (by omega)).mp c1, (nI_leI (by omega) (by omega)).mp c2⟩
    · simp only [oT, E_M_isDigit, fIsA, fRt, fLen, fLit, fBool]
      exact h0 (fun c => z ⟨nI_le (a := 48) c.2.1 (by omega), nI_le c.2.2 (by omega)⟩)
/-- a number of r digits at most goes on, from place p with a so far: it, and the place behind it -/
def nm (g : Nat → Nat) (m : Nat) : Nat → Nat → Nat → Nat × Nat
  | 0, p, a => (a, p)
  | r + 1, p, a => if isDg g m p then nm g m r (p + 1) (10 * a + (g p - 48)) else (a, p)
theorem nm_y {g : Nat → Nat} {m r p a : Nat} (h : isDg g m p) : nm g m (r + 1) p a = nm g m r (p + 1) (10 * a + (g p - 48)) := by rw [nm, if_pos h]
theorem nm_n {g : Nat → Nat} {m r p a : Nat} (h : ¬ isDg g m p) : nm g m (r + 1) p a = (a, p) := by rw [nm, if_neg h]
theorem nm_le {g : Nat → Nat} {m : Nat} : ∀ (r p a : Nat), p ≤ m → p ≤ (nm g m r p a).2 ∧ (nm g m r p a).2 ≤ m ∧ (nm g m r p a).2 ≤ p + r ∧ (nm g m r p a).1 + 1 ≤ (a + 1) * 10 ^ r
  | 0, p, a, h => by simp only [nm]; omega
  | r + 1, p, a, h => by
    by_cases c : isDg g m p
    · rw [nm_y c]
      have := nm_le (g := g) r (p + 1) (10 * a + (g p - 48)) c.1
      have e : (10 * a + (g p - 48) + 1) * 10 ^ r ≤ (a + 1) * 10 ^ (r + 1) := by
        rw [Nat.pow_succ, Nat.mul_comm (10 ^ r) 10, ← Nat.mul_assoc]
        have := c.2.2
        exact Nat.mul_le_mul_right _ (by omega)
      omega
    · rw [nm_n c]
      have : 1 ≤ 10 ^ (r + 1) := Nat.pos_of_ne_zero (Nat.pos_iff_ne_zero.mp (Nat.pow_pos (by omega)))
      have e := Nat.mul_le_mul_left (a + 1) this
      omega
theorem s_Hnum_loop {d k : Nat} {Q : Qt} {τ : St} {g : Nat → Nat} {n p0 m : Nat} (hk : k ≤ 3) (h : TT τ g n p0 m) : ∀ (r i a p : Nat) (l : Option Value), i + r = k → 1 ≤ i → p ≤ 80 → Q (some (.int (nI (nm g m r p a).1))) (sI τ 1 2 (nI (nm g m r p a).2)) → Rs M_Text_takeNumber (d + 2) Q 4 [some (.ref 1), some (.int (nI k)), some (.int (nI a)), some (.int (nI i)), l] [] (sI τ 1 2 (nI p))
  | 0, i, a, p, l, hi, h1, hp, hq => by
    obtain rfl : i = k := by omega
    rw [Rs_eq]
    simp only [E_Text_takeNumber, fIsA, fRt, fLen, fLit, fBool]
    exact ⟨fun _ => hq, fun q => absurd (Int32.le_refl _) q⟩
  | r + 1, i, a, p, l, hi, h1, hp, hq => by
    rw [Rs_eq]
    simp only [E_Text_takeNumber, fIsA, fRt, fLen, fLit, fBool]
    refine ⟨fun q => absurd q (nI_ge (by omega) (by omega)), fun _ => ?_⟩
    refine s_dig (h.go (q := p) (by omega)) (fun c => ?_) (fun c => ?_)
    · have hm : m ≤ 80 := by have := h.2.2.2.2; omega
      have e : nI a * 10 + nI (g p - 48) = nI (10 * a + (g p - 48)) := by
        rw [show nI a * 10 = nI (a * 10) from pk_mul a 10, Nat.mul_comm]; exact nI_add _ _
      simp only [oT, E_Text_takeNumber, fIsA, fRt, fLen, fLit, fBool, e, nI_1, sI_sI]
      rw [nm_y c] at hq
      have c1 := c.1
      refine ⟨fun _ => ⟨fun _ => s_Hnum_loop hk h r (i + 1) _ (p + 1) _ (by omega) (by omega) (by omega) hq, fun z => absurd ((nI_eq (b := 0) (by omega) (by omega)).mp z) (by omega)⟩, fun z => absurd (show (0 : Int32) ≤ -1 by rw [← z]; exact nI_pos' (by have := c.2.2; omega)) (by decide)⟩
    · simp only [oT, E_Text_takeNumber, fIsA, fRt, fLen, fLit, fBool]
      rw [nm_n c] at hq
      exact hq
theorem s_Hnumber {d k : Nat} {Q : Qt} {τ : St} {g : Nat → Nat} {n p m : Nat} (hk1 : 1 ≤ k) (hk : k ≤ 3) (h : TT τ g n p m) (h1 : isDg g m p → Q (some (.int (nI (nm g m k p 0).1))) (sI τ 1 2 (nI (nm g m k p 0).2))) (h0 : ¬ isDg g m p → Q (some (.int (-1))) τ) : Cl (d + 3) m_Text_takeNumber [.ref 1, .int (nI k)] τ Q := by
  rw [N_Text_takeNumber]
  simp only [E_Text_takeNumber, fIsA, fRt, fLen, fLit, fBool]
  rw [Rs_eq]
  simp only [E_Text_takeNumber, fIsA, fRt, fLen, fLit, fBool]
  refine ⟨fun q => absurd q (nI_ge (a := 0) (by omega) (by omega)), fun _ => ?_⟩
  refine s_dig h (fun c => ?_) (fun c => ?_)
  · have hm : m ≤ 80 := by have := h.2.2.2.2; omega
    have c1 := c.1
    obtain ⟨k', rfl⟩ : ∃ k', k = k' + 1 := ⟨k - 1, by omega⟩
    simp only [oT, E_Text_takeNumber, fIsA, fRt, fLen, fLit, fBool, nI_1]
    have hq := h1 c
    rw [nm_y c, Nat.mul_zero, Nat.zero_add] at hq
    exact ⟨fun _ => s_Hnum_loop hk h k' 1 _ (p + 1) _ (by omega) (by omega) (by omega) hq, fun z => absurd (show (0 : Int32) ≤ -1 by rw [← z]; exact nI_pos' (by have := c.2.2; omega)) (by decide)⟩
  · simp only [oT, E_Text_takeNumber, fIsA, fRt, fLen, fLit, fBool]
    exact h0 c
theorem s_Mnum_loop {d k : Nat} {Q : Qt} {τ : St} {g : Nat → Nat} {n p0 m : Nat} (hk : k ≤ 3) (h : MR τ g n p0 m) : ∀ (r i a p : Nat), i + r = k → p ≤ 80 → Q (some (.int (nI (nm g m r p a).1))) (sI τ 69 15 (nI (nm g m r p a).2)) → Rs M_M_number (d + 2) Q 13 [some (.ref 69), some (.int (nI k)), some (.int (nI a)), some (.int (nI i))] [] (sI τ 69 15 (nI p))
  | 0, i, a, p, hi, hp, hq => by
    obtain rfl : i = k := by omega
    rw [Rs_eq]
    simp only [E_M_number, fIsA, fRt, fLen, fLit, fBool]
    exact ⟨fun _ => hq, fun q => absurd (Int32.le_refl _) q⟩
  | r + 1, i, a, p, hi, hp, hq => by
    have h' := h.go (q := p) (by omega)
    rw [Rs_eq]
    simp only [E_M_number, fIsA, fRt, fLen, fLit, fBool]
    refine ⟨fun q => absurd q (nI_ge (by omega) (by omega)), fun _ => ?_⟩
    refine s_MisDigit h' (fun c => ?_) (fun c => ?_)
    · have hm : m ≤ n ∧ n ≤ 80 := ⟨h.2.2.2.1, h.2.2.2.2.1⟩
      have c1 := c.1
      have c2 := c.2.1
      have tp : (sI τ 69 15 (nI p)).1 77 p = nI (g p) := (h'.2.2.2.2.2 p (by omega)).1
      have e : (10 * nI a + nI (g p)) - 48 = nI (10 * a + (g p - 48)) := by
        rw [show (10 : Int32) * nI a = nI (10 * a) from pk_mul 10 a, nI_add]
        refine (pk_sub (b := 48) (by omega)).trans ?_
        congr 1
        omega
      simp only [oT, E_M_number, fIsA, fRt, fLen, fLit, fBool, sI_1, reduceIte, Nat.reduceEqDiff, nI_1, nI_clamp (show p < 2 ^ 31 by omega)]
      rw [show τ.1 77 p = nI (g p) from tp, e, sI_sI]
      rw [nm_y c] at hq
      exact ⟨vp_in_nI (by omega) (by omega), s_Mnum_loop hk h r (i + 1) _ (p + 1) (by omega) (by omega) hq⟩
    · simp only [oT, E_M_number, fIsA, fRt, fLen, fLit, fBool]
      rw [nm_n c] at hq
      exact hq
theorem s_Mnumber {d k : Nat} {Q : Qt} {τ : St} {g : Nat → Nat} {n p m : Nat} (hk : k ≤ 3) (h : MR τ g n p m) (h1 : isDg g m p → Q (some (.int (nI (nm g m k p 0).1))) (sI τ 69 15 (nI (nm g m k p 0).2))) (h0 : ¬ isDg g m p → Q (some (.int (-1))) τ) : Cl (d + 3) m_M_number [.ref 69, .int (nI k)] τ Q := by
  rw [N_M_number]
  simp only [E_M_number, fIsA, fRt, fLen, fLit, fBool]
  refine s_MisDigit h (fun c => ?_) (fun c => ?_)
  · have hm : m ≤ n ∧ n ≤ 80 := ⟨h.2.2.2.1, h.2.2.2.2.1⟩
    have c1 := c.1
    simp only [oT, E_M_number, fIsA, fRt, fLen, fLit, fBool]
    have := s_Mnum_loop (d := d) (Q := Q) hk h k 0 0 p (by omega) (by omega) (h1 c)
    rw [h.can] at this
    exact this
  · simp only [oT, E_M_number, fIsA, fRt, fLen, fLit, fBool]
    exact h0 c
theorem nm1 {g : Nat → Nat} {m p : Nat} (h : isDg g m p) : nm g m 1 p 0 = (g p - 48, p + 1) := by rw [nm_y h, nm, Nat.mul_zero, Nat.zero_add]
theorem s_Htwo {d : Nat} {Q : Qt} {τ : St} {g : Nat → Nat} {n p m : Nat} (h : TT τ g n p m) (h2 : isDg g m p → isDg g m (p + 1) → Q (some (.int (nI (10 * (g p - 48) + (g (p + 1) - 48))))) (sI τ 1 2 (nI (p + 2)))) (h1 : isDg g m p → ¬ isDg g m (p + 1) → Q (some (.int (-1))) (sI τ 1 2 (nI (p + 1)))) (h0 : ¬ isDg g m p → Q (some (.int (-1))) τ) : Cl (d + 3) m_Text_takeTwoDigits [.ref 1] τ Q := by
  have hm : m ≤ 80 := by have := h.2.2.2.2; omega
  rw [N_Text_takeTwoDigits]
  simp only [E_Text_takeTwoDigits, fIsA, fRt, fLen, fLit, fBool]
  refine s_dig h (fun c => ?_) (fun c => ?_)
  · have c1 := c.1
    have n1 : ¬ nI (g p - 48) = -1 := fun z => absurd (show (0 : Int32) ≤ -1 by rw [← z]; exact nI_pos' (by have := c.2.2; omega)) (by decide)
    simp only [oT, E_Text_takeTwoDigits, fIsA, fRt, fLen, fLit, fBool]
    refine ⟨fun _ => ?_, fun z => absurd z n1⟩
    refine s_dig (h.go (q := p + 1) (by omega)) (fun c2 => ?_) (fun c2 => ?_)
    · have e : nI (g p - 48) * 10 + nI (g (p + 1) - 48) = nI (10 * (g p - 48) + (g (p + 1) - 48)) := by
        rw [show nI (g p - 48) * 10 = nI ((g p - 48) * 10) from pk_mul _ 10, Nat.mul_comm]; exact nI_add _ _
      simp only [oT, E_Text_takeTwoDigits, fIsA, fRt, fLen, fLit, fBool, e, sI_sI]
      exact ⟨fun _ => h2 c c2, fun z => absurd (show (0 : Int32) ≤ -1 by rw [← z]; exact nI_pos' (by have := c2.2.2; omega)) (by decide)⟩
    · simp only [oT, E_Text_takeTwoDigits, fIsA, fRt, fLen, fLit, fBool]
      exact h1 c c2
  · simp only [oT, E_Text_takeTwoDigits, fIsA, fRt, fLen, fLit, fBool]
    exact h0 c
theorem s_Mtwo {d : Nat} {Q : Qt} {τ : St} {g : Nat → Nat} {n p m : Nat} (h : MR τ g n p m) (h2 : isDg g m p → isDg g m (p + 1) → Q (some (.int (nI (10 * (g p - 48) + (g (p + 1) - 48))))) (sI τ 69 15 (nI (p + 2)))) (h1 : isDg g m p → ¬ isDg g m (p + 1) → Q (some (.int (-1))) (sI τ 69 15 (nI (p + 1)))) (h0 : ¬ isDg g m p → Q (some (.int (-1))) τ) : Cl (d + 4) m_M_twoDigits [.ref 69] τ Q := by
  have hm : m ≤ n ∧ n ≤ 80 := ⟨h.2.2.2.1, h.2.2.2.2.1⟩
  rw [N_M_twoDigits]
  simp only [E_M_twoDigits, fIsA, fRt, fLen, fLit, fBool]
  refine s_Mnumber (k := 1) (by omega) h (fun c => ?_) (fun c => ?_)
  · have c1 := c.1
    rw [nm1 c]
    simp only [oT, E_M_twoDigits, fIsA, fRt, fLen, fLit, fBool]
    refine ⟨fun _ => ?_, fun z => absurd (nI_pos' (by have := c.2.2; omega)) z⟩
    refine s_Mnumber (k := 1) (by omega) (h.go (q := p + 1) (by omega)) (fun c2 => ?_) (fun c2 => ?_)
    · rw [nm1 c2]
      have e : 10 * nI (g p - 48) + nI (g (p + 1) - 48) = nI (10 * (g p - 48) + (g (p + 1) - 48)) := by
        rw [show (10 : Int32) * nI (g p - 48) = nI (10 * (g p - 48)) from pk_mul 10 _]; exact nI_add _ _
      simp only [oT, E_M_twoDigits, fIsA, fRt, fLen, fLit, fBool, e, sI_sI]
      exact ⟨fun _ => h2 c c2, fun z => absurd (nI_pos' (by have := c2.2.2; omega)) z⟩
    · simp only [oT, E_M_twoDigits, fIsA, fRt, fLen, fLit, fBool]
      exact h1 c c2
  · simp only [oT, E_M_twoDigits, fIsA, fRt, fLen, fLit, fBool]
    exact h0 c
theorem s_signIn {d lo hi : Nat} {Q : Qt} {τ : St} {g : Nat → Nat} {n p m : Nat} (h : MR τ g n p m) (hlo : lo ≤ 9) (hhi : hi ≤ 9) (h1 : ∀ k, p < m → g p = 48 + k → lo ≤ k → k ≤ hi → Q (some (.int (nI k))) (sI τ 69 15 (nI (p + 1)))) (h0 : (∀ k, p < m → g p = 48 + k → lo ≤ k → k ≤ hi → False) → Q (some (.int (-1))) τ) : Cl (d + 2) m_M_signIn [.ref 69, .int 48, .int (nI lo), .int (nI hi)] τ Q := by
  obtain ⟨a1, a2, a3, a4, a5, a6⟩ := h
  rw [N_M_signIn]
  simp only [E_M_signIn, fIsA, fRt, fLen, fLit, fBool, a1, a2]
  refine ⟨fun w => ?_, fun w => ?_⟩
  · have w := (nI_leI (by omega) (by omega)).mp w
    exact h0 (fun k z => by omega)
  · have w : ¬ m ≤ p := fun z => w (nI_le z (by omega))
    obtain ⟨b1, b2⟩ := a6 p (by omega)
    have e0 : (nI (g p) - 48).toInt = (g p : Int) - 48 := pk_sub_toInt (b := 48) (by omega) (by omega)
    have e1 : nI (p + 1) - 1 = nI p := nI_pred p
    simp only [nI_clamp (show p < 2 ^ 31 by omega), b1]
    refine ⟨vp_in_nI (by omega) (by omega), s_inI (nI lo) rfl (nI hi) rfl (fun c1 c2 => ?_) (fun z => ?_)⟩
    · simp only [oT, E_M_signIn, fIsA, fRt, fLen, fLit, fBool, sI_1, reduceIte, Nat.reduceEqDiff, a1, nI_1, e1, nI_clamp (show p < 2 ^ 31 by omega), b1]
      rw [Int32.le_iff_toInt_le, e0, nI_toInt (by omega)] at c2
      rw [Int32.le_iff_toInt_le, e0, nI_toInt (by omega)] at c1
      obtain ⟨k, hk⟩ : ∃ k, g p = 48 + k := ⟨g p - 48, by omega⟩
      have e2 : nI (g p) - 48 = nI k := by rw [hk]; exact (pk_sub (a := 48 + k) (b := 48) (by omega)).trans (by rw [Nat.add_sub_cancel_left])
      rw [e2]
      exact ⟨vp_in_nI (by omega) (by omega), h1 k (by omega) hk (by omega) (by omega)⟩
    · simp only [oT, E_M_signIn, fIsA, fRt, fLen, fLit, fBool]
      refine h0 (fun k _ hk l1 l2 => z ⟨?_, ?_⟩)
      · rw [Int32.le_iff_toInt_le, e0, nI_toInt (by omega)]; omega
      · rw [Int32.le_iff_toInt_le, e0, nI_toInt (by omega)]; omega
/-- what a fault answers -/
theorem s_faultOf {d n p mx : Nat} {Q : Qt} {τ : St} {y : Int32} (hy : y = 0 ∨ y = 1) (h1 : τ.1 69 15 = nI p) (h2 : τ.1 69 16 = nI (min n mx)) (hp : p ≤ min n mx) (hn : n ≤ 80) (hm : mx ≤ 80) (hQ : Q (some (.int (if y = 1 ∧ p = n then 0 else -1 - nI p))) τ) : Cl (d + 1) m_M_faultOf [.ref 69, .int (nI n), .int (nI mx), .int y] τ Q := by
  rw [N_M_faultOf]
  rcases hy with rfl | rfl
  · rw [if_neg (fun z => absurd z.1 (by decide))] at hQ
    simp only [E_M_faultOf, fIsA, fRt, fLen, fLit, fBool, h1, h2]
    refine ⟨fun _ => hQ, fun w => ⟨fun _ => hQ, fun w2 => ?_⟩⟩
    have w : ¬ n ≤ mx := fun z => w (nI_le z (by omega))
    have w2 : ¬ p < mx := fun z => w2 (nI_lt z (by omega))
    rw [show p = mx by omega] at hQ
    exact hQ
  · simp only [E_M_faultOf, fIsA, fRt, fLen, fLit, fBool, h1, h2]
    refine ⟨fun w => ?_, fun w => ?_⟩
    · have w : p ≠ min n mx := fun z => w (by rw [z])
      rw [if_neg (fun z => w (by omega))] at hQ
      refine ⟨fun _ => hQ, fun w => ⟨fun _ => hQ, fun w2 => ?_⟩⟩
      have w2 : ¬ p < mx := fun z => w2 (nI_lt z (by omega))
      rw [show p = mx by omega] at hQ
      exact hQ
    · have w := (nI_eq (by omega) (by omega)).mp w
      refine ⟨fun w2 => ?_, fun w2 => ?_⟩
      · have w2 := (nI_leI (by omega) (by omega)).mp w2
        rw [if_pos ⟨rfl, by omega⟩] at hQ
        exact hQ
      · have w2 : ¬ n ≤ mx := fun z => w2 (nI_le z (by omega))
        rw [if_neg (fun z => by have := z.2; omega), show p = mx by omega] at hQ
        exact hQ
theorem s_begins {d n mx : Nat} {Q : Qt} {τ : St} (h1 : τ.1 69 14 = nI n) (hn : n ≤ 80) (hm : mx ≤ 80) (hQ : Q (some (.int (nI n))) (sI (sI (sI (sI τ 69 14 0) 69 15 0) 69 17 0) 69 16 (nI (min n mx)))) : Cl (d + 1) m_M_begins [.ref 69, .int (nI mx)] τ Q := by
  rw [N_M_begins]
  simp only [E_M_begins, fIsA, fRt, fLen, fLit, fBool, h1]
  have e : (if nI mx < nI n then nI mx else nI n) = nI (min n mx) := by
    by_cases c : mx < n
    · rw [if_pos (nI_lt c (by omega)), Nat.min_eq_right (by omega)]
    · rw [if_neg (nI_nlt (by omega) (by omega)), Nat.min_eq_left (by omega)]
  rw [e]
  exact hQ
theorem TxI.bytes {τ : St} {n : Nat} (h : TxI τ n) : ∃ g : Nat → Nat, ∀ j, j < n → τ.1 2 j = nI (g j) ∧ τ.1 77 j = nI (g j) ∧ g j < 256 := by
  refine ⟨fun j => (τ.1 77 j).toNatClampNeg, fun j hj => ?_⟩
  obtain ⟨h1, b, hb, h2⟩ := h.2.2.2 j hj
  have e : (τ.1 77 j).toNatClampNeg = b := by rw [h2, nI_clamp (by omega)]
  show _ = nI (τ.1 77 j).toNatClampNeg ∧ _ = nI (τ.1 77 j).toNatClampNeg ∧ (τ.1 77 j).toNatClampNeg < 256
  rw [e]
  exact ⟨h1.trans h2, h2, hb⟩
