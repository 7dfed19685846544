/-! TEXT: reading, by the class and by the reference, over the same bytes g -/
theorem sI_same {τ : St} {k j : Nat} {v : Int32} (h : τ.1 k j = v) : sI τ k j v = τ := by
  subst h
  apply Prod.ext
  · funext a b
    rw [sI_1]
    split
    · split
      · next h1 h2 => rw [h1, h2]
      · rfl
    · rfl
  · rfl
theorem nI_z (n : Nat) : nI n + 0 = nI n := nI_add n 0
/-- the class reads g (n bytes) from place p up to m -/
def TT (τ : St) (g : Nat → Nat) (n p m : Nat) : Prop := τ.1 1 1 = nI n ∧ τ.1 1 2 = nI p ∧ τ.1 1 3 = nI m ∧ p ≤ 200 ∧ m ≤ n ∧ n ≤ 80 ∧ ∀ j, j < n → τ.1 2 j = nI (g j) ∧ g j < 256
theorem TT.go {τ : St} {g : Nat → Nat} {n p m q : Nat} (h : TT τ g n p m) (hq : q ≤ 200) : TT (sI τ 1 2 (nI q)) g n q m := ⟨h.1, rfl, h.2.2.1, hq, h.2.2.2.2⟩
theorem s_peek {d : Nat} {Q : Qt} {τ : St} {g : Nat → Nat} {n p m : Nat} (h : TT τ g n p m) (hQ : Q (some (.int (if p < m then nI (g p) else -1))) τ) : Cl (d + 1) m_Text_peek [.ref 1] τ Q := by
  obtain ⟨h0, h1, h2, h3, h4, h5, h6⟩ := h
  rw [N_Text_peek]
  simp only [E_Text_peek, fIsA, fRt, fLen, fLit, fBool, h1, h2]
  refine ⟨fun c => absurd c (nI_pos (by omega)), fun _ => ⟨fun c => ?_, fun c => ⟨fun c2 => ?_, fun _ => ⟨?_, ?_⟩⟩⟩⟩
  · have c := (nI_leI (by omega) (by omega)).mp c
    rwa [if_neg (by omega)] at hQ
  · have c : ¬ m ≤ p := fun z => c (nI_le z (by omega))
    have c2 := (nI_leI (a := 80) (b := p) (by omega) (by omega)).mp c2
    omega
  · have c : ¬ m ≤ p := fun z => c (nI_le z (by omega))
    exact vp_in_nI (by omega) (by omega)
  · have c : ¬ m ≤ p := fun z => c (nI_le z (by omega))
    rw [if_pos (by omega)] at hQ
    rw [nI_clamp (by omega), (h6 p (by omega)).1]
    exact hQ
theorem s_step {d : Nat} {Q : Qt} {τ : St} {p : Nat} (h : τ.1 1 2 = nI p) (hQ : Q none (sI τ 1 2 (nI (p + 1)))) : Cl (d + 1) m_Text_step [.ref 1] τ Q := by
  rw [N_Text_step]
  simp only [E_Text_step, fIsA, fRt, fLen, fLit, fBool, h, nI_1]
  exact hQ
theorem s_back {d : Nat} {Q : Qt} {τ : St} {p : Nat} (h : τ.1 1 2 = nI (p + 1)) (hQ : Q none (sI τ 1 2 (nI p))) : Cl (d + 1) m_Text_back [.ref 1] τ Q := by
  rw [N_Text_back]
  simp only [E_Text_back, fIsA, fRt, fLen, fLit, fBool, h, nI_pred]
  exact hQ
theorem s_empty {d : Nat} {Q : Qt} {τ : St} (hQ : Q none (sI τ 1 1 0)) : Cl (d + 1) m_Text_empty [.ref 1] τ Q := by
  rw [N_Text_empty]
  simp only [E_Text_empty, fIsA, fRt, fLen, fLit, fBool]
  exact hQ
theorem s_finished {d : Nat} {Q : Qt} {τ : St} {n p : Nat} (h1 : τ.1 1 1 = nI n) (h2 : τ.1 1 2 = nI p) (hn : n ≤ 80) (hp : p ≤ 200) (hQ : Q (some (.int (if p = n then 1 else 0))) τ) : Cl (d + 1) m_Text_finished [.ref 1] τ Q := by
  rw [N_Text_finished]
  simp only [E_Text_finished, fIsA, fRt, fLen, fLit, fBool, h1, h2]
  refine ⟨fun c => ?_, fun c => ?_⟩
  · rwa [if_neg (fun z => c (by rw [z]))] at hQ
  · rwa [if_pos ((nI_eq (by omega) (by omega)).mp c)] at hQ
theorem s_open {d : Nat} {Q : Qt} {τ : St} {n b : Nat} (h1 : τ.1 1 1 = nI n) (hn : n ≤ 80) (hb : b ≤ 80) (hQ : Q none (sI (sI τ 1 3 (nI (min n b))) 1 2 0)) : Cl (d + 1) m_Text_open [.ref 1, .int (nI b)] τ Q := by
  rw [N_Text_open]
  simp only [E_Text_open, fIsA, fRt, fLen, fLit, fBool, h1]
  have e : (if nI b < nI n then nI b else nI n) = nI (min n b) := by
    by_cases c : b < n
    · rw [if_pos (nI_lt c (by omega)), Nat.min_eq_right (by omega)]
    · rw [if_neg (nI_nlt (by omega) (by omega)), Nat.min_eq_left (by omega)]
  rw [e]
  exact hQ
theorem s_takeSign {d : Nat} {Q : Qt} {τ : St} {g : Nat → Nat} {n p m c : Nat} (h : TT τ g n p m) (hc : c < 256) (h1 : p < m → g p = c → Q (some (.int 1)) (sI τ 1 2 (nI (p + 1)))) (h0 : ¬ (p < m ∧ g p = c) → Q (some (.int 0)) τ) : Cl (d + 2) m_Text_takeSign [.ref 1, .int (nI c)] τ Q := by
  rw [N_Text_takeSign]
  simp only [E_Text_takeSign, fIsA, fRt, fLen, fLit, fBool]
  refine s_peek h ?_
  simp only [oT, E_Text_takeSign, fIsA, fRt, fLen, fLit, fBool]
  by_cases hp : p < m
  · rw [if_pos hp]
    have hg := (h.2.2.2.2.2.2 p (by have := h.2.2.2.2.1; omega)).2
    refine ⟨fun e => ?_, fun e => h0 (fun z => e (by rw [z.2]))⟩
    refine s_step h.2.1 ?_
    simp only [oN, E_Text_takeSign, fLit, fBool]
    exact h1 hp ((nI_eq (by omega) (by omega)).mp e)
  · rw [if_neg hp]
    refine ⟨fun e => absurd (e ▸ (by decide : (-1 : Int32) < 0)) (nI_pos (by omega)), fun e => h0 (fun z => hp z.1)⟩
theorem s_takeDigit {d : Nat} {Q : Qt} {τ : St} {g : Nat → Nat} {n p m lo hi : Nat} (h : TT τ g n p m) (hlo : lo ≤ 9) (hhi : hi ≤ 9) (h1 : ∀ k, p < m → g p = 48 + k → lo ≤ k → k ≤ hi → Q (some (.int (nI k))) (sI τ 1 2 (nI (p + 1)))) (h0 : (∀ k, p < m → g p = 48 + k → lo ≤ k → k ≤ hi → False) → Q (some (.int (-1))) τ) : Cl (d + 2) m_Text_takeDigit [.ref 1, .int (nI lo), .int (nI hi)] τ Q := by
  rw [N_Text_takeDigit]
  simp only [E_Text_takeDigit, fIsA, fRt, fLen, fLit, fBool]
  refine s_peek h ?_
  simp only [oT, E_Text_takeDigit, fIsA, fRt, fLen, fLit, fBool]
  by_cases hp : p < m
  · rw [if_pos hp]
    have hg := (h.2.2.2.2.2.2 p (by have := h.2.2.2.2.1; omega)).2
    have e0 : (nI (g p) - 48).toInt = (g p : Int) - 48 := pk_sub_toInt (b := 48) (by omega) (by omega)
    refine ⟨fun c => h0 (fun k _ e l1 l2 => ?_), fun c => ⟨fun c2 => ?_, fun c2 => h0 (fun k _ e l1 l2 => ?_)⟩⟩
    · rw [Int32.lt_iff_toInt_lt, e0, nI_toInt (by omega)] at c; omega
    · rw [Int32.lt_iff_toInt_lt, e0, nI_toInt (by omega)] at c
      rw [Int32.le_iff_toInt_le, e0, nI_toInt (by omega)] at c2
      obtain ⟨k, hk⟩ : ∃ k, g p = 48 + k := ⟨g p - 48, by omega⟩
      refine s_step h.2.1 ?_
      have e1 : nI (g p) - 48 = nI k := by rw [hk]; exact (pk_sub (a := 48 + k) (b := 48) (by omega)).trans (by rw [Nat.add_sub_cancel_left])
      simp only [oN, E_Text_takeDigit, e1]
      exact h1 k hp hk (by omega) (by omega)
    · rw [Int32.le_iff_toInt_le, e0, nI_toInt (by omega)] at c2; omega
  · rw [if_neg hp]
    refine ⟨fun _ => h0 (fun k z => absurd z hp), fun c => absurd ?_ c⟩
    rw [Int32.lt_iff_toInt_lt, nI_toInt (by omega), show (-1 - 48 : Int32).toInt = -49 from by decide]
    omega
/-! the reference -/
def MR (τ : St) (g : Nat → Nat) (n p m : Nat) : Prop := τ.1 69 15 = nI p ∧ τ.1 69 16 = nI m ∧ p ≤ 200 ∧ m ≤ n ∧ n ≤ 80 ∧ ∀ j, j < n → τ.1 77 j = nI (g j) ∧ g j < 256
theorem MR.go {τ : St} {g : Nat → Nat} {n p m q : Nat} (h : MR τ g n p m) (hq : q ≤ 200) : MR (sI τ 69 15 (nI q)) g n q m := ⟨rfl, h.2.1, hq, h.2.2.2⟩
theorem s_flag {d : Nat} {Q : Qt} {τ : St} {x : Int32} (hx : x = 0 ∨ x = 1) (hQ : Q (some (.int x)) τ) : Cl (d + 1) m_M_flag [.int x] τ Q := by
  rw [N_M_flag]
  simp only [E_M_flag]
  rcases hx with rfl | rfl
  · exact ⟨fun _ => hQ, fun c => absurd rfl c⟩
  · exact ⟨fun c => absurd c (by decide), fun _ => hQ⟩
theorem s_takes {d : Nat} {Q : Qt} {τ : St} {g : Nat → Nat} {n p m c : Nat} (h : MR τ g n p m) (hc : c < 256) (h1 : p < m → g p = c → Q (some (.int 1)) (sI τ 69 15 (nI (p + 1)))) (h0 : ¬ (p < m ∧ g p = c) → Q (some (.int 0)) τ) : Cl (d + 2) m_M_takes [.ref 69, .int (nI c)] τ Q := by
  obtain ⟨a1, a2, a3, a4, a5, a6⟩ := h
  rw [N_M_takes]
  simp only [E_M_takes, fIsA, fRt, fLen, fLit, fBool, a1, a2]
  refine ⟨fun e => ?_, fun e => ?_⟩
  · have e := (nI_leI (by omega) (by omega)).mp e
    refine s_flag (Or.inl rfl) ?_
    simp only [oT, E_M_takes, fIsA, fRt, fLen, fLit, fBool, nI_z]
    rw [sI_same a1]
    exact h0 (fun z => by omega)
  · have e : ¬ m ≤ p := fun z => e (nI_le z (by omega))
    refine ⟨vp_in_nI (by omega) (by omega), ?_⟩
    rw [nI_clamp (by omega), (a6 p (by omega)).1]
    refine ⟨fun e2 => ?_, fun e2 => ?_⟩
    · refine s_flag (Or.inl rfl) ?_
      simp only [oT, E_M_takes, fIsA, fRt, fLen, fLit, fBool, nI_z]
      rw [sI_same a1]
      exact h0 (fun z => e2 (by rw [z.2]))
    · refine s_flag (Or.inr rfl) ?_
      simp only [oT, E_M_takes, fIsA, fRt, fLen, fLit, fBool, nI_1]
      exact h1 (by omega) ((nI_eq (by have := (a6 p (by omega)).2; omega) (by omega)).mp e2)
