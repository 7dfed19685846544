/-! TEXT: what the class's Text does, and the reference's tape -/
theorem wide_le (a b : Int32) : a.toInt64 ≤ b.toInt64 ↔ a ≤ b := by rw [Int64.le_iff_toInt_le, Int32.toInt_toInt64, Int32.toInt_toInt64, Int32.le_iff_toInt_le]
theorem s_Min {d : Nat} {Q : Qt} {τ : St} {v lo hi : Int64} (hQ : Q (some (.int (if lo ≤ v ∧ v ≤ hi then 1 else 0))) τ) : Cl (d + 1) m_M_in [.long v, .long lo, .long hi] τ Q := by
  rw [N_M_in]
  simp only [E_M_in, lg_cmp_lt, lg_cmp_gt, fBool]
  refine ⟨fun c => ?_, fun c => ⟨fun c2 => ?_, fun c2 => ?_⟩⟩
  · rwa [if_neg (fun z => absurd z.1 (Int64.not_le.mpr c))] at hQ
  · rwa [if_neg (fun z => absurd z.2 (Int64.not_le.mpr c2))] at hQ
  · rwa [if_pos ⟨Int64.not_lt.mp c, Int64.not_lt.mp c2⟩] at hQ
theorem s_MinI {d : Nat} {Q : Qt} {τ : St} {v : Int32} {x y : Int64} (lo : Int32) (hx : lo.toInt64 = x) (hi : Int32) (hy : hi.toInt64 = y) (hQ : Q (some (.int (if lo ≤ v ∧ v ≤ hi then 1 else 0))) τ) : Cl (d + 1) m_M_in [.long v.toInt64, .long x, .long y] τ Q := by
  subst hx; subst hy
  refine s_Min ?_
  simp only [wide_le]
  exact hQ
/-- the class's text and the reference's tape are the same n signs -/
def TxI (τ : St) (n : Nat) : Prop := n ≤ 80 ∧ τ.1 1 1 = nI n ∧ τ.1 69 14 = nI n ∧ ∀ j, j < n → τ.1 2 j = τ.1 77 j ∧ ∃ b, b < 256 ∧ τ.1 77 j = nI b
theorem TxI.fr {cs : List Nat} {fs : List (Nat × Nat)} {τ τ' : St} {n : Nat} (h : TxI τ n) (hf : Fr cs fs τ τ') (hd : disF cs fs [2, 77] [(1, 1), (69, 14)] = true) : TxI τ' n := by
  obtain ⟨a, b, c, e⟩ := h
  refine ⟨a, by rw [(hf.E hd 1 1 (by decide)).1]; exact b, by rw [(hf.E hd 69 14 (by decide)).1]; exact c, fun j hj => ?_⟩
  rw [(hf.D hd 2 j (by decide)).1, (hf.D hd 77 j (by decide)).1]
  exact e j hj
theorem s_takeFour_loop {d : Nat} {Q : Qt} {v : Int32} {n : Nat} (hn : n ≤ 76) {τ0 : St} : ∀ (m i : Nat), i + m = 4 → ∀ τ : St, τ.1 1 1 = nI n → Fr [2] [] τ0 τ → (∀ j, j < n → τ.1 2 j = τ0.1 2 j) → (∀ j, j < i → τ.1 2 (n + j) = sB v j) →
    (∀ τ', Fr [2] [(1, 1)] τ0 τ' → τ'.1 1 1 = nI (n + 4) → (∀ j, j < n → τ'.1 2 j = τ0.1 2 j) → (∀ j, j < 4 → τ'.1 2 (n + j) = sB v j) → Q (some (.int 1)) τ') → Rs M_Text_takeFour d Q 20 [some (.ref 1), some (.int v), some (.int (nI i))] [] τ
  | 0, i, hi, τ, h1, hf, ho, hd, hQ => by
    have e : i = 4 := by omega
    subst e
    rw [Rs_eq]
    simp only [E_Text_takeFour, fIsA, fRt, fLen, fLit, fBool]
    refine ⟨fun _ => ?_, fun c => absurd (by decide) c⟩
    refine hQ _ ((hf.wk rfl).i rfl) ?_ ?_ ?_
    · simp only [sI_1, if_true, h1]; exact nI_add n 4
    · intro j hj; simp only [sI_1]; rw [if_neg (by decide)]; exact ho j hj
    · intro j hj; simp only [sI_1]; rw [if_neg (by decide)]; exact hd j hj
  | m + 1, i, hi, τ, h1, hf, ho, hd, hQ => by
    rw [Rs_eq]
    simp only [E_Text_takeFour, fIsA, fRt, fLen, fLit, fBool, h1]
    refine ⟨fun c => absurd c (nI_ge (a := i) (b := 4) (by omega) (by omega)), fun _ => ⟨?_, ?_⟩⟩
    · rw [nI_add]; exact vp_in_nI (by omega) (by omega)
    · rw [nI_add, nI_clamp (by omega), sB_c v (by omega), nI_1]
      refine s_takeFour_loop hn m (i + 1) (by omega) _ ?_ (hf.ic rfl) ?_ ?_ hQ
      · simp only [sI_1]; rw [if_neg (by decide)]; exact h1
      · intro j hj; simp only [sI_1, if_true]; rw [if_neg (by omega)]; exact ho j hj
      · intro j hj
        simp only [sI_1, if_true]
        by_cases c : j = i
        · subst c; rw [if_pos rfl]
        · rw [if_neg (by omega)]; exact hd j (by omega)
theorem s_takeFour {d : Nat} {Q : Qt} {τ : St} {v : Int32} {n : Nat} (hn : n ≤ 76) (h1 : τ.1 1 1 = nI n) (hQ : ∀ τ', Fr [2] [(1, 1)] τ τ' → τ'.1 1 1 = nI (n + 4) → (∀ j, j < n → τ'.1 2 j = τ.1 2 j) → (∀ j, j < 4 → τ'.1 2 (n + j) = sB v j) → Q (some (.int 1)) τ') : Cl (d + 1) m_Text_takeFour [.ref 1, .int v] τ Q := by
  rw [N_Text_takeFour]
  simp only [E_Text_takeFour, fIsA, fRt, fLen, fLit, fBool, h1]
  refine ⟨fun c => absurd c (nI_pos (by omega)), fun _ => ⟨fun _ => ?_, fun c => absurd (nI_le (a := n) (b := 76) hn (by omega)) c⟩⟩
  exact s_takeFour_loop hn 4 0 rfl τ h1 Fr.rf (fun _ _ => rfl) (fun j hj => absurd hj (Nat.not_lt_zero j)) hQ
theorem s_takeFour_no {d : Nat} {Q : Qt} {τ : St} {v : Int32} {n : Nat} (hn : 76 < n) (hn2 : n ≤ 80) (h1 : τ.1 1 1 = nI n) (hQ : Q (some (.int 0)) τ) : Cl (d + 1) m_Text_takeFour [.ref 1, .int v] τ Q := by
  rw [N_Text_takeFour]
  simp only [E_Text_takeFour, fIsA, fRt, fLen, fLit, fBool, h1]
  exact ⟨fun c => absurd c (nI_pos (by omega)), fun _ => ⟨fun c => absurd c (nI_ge (a := 76) (b := n) hn (by omega)), fun _ => hQ⟩⟩
/-- sign: the class -/
theorem s_Hsign {d : Nat} {Q : Qt} {τ : St} {v : Int32} {n : Nat} (hn : n ≤ 76) (h1 : τ.1 1 1 = nI n) (hQ : ∀ τ', Fr [2] [(1, 1)] τ τ' → τ'.1 1 1 = nI (n + 4) → (∀ j, j < n → τ'.1 2 j = τ.1 2 j) → (∀ j, j < 4 → τ'.1 2 (n + j) = sB v j) → Q (some (.int (nI (n + 4)))) τ') : Cl (d + 2) m_H_sign [.ref 0, .int v] τ Q := by
  rw [N_H_sign]
  simp only [E_H_sign, fIsA, fRt, fLit, fBool]
  refine s_takeFour hn h1 (fun τ' a1 a2 a4 a5 => ?_)
  simp only [oT, E_H_sign, fIsA, fRt, fLit, fBool, a2]
  exact hQ τ' a1 a2 a4 a5
theorem s_Hsign_no {d : Nat} {Q : Qt} {τ : St} {v : Int32} {n : Nat} (hn : 76 < n) (hn2 : n ≤ 80) (h1 : τ.1 1 1 = nI n) (hQ : Q (some (.int (-1))) τ) : Cl (d + 2) m_H_sign [.ref 0, .int v] τ Q := by
  rw [N_H_sign]
  simp only [E_H_sign, fIsA, fRt, fLit, fBool]
  refine s_takeFour_no hn hn2 h1 ?_
  simp only [oT, E_H_sign, fIsA, fRt, fLit, fBool]
  exact hQ
/-- sign: the reference -/
theorem s_Msign_loop {d : Nat} {Q : Qt} {v : Int32} {n : Nat} (hn : n ≤ 76) {τ0 : St} : ∀ (m i : Nat), i + m = 4 → ∀ τ : St, τ.1 69 14 = nI n → Fr [77] [(69, 0)] τ0 τ → (∀ j, j < n → τ.1 77 j = τ0.1 77 j) → (∀ j, j < i → τ.1 77 (n + j) = sB v j) →
    (∀ τ', Fr [77] [(69, 0), (69, 14)] τ0 τ' → τ'.1 69 14 = nI (n + 4) → (∀ j, j < n → τ'.1 77 j = τ0.1 77 j) → (∀ j, j < 4 → τ'.1 77 (n + j) = sB v j) → Q (some (.int (nI (n + 4)))) τ') → Rs M_M_sign d Q 18 [some (.ref 69), some (.int v), some (.int (nI i))] [] τ
  | 0, i, hi, τ, h1, hf, ho, hd, hQ => by
    have e : i = 4 := by omega
    subst e
    rw [Rs_eq]
    simp only [E_M_sign, fIsA, fRt, fLen, fLit, fBool]
    refine ⟨fun _ => ?_, fun c => absurd (by decide) c⟩
    have e4 : τ.1 69 14 + 4 = nI (n + 4) := by rw [h1]; exact nI_add n 4
    simp only [sI_1, if_true, e4]
    refine hQ _ ((hf.wk rfl).i rfl) ?_ ?_ ?_
    · simp only [sI_1, if_true]
    · intro j hj; simp only [sI_1]; rw [if_neg (by decide)]; exact ho j hj
    · intro j hj; simp only [sI_1]; rw [if_neg (by decide)]; exact hd j hj
  | m + 1, i, hi, τ, h1, hf, ho, hd, hQ => by
    rw [Rs_eq]
    simp only [E_M_sign, fIsA, fRt, fLen, fLit, fBool, h1]
    refine ⟨fun c => absurd c (nI_ge (a := i) (b := 4) (by omega) (by omega)), fun _ => ⟨?_, ?_⟩⟩
    · rw [nI_add]; exact vp_in_nI (by omega) (by omega)
    · rw [nI_add, nI_clamp (by omega), sB_m v (by omega), nI_1]
      refine s_Msign_loop hn m (i + 1) (by omega) _ ?_ (hf.ic rfl) ?_ ?_ hQ
      · simp only [sI_1]; rw [if_neg (by decide)]; exact h1
      · intro j hj; simp only [sI_1, if_true]; rw [if_neg (by omega)]; exact ho j hj
      · intro j hj
        simp only [sI_1, if_true]
        by_cases c : j = i
        · subst c; rw [if_pos rfl]
        · rw [if_neg (by omega)]; exact hd j (by omega)
theorem s_Msign {d : Nat} {Q : Qt} {τ : St} {v : Int32} {n : Nat} (hn : n ≤ 76) (h1 : τ.1 69 14 = nI n) (hQ : ∀ τ', Fr [77] [(69, 0), (69, 14)] τ τ' → τ'.1 69 14 = nI (n + 4) → (∀ j, j < n → τ'.1 77 j = τ.1 77 j) → (∀ j, j < 4 → τ'.1 77 (n + j) = sB v j) → Q (some (.int (nI (n + 4)))) τ') : Cl (d + 1) m_M_sign [.ref 69, .int v] τ Q := by
  rw [N_M_sign]
  have h2 : (sI τ 69 0 0).1 69 14 = nI n := h1
  simp only [E_M_sign, fIsA, fRt, fLen, fLit, fBool, h2]
  refine ⟨fun _ => ?_, fun c => absurd (nI_le (a := n) (b := 76) hn (by omega)) c⟩
  exact s_Msign_loop hn 4 0 rfl _ h2 (Fr.rf.i rfl) (fun _ _ => by simp only [sI_1]; rw [if_neg (by decide)]) (fun j hj => absurd hj (Nat.not_lt_zero j)) hQ
theorem s_Msign_no {d : Nat} {Q : Qt} {τ : St} {v : Int32} {n : Nat} (hn : 76 < n) (hn2 : n ≤ 80) (h1 : τ.1 69 14 = nI n) (hQ : Q (some (.int (-1))) (sI τ 69 0 0)) : Cl (d + 1) m_M_sign [.ref 69, .int v] τ Q := by
  rw [N_M_sign]
  have h2 : (sI τ 69 0 0).1 69 14 = nI n := h1
  simp only [E_M_sign, fIsA, fRt, fLen, fLit, fBool, h2]
  exact ⟨fun c => absurd c (nI_ge (a := 76) (b := n) hn (by omega)), fun _ => hQ⟩
/-- sign, both -/
theorem p_sign {d : Nat} {Q : Option Value → Option Value → St → Prop} {τ : St} {v : Int32} {n : Nat} (h : TxI τ n) (hQ : ∀ (x : Int32) (n' : Nat) (τ' : St), TxI τ' n' → Fr [2, 77] [(1, 1), (69, 0), (69, 14)] τ τ' → Q (some (.int x)) (some (.int x)) τ') : Cl (d + 2) m_H_sign [.ref 0, .int v] τ (fun a τ1 => Cl (d + 2) m_M_sign [.ref 69, .int v] τ1 (fun b τ2 => Q a b τ2)) := by
  obtain ⟨hn, h1, h2, h3⟩ := h
  by_cases c : n ≤ 76
  · refine s_Hsign c h1 (fun τ1 a1 a2 a4 a5 => s_Msign (n := n) c (by rw [a1.u1 69 14 rfl]; exact h2) (fun τ2 b1 b2 b4 b5 => hQ _ (n + 4) _ ⟨by omega, ?_, b2, fun j hj => ?_⟩ ((a1.wk rfl).tr (b1.wk rfl))))
    · rw [b1.u1 1 1 rfl]; exact a2
    · rw [b1.c1 2 rfl]
      rcases Nat.lt_or_ge j n with q | q
      · rw [a4 j q, b4 j q, a1.c1 77 rfl]; exact h3 j q
      · obtain ⟨i, rfl⟩ : ∃ i, j = n + i := ⟨j - n, by omega⟩
        rw [a5 i (by omega), b5 i (by omega)]
        obtain ⟨b, e1, e2⟩ := sB_lt v i
        exact ⟨rfl, b, e1, e2⟩
  · exact s_Hsign_no (by omega) hn h1 (s_Msign_no (n := n) (by omega) hn h2 (hQ _ n _ ⟨hn, h1, h2, h3⟩ (Fr.rf.i rfl)))
