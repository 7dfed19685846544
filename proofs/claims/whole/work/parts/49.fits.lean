/-! bits; PAIRS: fits, ask -/
theorem bt_lt {x : Int32} {i : Nat} (h : bt x i = true) : i < 32 := by
  cases Nat.lt_or_ge i 32 with
  | inl h2 => exact h2
  | inr h2 => rw [b_big h2] at h; cases h
theorem b_one : ∀ i, i < 32 → bt 1 i = decide (i = 0) := by decide +kernel
theorem and1 (x : Int32) : x &&& 1 = if bt x 0 then 1 else 0 := by
  apply b_ext
  intro i hi
  rw [b_and, b_one i hi]
  by_cases c : i = 0
  · subst c
    cases bt x 0 <;> rfl
  · rw [decide_eq_false c, Bool.and_false]
    split
    · rw [b_one i hi, decide_eq_false c]
    · rw [b_0]
theorem ubit {x : Int32} {n : Nat} (hn : n < 32) : ((x.toUInt32 >>> ((nI n).toUInt32 &&& Int32.toUInt32 31)).toInt32) &&& 1 = if bt x n then 1 else 0 := by
  rw [and1, b_ushr n hn]; rfl
theorem sbit {x : Int32} {n : Nat} (hn : n < 32) : (x >>> (nI n &&& 31)) &&& 1 = if bt x n then 1 else 0 := by
  rw [and1, b_sshr n hn _ (by omega), if_pos (show n + 0 < 32 by omega)]; rfl
theorem shl1 {n i : Nat} (hn : n < 32) (hi : i < 32) : bt (1 <<< (nI n &&& 31)) i = decide (i = n) := by
  rw [b_shl n hn _ hi]
  by_cases c : n ≤ i
  · rw [b_one _ (by omega)]
    by_cases c2 : i = n
    · rw [decide_eq_true c, decide_eq_true c2, decide_eq_true (by omega)]; rfl
    · rw [decide_eq_false c2, decide_eq_false (p := i - n = 0) (by omega), Bool.and_false]
  · rw [decide_eq_false c, decide_eq_false (p := i = n) (by omega)]; rfl
theorem s_Mhas {d n : Nat} {x : Int32} {Q : Qt} {τ : St} (hn : n < 32) (hQ : Q (some (.int (if bt x n then 1 else 0))) τ) : Cl (d + 1) m_M_has [.int x, .int (nI n)] τ Q := by
  rw [N_M_has]
  simp only [E_M_has, fIsA, fRt, fLen, fLit, fBool, sbit hn]
  cases c : bt x n with
  | true => rw [c] at hQ; exact ⟨fun z => absurd rfl z, fun _ => hQ⟩
  | false => rw [c] at hQ; exact ⟨fun _ => hQ, fun z => absurd z (by decide)⟩
/-- a gets the bits i, i + 1, .. of which A holds, m of them looked at -/
noncomputable def fb (A : Nat → Prop) : Nat → Nat → Int32 → Int32
  | 0, _, a => a
  | m + 1, i, a => fb A m (i + 1) (@ite _ (A i) (Classical.propDecidable _) (a ||| (1 <<< (nI i &&& 31))) a)
theorem fb_bt (A : Nat → Prop) (j : Nat) (hj : j < 32) : ∀ (m i : Nat) (a : Int32), i + m ≤ 32 → bt (fb A m i a) j = (bt a j || @decide (i ≤ j ∧ j < i + m ∧ A j) (Classical.propDecidable _))
  | 0, i, a, h => by
    rw [fb, @decide_eq_false _ (Classical.propDecidable _) (by omega), Bool.or_false]
  | m + 1, i, a, h => by
    rw [fb, fb_bt A j hj m (i + 1) _ (by omega)]
    by_cases c : A i
    · rw [if_pos c, b_or, shl1 (by omega) hj, Bool.or_assoc]
      congr 1
      by_cases c2 : j = i
      · subst c2; rw [decide_eq_true rfl, @decide_eq_true (j ≤ j ∧ j < j + (m + 1) ∧ A j) (Classical.propDecidable _) ⟨Nat.le_refl _, by omega, c⟩]; rfl
      · rw [decide_eq_false c2, Bool.false_or]
        congr 1
        refine propext ⟨fun z => ⟨by omega, by omega, z.2.2⟩, fun z => ⟨by omega, by omega, z.2.2⟩⟩
    · rw [if_neg c]
      congr 1
      congr 1
      refine propext ⟨fun z => ⟨by omega, by omega, z.2.2⟩, fun z => ⟨?_, by omega, z.2.2⟩⟩
      have : j ≠ i := fun e => c (e ▸ z.2.2)
      omega
theorem fb_cg {A B : Nat → Prop} : ∀ (m i : Nat) (a : Int32), (∀ j, i ≤ j → j < i + m → (A j ↔ B j)) → fb A m i a = fb B m i a
  | 0, i, a, _ => rfl
  | m + 1, i, a, h => by
    rw [fb, fb, fb_cg m (i + 1) _ (fun j h1 h2 => h j (by omega) (by omega))]
    congr 1
    by_cases c : A i
    · rw [if_pos c, if_pos ((h i (by omega) (by omega)).mp c)]
    · rw [if_neg c, if_neg (fun z => c ((h i (by omega) (by omega)).mpr z))]
theorem s_allow {d w lo hi : Nat} {Q : Qt} {τ : St} (h1 : τ.1 63 1 = nI lo) (h2 : τ.1 63 2 = nI hi) (hw : w ≤ 99) (hl : lo ≤ 99) (hh : hi ≤ 99) (y : lo ≤ w ∧ w ≤ hi → Q (some (.int 1)) τ) (n : ¬ (lo ≤ w ∧ w ≤ hi) → Q (some (.int 0)) τ) : Cl (d + 1) m_Traces_allow [.ref 63, .int (nI w)] τ Q := by
  rw [N_Traces_allow]
  simp only [E_Traces_allow, fIsA, fRt, fLen, fLit, fBool, h1, h2, nI_ltI (show w < 2 ^ 31 by omega) (show lo < 2 ^ 31 by omega), nI_ltI (show hi < 2 ^ 31 by omega) (show w < 2 ^ 31 by omega)]
  exact ⟨fun c => n (by omega), fun c => ⟨fun c2 => n (by omega), fun c2 => y (by omega)⟩⟩
/-- a ship's traces all fit -/
def ftA (τ : St) (lo hi : Nat) (i : Nat) : Prop := nI lo ≤ τ.1 73 i ∧ τ.1 73 i ≤ nI hi
theorem ftA_iff {τ : St} {lo hi i w : Nat} (hl : lo ≤ 99) (hh : hi ≤ 99) (hw : w ≤ 99) (h : τ.1 73 i = nI w) : ftA τ lo hi i ↔ lo ≤ w ∧ w ≤ hi := by
  unfold ftA
  rw [h, nI_leI (by omega) (by omega), nI_leI (by omega) (by omega)]
theorem s_Hfit_loop {d ns lo hi : Nat} {Q : Qt} {τ : St} (hS : ShI τ ns) (h1 : τ.1 63 1 = nI lo) (h2 : τ.1 63 2 = nI hi) (hl : lo ≤ 99) (hh : hi ≤ 99) : ∀ (m i : Nat) (a : Int32), i + m = ns → Q (some (.int (fb (ftA τ lo hi) m i a))) τ → Rs M_H_fitting (d + 1) Q 4 [some (.ref 0), some (.int a), some (.int (nI i))] [] τ
  | 0, i, a, hi, hQ => by
    obtain rfl : i = ns := by omega
    rw [Rs_eq]
    simp only [E_H_fitting, fIsA, fRt, fLen, fLit, fBool, hS.2.2.1]
    exact ⟨fun _ => hQ, fun q => absurd (Int32.le_refl _) q⟩
  | m + 1, i, a, hi, hQ => by
    have h8 := hS.1
    obtain ⟨e1, w, w1, w2, e2⟩ := hS.2.2.2 i (by omega)
    rw [Rs_eq]
    simp only [E_H_fitting, fIsA, fRt, fLen, fLit, fBool, hS.2.2.1]
    refine ⟨fun q => absurd q (nI_ge (by omega) (by omega)), fun _ => ⟨fun q => absurd q (nI_ge (b := 8) (by omega) (by omega)), fun _ => ⟨vp_in_nI (by omega) (by omega), ?_⟩⟩⟩
    rw [nI_clamp (by omega), e1, e2]
    rw [fb] at hQ
    refine s_allow h1 h2 w2 hl hh (fun c => ?_) (fun c => ?_)
    · simp only [oT, E_H_fitting, fIsA, fRt, fLen, fLit, fBool, nI_1]
      rw [if_pos ((ftA_iff hl hh w2 e2).mpr c)] at hQ
      exact s_Hfit_loop hS h1 h2 hl hh m (i + 1) _ (by omega) hQ
    · simp only [oT, E_H_fitting, fIsA, fRt, fLen, fLit, fBool, nI_1]
      rw [if_neg (fun z => c ((ftA_iff hl hh w2 e2).mp z))] at hQ
      exact s_Hfit_loop hS h1 h2 hl hh m (i + 1) _ (by omega) hQ
/-- a ship's traces all fit, by the reference -/
def ftM (τ : St) (tn i : Nat) : Prop := ∀ k, k < tn → (τ.1 95 k ≤ τ.1 73 i ↔ τ.1 96 k = 1)
theorem s_Mfit_in {d ns tn : Nat} {Q : Qt} {τ : St} (hS : ShI τ ns) (h1 : τ.1 69 45 = nI tn) (htn : tn ≤ 12) (h9 : ∀ i : Nat, i < tn → τ.1 96 i = 0 ∨ τ.1 96 i = 1) {i : Nat} (hi : i < ns) {a : Int32}
    (yes : ftM τ tn i → ∀ u v, Rs M_M_fitting (d + 1) Q 4 [some (.ref 69), some (.int (a ||| (1 <<< (nI i &&& 31)))), some (.int (nI (i + 1))), u, v] [] τ)
    (no : ¬ ftM τ tn i → ∀ u v, Rs M_M_fitting (d + 1) Q 4 [some (.ref 69), some (.int a), some (.int (nI (i + 1))), u, v] [] τ) :
    ∀ (m k : Nat) (f : Int32), k + m = tn → (f = 1 ∧ (∀ j, j < k → (τ.1 95 j ≤ τ.1 73 i ↔ τ.1 96 j = 1)) ∨ f = 0 ∧ ¬ ftM τ tn i) → Rs M_M_fitting (d + 1) Q 17 [some (.ref 69), some (.int a), some (.int (nI i)), some (.int f), some (.int (nI k))] [] τ
  | 0, k, f, hk, hf => by
    obtain rfl : k = tn := by omega
    rw [Rs_eq]
    simp only [E_M_fitting, fIsA, fRt, fLen, fLit, fBool, h1, nI_1, Int32.or_zero]
    refine ⟨fun _ => ⟨fun q => ?_, fun q => ?_⟩, fun q => absurd (Int32.le_refl _) q⟩
    · rcases hf with hf | hf
      · rw [hf.1] at q; exact absurd q (by decide)
      · exact no hf.2 _ _
    · rcases hf with hf | hf
      · exact yes hf.2 _ _
      · exact absurd hf.1 q
  | m + 1, k, f, hk, hf => by
    have h8 := hS.1
    rw [Rs_eq]
    simp only [E_M_fitting, fIsA, fRt, fLen, fLit, fBool, h1, nI_1]
    refine ⟨fun q => absurd q (nI_ge (by omega) (by omega)), fun _ => ⟨fun q => ?_, fun q => ⟨vp_in_nI (by omega) (by omega), vp_in_nI (by omega) (by omega), ?_⟩⟩⟩
    · have hf2 : ¬ ftM τ tn i := by
        rcases hf with hf | hf
        · rw [hf.1] at q; exact absurd q (by decide)
        · exact hf.2
      exact s_Mfit_in hS h1 htn h9 hi yes no m (k + 1) 0 (by omega) (Or.inr ⟨rfl, hf2⟩)
    · have hf2 : f = 1 ∧ (∀ j, j < k → (τ.1 95 j ≤ τ.1 73 i ↔ τ.1 96 j = 1)) := by
        rcases hf with hf | hf
        · exact hf
        · exact absurd hf.1 q
      rw [nI_clamp (by omega), nI_clamp (by omega)]
      have stp : (τ.1 95 k ≤ τ.1 73 i ↔ τ.1 96 k = 1) → ∀ j, j < k + 1 → (τ.1 95 j ≤ τ.1 73 i ↔ τ.1 96 j = 1) := fun z j hj => by
        by_cases e : j = k
        · subst e; exact z
        · exact hf2.2 j (by omega)
      have bad : ¬ (τ.1 95 k ≤ τ.1 73 i ↔ τ.1 96 k = 1) → ¬ ftM τ tn i := fun z w => z (w k (by omega))
      have h01 := h9 k (by omega)
      refine ⟨fun q2 => s_flag (Or.inl rfl) ?_, fun q2 => s_flag (Or.inr rfl) ?_⟩
      · simp only [oT, E_M_fitting, fIsA, fRt, fLen, fLit, fBool, h1, nI_1]
        refine ⟨vp_in_nI (by omega) (by omega), ?_⟩
        rw [nI_clamp (by omega)]
        have q2 := Int32.not_le.mpr q2
        refine ⟨fun q3 => ?_, fun q3 => ?_⟩
        · refine s_Mfit_in hS h1 htn h9 hi yes no m (k + 1) 0 (by omega) (Or.inr ⟨rfl, bad (fun z => q2 (z.mpr ?_))⟩)
          rcases h01 with h | h
          · exact absurd h.symm q3
          · exact h
        · refine s_Mfit_in hS h1 htn h9 hi yes no m (k + 1) 1 (by omega) (Or.inl ⟨rfl, stp ⟨fun z => absurd z q2, fun z => ?_⟩⟩)
          rw [← q3] at z; exact absurd z (by decide)
      · simp only [oT, E_M_fitting, fIsA, fRt, fLen, fLit, fBool, h1, nI_1]
        refine ⟨vp_in_nI (by omega) (by omega), ?_⟩
        rw [nI_clamp (by omega)]
        have q2 := Int32.not_lt.mp q2
        refine ⟨fun q3 => ?_, fun q3 => ?_⟩
        · exact s_Mfit_in hS h1 htn h9 hi yes no m (k + 1) 0 (by omega) (Or.inr ⟨rfl, bad (fun z => q3 (z.mp q2).symm)⟩)
        · exact s_Mfit_in hS h1 htn h9 hi yes no m (k + 1) 1 (by omega) (Or.inl ⟨rfl, stp ⟨fun _ => q3.symm, fun _ => q2⟩⟩)
theorem s_Mfit_loop {d ns tn : Nat} {Q : Qt} {τ : St} (hS : ShI τ ns) (h1 : τ.1 69 45 = nI tn) (htn : tn ≤ 12) (h9 : ∀ i : Nat, i < tn → τ.1 96 i = 0 ∨ τ.1 96 i = 1) : ∀ (m i : Nat) (a : Int32) (u v : Option Value), i + m = ns → Q (some (.int (fb (ftM τ tn) m i a))) τ → Rs M_M_fitting (d + 1) Q 4 [some (.ref 69), some (.int a), some (.int (nI i)), u, v] [] τ
  | 0, i, a, u, v, hi, hQ => by
    obtain rfl : i = ns := by omega
    rw [Rs_eq]
    simp only [E_M_fitting, fIsA, fRt, fLen, fLit, fBool, hS.2.1]
    exact ⟨fun _ => hQ, fun q => absurd (Int32.le_refl _) q⟩
  | m + 1, i, a, u, v, hi, hQ => by
    have h8 := hS.1
    rw [Rs_eq]
    simp only [E_M_fitting, fIsA, fRt, fLen, fLit, fBool, hS.2.1]
    refine ⟨fun q => absurd q (nI_ge (by omega) (by omega)), fun _ => ?_⟩
    rw [fb] at hQ
    refine s_Mfit_in hS h1 htn h9 (by omega) (fun c u v => ?_) (fun c u v => ?_) tn 0 1 (by omega) (Or.inl ⟨rfl, fun j hj => absurd hj (Nat.not_lt_zero j)⟩)
    · rw [if_pos c] at hQ
      exact s_Mfit_loop hS h1 htn h9 m (i + 1) _ _ _ (by omega) hQ
    · rw [if_neg c] at hQ
      exact s_Mfit_loop hS h1 htn h9 m (i + 1) _ _ _ (by omega) hQ
/-- the bits of the ships that fit -/
noncomputable def ftB (τ : St) (ns tn : Nat) : Int32 := fb (ftM τ tn) ns 0 0
theorem s_Hfitting {d ns : Nat} {Q : Qt} {τ : St} (hS : ShI τ ns) (hT : TrI τ) (hQ : ∀ tn, τ.1 69 45 = nI tn → tn ≤ 12 → (∀ i : Nat, i < tn → τ.1 96 i = 0 ∨ τ.1 96 i = 1) → Q (some (.int (ftB τ ns tn))) τ) : Cl (d + 2) m_H_fitting [.ref 0] τ Q := by
  obtain ⟨tn, lo, hi, g1, g2, g3, g4, g5, g6, g7, g8, g9, g10⟩ := hT
  rw [N_H_fitting]
  simp only [E_H_fitting, fIsA, fRt, fLen, fLit, fBool]
  refine s_Hfit_loop hS g7 g8 g3 g4 ns 0 0 (by omega) ?_
  have e : fb (ftA τ lo hi) ns 0 0 = ftB τ ns tn := fb_cg ns 0 0 (fun j _ hj => by
    obtain ⟨_, w, w1, w2, e2⟩ := hS.2.2.2 j (by omega)
    rw [ftA_iff g3 g4 w2 e2, g10 w w1 w2]
    unfold ftM
    rw [e2])
  rw [e]
  exact hQ tn g6 g1 g9
theorem s_Mfitting {d ns tn : Nat} {Q : Qt} {τ : St} (hS : ShI τ ns) (h1 : τ.1 69 45 = nI tn) (htn : tn ≤ 12) (h9 : ∀ i : Nat, i < tn → τ.1 96 i = 0 ∨ τ.1 96 i = 1) (hQ : Q (some (.int (ftB τ ns tn))) τ) : Cl (d + 2) m_M_fitting [.ref 69] τ Q := by
  rw [N_M_fitting]
  simp only [E_M_fitting, fIsA, fRt, fLen, fLit, fBool]
  exact s_Mfit_loop hS h1 htn h9 ns 0 0 _ _ (by omega) hQ
