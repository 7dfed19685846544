/-! PAIRS: fits, ask (go on) -/
def ush (x n : Int32) : Int32 := (x.toUInt32 >>> (n.toUInt32 &&& Int32.toUInt32 31)).toInt32
def bI1 (i : Int32) : Int32 := i - (ush i 1 &&& 1431655765)
def bI2 (a : Int32) : Int32 := (a &&& 858993459) + (ush a 2 &&& 858993459)
def bI3 (b : Int32) : Int32 := (b + ush b 4) &&& 252645135
def bI4 (c : Int32) : Int32 := c + ush c 8
def bI5 (e : Int32) : Int32 := e + ush e 16
def bI (x : Int32) : Int32 := bI5 (bI4 (bI3 (bI2 (bI1 x)))) &&& 63
theorem s_bitsI {d : Nat} {x : Int32} {Q : Qt} {τ : St} (hQ : Q (some (.int (bI x))) τ) : Cl (d + 1) m_bitsI [.int x] τ Q := by
  rw [N_bitsI]
  simp only [E_bitsI, fIsA, fRt, fLen, fLit, fBool]
  exact hQ
theorem bI_lt (x : Int32) : ∃ j, j < 64 ∧ bI x = nI j := pk_andE _ 6 (by decide)
theorem ftB_fr {cs : List Nat} {fs : List (Nat × Nat)} {τ τ' : St} {ns tn : Nat} (hf : Fr cs fs τ τ') (hd : disF cs fs [73, 95, 96] [] = true) : ftB τ' ns tn = ftB τ ns tn := by
  refine fb_cg ns 0 0 (fun j _ _ => ?_)
  unfold ftM
  rw [(hf.D hd 73 j rfl).1]
  constructor
  · intro h k hk; have := h k hk; rw [(hf.D hd 95 k rfl).1, (hf.D hd 96 k rfl).1] at this; exact this
  · intro h k hk; have := h k hk; rw [(hf.D hd 95 k rfl).1, (hf.D hd 96 k rfl).1]; exact this
theorem p_fits (t : Nat) : PrI t m_H_fits m_M_fits [] := by
  intro ht0 τ h
  obtain ⟨R, C, kd, ht, ns, n, hA, hT, hR⟩ := h
  rw [N_H_fits]
  simp only [E_H_fits, fIsA, fRt, fLen, fLit, fBool]
  refine s_Hfitting hA.2.1 hA.2.2.2.2.2.2.1 (fun tn e1 e2 e3 => ?_)
  simp only [oT, E_H_fits, fIsA, fRt, fLen, fLit, fBool]
  refine s_bitsI ?_
  simp only [oT, E_H_fits, fIsA, fRt, fLen, fLit, fBool]
  refine s_RowOnly ?_
  simp only [oN, E_H_fits, fIsA, fRt, fLen, fLit, fBool]
  rw [N_M_fits]
  simp only [E_M_fits, fIsA, fRt, fLen, fLit, fBool]
  generalize hv : (bI (ftB τ ns tn)).toInt64 = V
  have f1 : Fr [4] [(3, 1), (69, 0)] τ (sI (sI (sL (sI τ 3 1 0) 4 0 V) 3 1 1) 69 0 0) := (((Fr.rf.i rfl).lc rfl).i rfl).i rfl
  have hS := hA.2.1.fr f1 rfl
  refine s_Mfitting hS (by rw [f1.u1 69 45 rfl]; exact e1) e2 (fun i hi => by rw [f1.c1 96 rfl]; exact e3 i hi) ?_
  rw [ftB_fr f1 rfl]
  simp only [oT, E_M_fits, fIsA, fRt, fLen, fLit, fBool]
  refine s_bitsI ?_
  simp only [oT, E_M_fits, fIsA, fRt, fLen, fLit, fBool]
  refine s_Menters (n := 0) rfl (by omega) ?_
  simp only [oN, E_M_fits, fIsA, fRt, fLen, fLit, fBool]
  rw [hv]
  have f2 : Fr [4, 70] [(3, 1), (69, 0), (69, 1)] τ (sI (sL (sI (sI (sI (sL (sI τ 3 1 0) 4 0 V) 3 1 1) 69 0 0) 69 1 0) 70 0 V) 69 1 (nI (0 + 1))) := (((f1.wk rfl).i rfl).lc rfl).i rfl
  exact ok rfl (hA.inv f2 rfl (hT.fr f2 rfl) (RoI.one (v := V) rfl rfl rfl rfl))
/-- how many of m numbers from i on A holds of, above a -/
noncomputable def cn (A : Nat → Prop) : Nat → Nat → Nat → Nat
  | 0, _, a => a
  | m + 1, i, a => cn A m (i + 1) (@ite _ (A i) (Classical.propDecidable _) (a + 1) a)
theorem cn_no {A : Nat → Prop} : ∀ (m i a : Nat), (∀ j, i ≤ j → j < i + m → ¬ A j) → cn A m i a = a
  | 0, i, a, _ => rfl
  | m + 1, i, a, h => by rw [cn, if_neg (h i (by omega) (by omega)), cn_no m (i + 1) a (fun j h1 h2 => h j (by omega) (by omega))]
theorem cn_add {A : Nat → Prop} : ∀ (m k i a : Nat), cn A (m + k) i a = cn A k (i + m) (cn A m i a)
  | 0, k, i, a => by rw [Nat.zero_add]; rfl
  | m + 1, k, i, a => by rw [show m + 1 + k = (m + k) + 1 by omega, cn, cn_add m k (i + 1), cn, show i + 1 + m = i + (m + 1) by omega]
theorem cn_le {A : Nat → Prop} : ∀ (m i a : Nat), cn A m i a ≤ a + m
  | 0, i, a => Nat.le_refl _
  | m + 1, i, a => by
    rw [cn]
    refine Nat.le_trans (cn_le m (i + 1) _) ?_
    split <;> omega
/-- a ship of the bits that weighs v or more -/
def hvA (τ : St) (x v : Int32) (i : Nat) : Prop := bt x i = true ∧ v ≤ τ.1 73 i
theorem s_Hheavy {d ns : Nat} {x v : Int32} {Q : Qt} {τ : St} (hS : ShI τ ns) (hx : ∀ j, ns ≤ j → j < 32 → bt x j = false) (hQ : Q (some (.int (nI (cn (hvA τ x v) ns 0 0)))) τ) : Cl (d + 1) m_H_heavyAmong [.ref 0, .int x, .int v] τ Q := by
  have h8 := hS.1
  rw [N_H_heavyAmong]
  simp only [E_H_heavyAmong, fIsA, fRt, fLen, fLit, fBool]
  have e : cn (hvA τ x v) 8 0 0 = cn (hvA τ x v) ns 0 0 := by
    rw [show 8 = ns + (8 - ns) by omega, cn_add, cn_no (8 - ns)]
    intro j h1 h2 h3
    have h4 := h3.1
    rw [hx j (by omega) (by omega)] at h4
    exact absurd h4 (by decide)
  rw [← e] at hQ
  clear e
  have loop : ∀ (m i a : Nat), i + m = 8 → Q (some (.int (nI (cn (hvA τ x v) m i a)))) τ → Rs M_H_heavyAmong d Q 5 [some (.ref 0), some (.int x), some (.int v), some (.int (nI a)), some (.int (nI i))] [] τ := by
    intro m
    induction m with
    | zero =>
      intro i a hi hQ
      obtain rfl : i = 8 := by omega
      rw [Rs_eq]
      simp only [E_H_heavyAmong, fIsA, fRt, fLen, fLit, fBool]
      exact ⟨fun _ => hQ, fun q => absurd (by decide) q⟩
    | succ m ih =>
      intro i a hi hQ
      rw [Rs_eq]
      simp only [E_H_heavyAmong, fIsA, fRt, fLen, fLit, fBool, nI_1, ubit (x := x) (n := i) (by omega)]
      rw [cn] at hQ
      refine ⟨fun q => absurd q (nI_ge (b := 8) (by omega) (by omega)), fun _ => ⟨fun q => ?_, fun q => ⟨vp_in_nI (by omega) (by omega), ?_⟩⟩⟩
      · have hb : ¬ bt x i = true := fun z => by rw [if_pos z] at q; exact absurd q (by decide)
        rw [if_neg (fun z => hb z.1)] at hQ
        exact ih (i + 1) a (by omega) hQ
      · have hb : bt x i = true := by
          cases z : bt x i with
          | true => rfl
          | false => rw [z] at q; exact absurd rfl q
        have hi2 : i < ns := by
          cases Nat.lt_or_ge i ns with
          | inl h => exact h
          | inr h => rw [hx i h (by omega)] at hb; cases hb
        rw [nI_clamp (by omega), (hS.2.2.2 i hi2).1]
        refine ⟨fun q2 => ?_, fun q2 => ?_⟩
        · rw [if_neg (fun z => Int32.not_lt.mpr z.2 q2)] at hQ
          exact ih (i + 1) a (by omega) hQ
        · rw [if_pos ⟨hb, Int32.not_lt.mp q2⟩] at hQ
          exact ih (i + 1) (a + 1) (by omega) hQ
  exact loop 8 0 0 rfl hQ
theorem p_ask_Mheavy {d ns : Nat} {x v b few : Int32} {Q : Qt} {τ : St} (hS : ShI τ ns) : ∀ (m i a : Nat), i + m = ns → Rs M_M_ask (d + 1) Q 39 [some (.ref 69), some (.int x), some (.int b), some (.int few), some (.int v), some (.int (nI (cn (hvA τ x v) m i a))), some (.int (nI ns))] [] τ → Rs M_M_ask (d + 1) Q 39 [some (.ref 69), some (.int x), some (.int b), some (.int few), some (.int v), some (.int (nI a)), some (.int (nI i))] [] τ
  | 0, i, a, hi, hQ => by
    obtain rfl : i = ns := by omega
    exact hQ
  | m + 1, i, a, hi, hQ => by
    have h8 := hS.1
    rw [cn] at hQ
    rw [Rs_eq]
    simp only [E_M_ask, fIsA, fRt, fLen, fLit, fBool, hS.2.1]
    refine ⟨fun q => absurd q (nI_ge (by omega) (by omega)), fun _ => ?_⟩
    refine s_Mhas (by omega) ?_
    simp only [oT, E_M_ask, fIsA, fRt, fLen, fLit, fBool, nI_1]
    refine ⟨fun q => ?_, fun q => ⟨vp_in_nI (by omega) (by omega), ?_⟩⟩
    · have hb : ¬ bt x i = true := fun z => by rw [if_pos z] at q; exact absurd q (by decide)
      rw [if_neg (fun z => hb z.1)] at hQ
      refine s_flag (Or.inl rfl) ?_
      simp only [oT, E_M_ask, fIsA, fRt, fLen, fLit, fBool, nI_1, nI_z]
      exact p_ask_Mheavy hS m (i + 1) a (by omega) hQ
    · have hb : bt x i = true := by
        cases z : bt x i with
        | true => rfl
        | false => rw [z] at q; exact absurd rfl q
      rw [nI_clamp (by omega)]
      refine ⟨fun q2 => ?_, fun q2 => ?_⟩
      · rw [if_neg (fun z => Int32.not_lt.mpr z.2 q2)] at hQ
        refine s_flag (Or.inl rfl) ?_
        simp only [oT, E_M_ask, fIsA, fRt, fLen, fLit, fBool, nI_1, nI_z]
        exact p_ask_Mheavy hS m (i + 1) a (by omega) hQ
      · rw [if_pos ⟨hb, Int32.not_lt.mp q2⟩] at hQ
        refine s_flag (Or.inr rfl) ?_
        simp only [oT, E_M_ask, fIsA, fRt, fLen, fLit, fBool, nI_1, nI_z]
        exact p_ask_Mheavy hS m (i + 1) (a + 1) (by omega) hQ
/-- what a question leaves at most -/
def lfI (y h : Int32) : Int32 := if h < y - h then y - h else h
noncomputable def lfT (τ : St) (x : Int32) (ns : Nat) (v : Int32) : Int32 := lfI (bI x) (nI (cn (hvA τ x v) ns 0 0))
theorem lf_lt (τ : St) (x : Int32) {ns : Nat} (hn : ns ≤ 8) (v : Int32) : ¬ (1000000 : Int32) ≤ lfT τ x ns v := by
  obtain ⟨j, hj, e⟩ := bI_lt x
  unfold lfT
  rw [e]
  have hc := cn_le (A := hvA τ x v) ns 0 0
  generalize cn (hvA τ x v) ns 0 0 = c at hc ⊢
  unfold lfI
  rw [Int32.not_le, Int32.lt_iff_toInt_lt]
  have e1 : (nI j - nI c).toInt = (j : Int) - c := pk_sub_toInt (by omega) (by omega)
  have e2 : (1000000 : Int32).toInt = 1000000 := by decide
  split
  · rw [e1, e2]; omega
  · rw [nI_toInt (by omega), e2]; omega
noncomputable def akS (L : Int32 → Int32) : Nat → Nat → Int32 × Int32 → Int32 × Int32
  | 0, _, s => s
  | m + 1, v, s => akS L m (v + 1) (if s.2 ≤ L (nI v) then s else (nI v, L (nI v)))
theorem s_Hask_loop {d ns : Nat} {x : Int32} {Q : Qt} {τ : St} (hS : ShI τ ns) (hx : ∀ j, ns ≤ j → j < 32 → bt x j = false) : ∀ (m v : Nat) (s : Int32 × Int32) (u w : Option Value), v + m = 100 → (∃ b : Nat, b ≤ 99 ∧ s.1 = nI b) →
    Q (some (.int (akS (lfT τ x ns) m v s).1)) (sI (sL (sI τ 3 1 0) 4 0 (akS (lfT τ x ns) m v s).2.toInt64) 3 1 1) →
    Rs M_H_ask (d + 2) Q 19 [some (.ref 0), some (.int x), some (.int s.1), some (.int s.2), some (.int (nI v)), u, w] [] τ
  | 0, v, s, u, w, hv, hb, hQ => by
    obtain rfl : v = 100 := by omega
    rw [Rs_eq]
    simp only [E_H_ask, fIsA, fRt, fLen, fLit, fBool]
    refine ⟨fun _ => s_RowOnly ?_, fun q => absurd (by decide) q⟩
    simp only [oN, E_H_ask, fIsA, fRt, fLen, fLit, fBool]
    exact hQ
  | m + 1, v, s, u, w, hv, hb, hQ => by
    rw [Rs_eq]
    simp only [E_H_ask, fIsA, fRt, fLen, fLit, fBool]
    refine ⟨fun q => absurd q (nI_nlt (a := 99) (by omega) (by omega)), fun _ => ?_⟩
    refine s_Hheavy hS hx ?_
    simp only [oT, E_H_ask, fIsA, fRt, fLen, fLit, fBool]
    refine s_bitsI ?_
    simp only [oT, E_H_ask, fIsA, fRt, fLen, fLit, fBool, nI_1]
    rw [akS] at hQ
    have e : (if nI (cn (hvA τ x (nI v)) ns 0 0) < bI x - nI (cn (hvA τ x (nI v)) ns 0 0) then bI x - nI (cn (hvA τ x (nI v)) ns 0 0) else nI (cn (hvA τ x (nI v)) ns 0 0)) = lfT τ x ns (nI v) := rfl
    rw [e]
    obtain ⟨b, b1, b2⟩ := hb
    refine ⟨fun q => ?_, fun q => ⟨fun q2 => ?_, fun q2 => ?_⟩⟩
    · rw [b2] at q
      have := nI_pos' (n := b) (by omega)
      rw [q] at this
      exact absurd this (by decide)
    · rw [if_pos q2] at hQ
      exact s_Hask_loop hS hx m (v + 1) s _ _ (by omega) ⟨b, b1, b2⟩ hQ
    · rw [if_neg q2] at hQ
      exact s_Hask_loop hS hx m (v + 1) (nI v, lfT τ x ns (nI v)) _ _ (by omega) ⟨v, by omega, rfl⟩ hQ
theorem s_Mask_loop {d ns : Nat} {x : Int32} {Q : Qt} {τ : St} (hS : ShI τ ns) : ∀ (m v : Nat) (s : Int32 × Int32) (u w : Option Value), v + m = 100 →
    Q (some (.int (akS (lfT τ x ns) m v s).1)) (sI (sL (sI τ 69 1 0) 70 0 (akS (lfT τ x ns) m v s).2.toInt64) 69 1 1) →
    Rs M_M_ask (d + 2) Q 26 [some (.ref 69), some (.int x), some (.int s.1), some (.int s.2), some (.int (nI v)), u, w] [] τ
  | 0, v, s, u, w, hv, hQ => by
    obtain rfl : v = 100 := by omega
    rw [Rs_eq]
    simp only [E_M_ask, fIsA, fRt, fLen, fLit, fBool]
    refine ⟨fun _ => s_Menters (n := 0) rfl (by omega) ?_, fun q => absurd (by decide) q⟩
    simp only [oN, E_M_ask, fIsA, fRt, fLen, fLit, fBool]
    exact hQ
  | m + 1, v, s, u, w, hv, hQ => by
    rw [Rs_eq]
    simp only [E_M_ask, fIsA, fRt, fLen, fLit, fBool]
    refine ⟨fun q => absurd q (nI_nlt (a := 99) (by omega) (by omega)), fun _ => ?_⟩
    refine p_ask_Mheavy hS ns 0 0 (by omega) ?_
    rw [Rs_eq]
    simp only [E_M_ask, fIsA, fRt, fLen, fLit, fBool, hS.2.1]
    refine ⟨fun _ => ?_, fun q => absurd (Int32.le_refl _) q⟩
    refine s_bitsI ?_
    simp only [oT, E_M_ask, fIsA, fRt, fLen, fLit, fBool, nI_1]
    rw [akS] at hQ
    have e : (if nI (cn (hvA τ x (nI v)) ns 0 0) < bI x - nI (cn (hvA τ x (nI v)) ns 0 0) then bI x - nI (cn (hvA τ x (nI v)) ns 0 0) else nI (cn (hvA τ x (nI v)) ns 0 0)) = lfT τ x ns (nI v) := rfl
    rw [e]
    refine ⟨fun q2 => ?_, fun q2 => ?_⟩
    · rw [if_pos q2] at hQ
      rw [if_neg (Int32.not_lt.mpr q2)]
      exact s_Mask_loop hS m (v + 1) s _ _ (by omega) hQ
    · rw [if_neg q2] at hQ
      rw [if_pos (Int32.not_le.mp q2)]
      exact s_Mask_loop hS m (v + 1) (nI v, lfT τ x ns (nI v)) _ _ (by omega) hQ
theorem lfT_fr {cs : List Nat} {fs : List (Nat × Nat)} {τ τ' : St} {x : Int32} {ns : Nat} (hf : Fr cs fs τ τ') (hd : disF cs fs [73] [] = true) : lfT τ' x ns = lfT τ x ns := by
  funext v
  unfold lfT
  have e : hvA τ' x v = hvA τ x v := by
    funext i
    unfold hvA
    rw [(hf.D hd 73 i rfl).1]
  rw [e]
theorem ftB_big {τ : St} {ns tn : Nat} (hn : ns ≤ 8) (j : Nat) (h1 : ns ≤ j) (h2 : j < 32) : bt (ftB τ ns tn) j = false := by
  unfold ftB
  rw [fb_bt _ j h2 ns 0 0 (by omega), b_0, @decide_eq_false _ (Classical.propDecidable _) (fun z => by have := z.2.1; omega)]
  rfl
theorem p_ask (t : Nat) : PrI t m_H_ask m_M_ask [] := by
  intro ht0 τ h
  obtain ⟨R, C, kd, ht, ns, n, hA, hT, hR⟩ := h
  have hS := hA.2.1
  rw [N_H_ask]
  simp only [E_H_ask, fIsA, fRt, fLen, fLit, fBool]
  refine s_Hfitting hS hA.2.2.2.2.2.2.1 (fun tn e1 e2 e3 => ?_)
  simp only [oT, E_H_ask, fIsA, fRt, fLen, fLit, fBool]
  generalize hx : ftB τ ns tn = x
  have hbig : ∀ j, ns ≤ j → j < 32 → bt x j = false := by rw [← hx]; exact ftB_big hS.1
  refine ⟨fun q => ?_, fun q => ?_⟩
  · -- the class's first round
    rw [Rs_eq]
    simp only [E_H_ask, fIsA, fRt, fLen, fLit, fBool]
    refine ⟨fun q => absurd q (by decide), fun _ => ?_⟩
    refine s_Hheavy hS hbig ?_
    simp only [oT, E_H_ask, fIsA, fRt, fLen, fLit, fBool]
    refine s_bitsI ?_
    simp only [oT, E_H_ask, fIsA, fRt, fLen, fLit, fBool]
    have e : (if nI (cn (hvA τ x 1) ns 0 0) < bI x - nI (cn (hvA τ x 1) ns 0 0) then bI x - nI (cn (hvA τ x 1) ns 0 0) else nI (cn (hvA τ x 1) ns 0 0)) = lfT τ x ns 1 := rfl
    rw [e]
    refine s_Hask_loop hS hbig 98 2 (1, lfT τ x ns 1) _ _ (by omega) ⟨1, by omega, rfl⟩ ?_
    generalize hs : akS (lfT τ x ns) 98 2 (1, lfT τ x ns 1) = s
    rw [N_M_ask]
    simp only [E_M_ask, fIsA, fRt, fLen, fLit, fBool]
    generalize hv : s.2.toInt64 = V
    have f1 : Fr [4] [(3, 1), (69, 0)] τ (sI (sI (sL (sI τ 3 1 0) 4 0 V) 3 1 1) 69 0 0) := (((Fr.rf.i rfl).lc rfl).i rfl).i rfl
    refine s_Mfitting (hS.fr f1 rfl) (by rw [f1.u1 69 45 rfl]; exact e1) e2 (fun i hi => by rw [f1.c1 96 rfl]; exact e3 i hi) ?_
    rw [ftB_fr f1 rfl, hx]
    simp only [oT, E_M_ask, fIsA, fRt, fLen, fLit, fBool]
    refine ⟨fun _ => ?_, fun z => absurd z q⟩
    refine s_Mask_loop (hS.fr f1 rfl) 99 1 (-1, 1000000) _ _ (by omega) ?_
    rw [lfT_fr f1 rfl]
    have e2 : akS (lfT τ x ns) 99 1 (-1, 1000000) = s := by
      rw [akS, if_neg (lf_lt τ x hS.1 _)]
      exact hs
    rw [e2, hv]
    have f2 : Fr [4, 70] [(3, 1), (69, 0), (69, 1)] τ (sI (sL (sI (sI (sI (sL (sI τ 3 1 0) 4 0 V) 3 1 1) 69 0 0) 69 1 0) 70 0 V) 69 1 1) := (((f1.wk rfl).i rfl).lc rfl).i rfl
    exact ok rfl (hA.inv f2 rfl (hT.fr f2 rfl) (RoI.one (v := V) rfl rfl rfl rfl))
  · rw [N_M_ask]
    simp only [E_M_ask, fIsA, fRt, fLen, fLit, fBool]
    refine s_Mfitting (hS.fr (fr690 (v := 0)) rfl) e1 e2 (fun i hi => e3 i hi) ?_
    rw [ftB_fr (fr690 (v := 0)) rfl, hx]
    simp only [oT, E_M_ask, fIsA, fRt, fLen, fLit, fBool]
    exact ⟨fun z => absurd q z, fun _ => ok rfl (hA.inv3 hT hR (fr690 (v := 0)) rfl)⟩
