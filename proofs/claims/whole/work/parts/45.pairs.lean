/-! PAIRS of calls, the first ones: end, set, kind, quiet, forget, trace -/
theorem ok {t : Nat} {x y : Int32} {τ : St} (e : x = y) (h : Inv (t + 1) τ) : (∃ z : Int32, some (Value.int x) = some (.int z) ∧ some (Value.int y) = some (.int z)) ∧ Inv (t + 1) τ := ⟨⟨x, rfl, by rw [e]⟩, h⟩
theorem IA.inv {t R C ns n : Nat} {kd ht : Nat → Nat} {cs : List Nat} {fs : List (Nat × Nat)} {τ τ' : St} (h : IA t R C kd ht ns τ) (hf : Fr cs fs τ τ') (hd : disF cs fs IAD IAE = true) (hT : TxI τ' n) (hR : RoI τ') : Inv (t + 1) τ' := ⟨R, C, kd, ht, ns, n, h.fr hf hd (Nat.le_succ t), hT, hR⟩
/-- .. also with the text and the row left -/
theorem IA.inv3 {t R C ns n : Nat} {kd ht : Nat → Nat} {cs : List Nat} {fs : List (Nat × Nat)} {τ τ' : St} (h : IA t R C kd ht ns τ) (hT : TxI τ n) (hR : RoI τ) (hf : Fr cs fs τ τ') (hd : disF cs fs (IAD ++ [2, 77, 4, 70]) (IAE ++ [(1, 1), (69, 14), (3, 1), (69, 1)]) = true) : Inv (t + 1) τ' := h.inv hf (disF_sub hd rfl) (hT.fr hf (disF_sub hd rfl)) (hR.fr hf (disF_sub hd rfl))
theorem of0 {x : Int32} {n : Nat} (h1 : 0 ≤ x) (h2 : x ≤ nI n) (hn : n < 2 ^ 31) : ∃ j, j ≤ n ∧ x = nI j := by
  obtain ⟨j, hj, rfl⟩ := nI_of (Int32.not_lt.mpr h1)
  exact ⟨j, (nI_leI hj hn).mp h2, rfl⟩
theorem fr690 {τ : St} {v : Int32} : Fr [] [(69, 0)] τ (sI τ 69 0 v) := Fr.rf.i rfl
theorem nlt {a b : Int32} (h : a ≤ b) : ¬ b < a := Int32.not_lt.mpr h
theorem s_inI {d : Nat} {Q : Qt} {τ : St} {v : Int32} {x y : Int64} (lo : Int32) (hx : lo.toInt64 = x) (hi : Int32) (hy : hi.toInt64 = y) (h1 : lo ≤ v → v ≤ hi → Q (some (.int 1)) τ) (h0 : ¬ (lo ≤ v ∧ v ≤ hi) → Q (some (.int 0)) τ) : Cl (d + 1) m_M_in [.long v.toInt64, .long x, .long y] τ Q := by
  refine s_MinI lo hx hi hy ?_
  by_cases c : lo ≤ v ∧ v ≤ hi
  · rw [if_pos c]; exact h1 c.1 c.2
  · rw [if_neg c]; exact h0 c
theorem s_RowOnly {d : Nat} {Q : Qt} {τ : St} {v : Int64} (hQ : Q none (sI (sL (sI τ 3 1 0) 4 0 v) 3 1 1)) : Cl (d + 2) m_Row_only [.ref 3, .long v] τ Q := by
  rw [N_Row_only]
  simp only [E_Row_only, fIsA, fRt, fLen, fLit, fBool]
  rw [N_Row_clear]
  simp only [E_Row_clear, oN, E_Row_only, fIsA, fRt, fLen, fLit, fBool]
  rw [N_Row_add]
  simp only [E_Row_add, oN, E_Row_only, fIsA, fRt, fLen, fLit, fBool, sI_1, sL_1, reduceIte, Nat.reduceEqDiff]
  exact ⟨fun c => absurd c (by decide), fun _ => ⟨vp_in_nI (n := 0) (by omega) (by omega), hQ⟩⟩
theorem s_RowAdd {d n : Nat} {Q : Qt} {τ : St} {v : Int64} (h : τ.1 3 1 = nI n) (hn : n < 36) (hQ : Q none (sI (sL τ 4 n v) 3 1 (nI (n + 1)))) : Cl (d + 1) m_Row_add [.ref 3, .long v] τ Q := by
  rw [N_Row_add]
  simp only [E_Row_add, oN, fIsA, fRt, fLen, fLit, fBool, h]
  refine ⟨fun c => absurd c (nI_pos (by omega)), fun _ => ⟨fun c => absurd c (nI_ge (a := n) (b := 36) (by omega) (by omega)), fun _ => ⟨vp_in_nI (by omega) (by omega), ?_⟩⟩⟩
  simp only [sL_1, h, nI_clamp (show n < 2 ^ 31 by omega), nI_1]
  exact hQ
theorem s_RowBoth {d : Nat} {Q : Qt} {τ : St} {v w : Int64} (hQ : Q none (sI (sL (sI (sL (sI τ 3 1 0) 4 0 v) 3 1 1) 4 1 w) 3 1 2)) : Cl (d + 2) m_Row_both [.ref 3, .long v, .long w] τ Q := by
  rw [N_Row_both]
  simp only [E_Row_both, fIsA, fRt, fLen, fLit, fBool]
  rw [N_Row_clear]
  simp only [E_Row_clear, oN, E_Row_both, fIsA, fRt, fLen, fLit, fBool]
  refine s_RowAdd (n := 0) rfl (by omega) ?_
  simp only [oN, E_Row_both, fIsA, fRt, fLen, fLit, fBool]
  refine s_RowAdd (n := 1) rfl (by omega) ?_
  simp only [oN, E_Row_both, fIsA, fRt, fLen, fLit, fBool]
  exact hQ
theorem s_Menters {d n : Nat} {Q : Qt} {τ : St} {v : Int64} (h : τ.1 69 1 = nI n) (hn : n < 48) (hQ : Q none (sI (sL τ 70 n v) 69 1 (nI (n + 1)))) : Cl (d + 1) m_M_enters [.ref 69, .long v] τ Q := by
  rw [N_M_enters]
  simp only [E_M_enters, oN, fIsA, fRt, fLen, fLit, fBool, h]
  refine ⟨vp_in_nI (by omega) (by omega), ?_⟩
  simp only [sL_1, h, nI_clamp (show n < 2 ^ 31 by omega), nI_1]
  exact hQ
theorem RoI.one {τ : St} {v : Int64} (h1 : τ.1 3 1 = 1) (h2 : τ.1 69 1 = 1) (h3 : τ.2 4 0 = v) (h4 : τ.2 70 0 = v) : RoI τ := ⟨1, by omega, h1, h2, fun j hj => by
  obtain rfl : j = 0 := by omega
  rw [h3, h4]⟩
theorem RoI.two {τ : St} {v w : Int64} (h1 : τ.1 3 1 = 2) (h2 : τ.1 69 1 = 2) (h3 : τ.2 4 0 = v) (h4 : τ.2 70 0 = v) (h5 : τ.2 4 1 = w) (h6 : τ.2 70 1 = w) : RoI τ := ⟨2, by omega, h1, h2, fun j hj => by
  rcases (show j = 0 ∨ j = 1 by omega) with rfl | rfl
  · rw [h3, h4]
  · rw [h5, h6]⟩
theorem p_end (t : Nat) (v : Int32) : PrI t m_H_end m_M_end [.int v] := by
  intro _ τ h
  obtain ⟨R, C, kd, ht, ns, n, hA, hT, hR⟩ := h
  have ⟨hn, h1, h2, h3⟩ := hT
  rw [N_H_end]
  simp only [E_H_end, fIsA, fRt, fLen, fLit, fBool]
  rw [N_Text_cutTo]
  simp only [E_Text_cutTo, oT, E_H_end, fIsA, fRt, fLen, fLit, fBool, h1]
  have no : ¬ (0 ≤ v ∧ v ≤ nI n) → Cl 900 m_M_end [Value.ref 69, Value.int v] τ fun b τ2 => (∃ x, some (Value.int 0) = some (Value.int x) ∧ b = some (Value.int x)) ∧ Inv (t + 1) τ2 := fun c => by
    rw [N_M_end]
    simp only [E_M_end, fIsA, fRt, fLen, fLit, fBool, sI_1, reduceIte, Nat.reduceEqDiff, h2]
    refine s_inI 0 rfl (nI n) rfl (fun c1 c2 => absurd ⟨c1, c2⟩ c) (fun _ => ?_)
    simp only [oT, E_M_end, fIsA, fRt, fLen, fLit, fBool]
    exact ok rfl (hA.inv3 hT hR fr690 rfl)
  by_cases c : 0 ≤ v ∧ v ≤ nI n
  · refine ⟨fun z => absurd z (nlt c.1), fun _ => ⟨fun _ => ?_, fun z => absurd c.2 z⟩⟩
    rw [N_M_end]
    simp only [E_M_end, fIsA, fRt, fLen, fLit, fBool, sI_1, reduceIte, Nat.reduceEqDiff, h2]
    refine s_inI 0 rfl (nI n) rfl (fun c1 c2 => ?_) (fun z => absurd c z)
    simp only [oT, E_M_end, fIsA, fRt, fLen, fLit, fBool]
    obtain ⟨k, hk, rfl⟩ := of0 c.1 c.2 (by omega)
    have hf : Fr [] [(69, 0), (1, 1), (69, 14)] τ (sI (sI (sI τ 1 1 (nI k)) 69 0 0) 69 14 (nI k)) := ((Fr.rf.i rfl).i rfl).i rfl
    exact ok rfl (hA.inv hf rfl (n := k) ⟨by omega, rfl, rfl, fun j hj => h3 j (by omega)⟩ (hR.fr hf rfl))
  · exact ⟨fun z => no c, fun z => ⟨fun z2 => absurd ⟨Int32.not_lt.mp z, z2⟩ c, fun _ => no c⟩⟩
theorem fIx : (vp_in 44 50 = True) ∧ (vp_in 45 50 = True) ∧ (vp_in 46 50 = True) ∧ (vp_in 47 50 = True) ∧ (vp_in 48 50 = True) ∧ (vp_in 49 50 = True) ∧ (vp_in 0 2 = True) ∧ (vp_in 1 2 = True) ∧ (vp_in 0 5 = True) ∧ (vp_in 1 5 = True) ∧ (vp_in 2 5 = True) ∧ (vp_in 3 5 = True) ∧ (vp_in 4 5 = True) ∧ (vp_in 0 8 = True) ∧ (vp_in 0 36 = True) ∧ (vp_in 0 61 = True) ∧ (vp_in 0 1281 = True) ∧ ((0 : Int32).toNatClampNeg = 0) ∧ ((1 : Int32).toNatClampNeg = 1) ∧ ((2 : Int32).toNatClampNeg = 2) ∧ ((3 : Int32).toNatClampNeg = 3) ∧ ((4 : Int32).toNatClampNeg = 4) ∧ ((44 : Int32).toNatClampNeg = 44) ∧ ((45 : Int32).toNatClampNeg = 45) ∧ ((46 : Int32).toNatClampNeg = 46) ∧ ((47 : Int32).toNatClampNeg = 47) ∧ ((48 : Int32).toNatClampNeg = 48) ∧ ((49 : Int32).toNatClampNeg = 49) := ⟨eq_true (vp_in_nI (n := 44) (by omega) (by omega)), eq_true (vp_in_nI (n := 45) (by omega) (by omega)), eq_true (vp_in_nI (n := 46) (by omega) (by omega)), eq_true (vp_in_nI (n := 47) (by omega) (by omega)), eq_true (vp_in_nI (n := 48) (by omega) (by omega)), eq_true (vp_in_nI (n := 49) (by omega) (by omega)), eq_true (vp_in_nI (n := 0) (by omega) (by omega)), eq_true (vp_in_nI (n := 1) (by omega) (by omega)), eq_true (vp_in_nI (n := 0) (by omega) (by omega)), eq_true (vp_in_nI (n := 1) (by omega) (by omega)), eq_true (vp_in_nI (n := 2) (by omega) (by omega)), eq_true (vp_in_nI (n := 3) (by omega) (by omega)), eq_true (vp_in_nI (n := 4) (by omega) (by omega)), eq_true (vp_in_nI (n := 0) (by omega) (by omega)), eq_true (vp_in_nI (n := 0) (by omega) (by omega)), eq_true (vp_in_nI (n := 0) (by omega) (by omega)), eq_true (vp_in_nI (n := 0) (by omega) (by omega)), nI_clamp (n := 0) (by omega), nI_clamp (n := 1) (by omega), nI_clamp (n := 2) (by omega), nI_clamp (n := 3) (by omega), nI_clamp (n := 4) (by omega), nI_clamp (n := 44) (by omega), nI_clamp (n := 45) (by omega), nI_clamp (n := 46) (by omega), nI_clamp (n := 47) (by omega), nI_clamp (n := 48) (by omega), nI_clamp (n := 49) (by omega)⟩
theorem lt0 (x : Int32) : x < 0 ↔ bt x 31 = true := by
  rw [Int32.lt_iff_toInt_lt]
  have e : bt x 31 = x.toBitVec.msb := by rw [BitVec.msb_eq_getLsbD_last]; rfl
  rw [e, BitVec.msb_eq_toInt, decide_eq_true_iff]
  exact Iff.rfl
theorem xor4 {i : Nat} (hi : i < 2 ^ 31) : 0 ≤ nI i ^^^ 4 := by
  rw [← Int32.not_lt, lt0, b_xor]
  have h1 : bt (nI i) 31 = false := by
    cases z : bt (nI i) 31 with
    | false => rfl
    | true => exact absurd ((lt0 _).mpr z) (nI_pos hi)
  rw [h1]
  decide
theorem s_kindOf {d i : Nat} {Q : Qt} {τ : St} (hi : i < 2 ^ 31) (hQ : Q (some (.int (nI (i % 4)))) τ) : Cl (d + 2) m_H_kindOf [.int (nI i)] τ Q := by
  rw [N_H_kindOf]
  simp only [E_H_kindOf, fIsA, fRt, fLen, fLit, fBool]
  rw [N_floorMod]
  simp only [E_floorMod, fIsA, fRt, fLen, fLit, fBool, E_H_kindOf, oT]
  have e : nI i - nI i / 4 * 4 = nI (i % 4) := pk_rem (d := 4) hi (by omega) (by omega)
  rw [e]
  exact ⟨by decide, fun _ => hQ, fun c => absurd (xor4 hi) c⟩
/-- noise of a pull in a night of a kind -/
def noi (v : Int32) (k : Nat) : Int32 := if k = 1 then v / 10 / 2 else if k = 2 then v / 10 * 2 else v / 10
theorem s_Hnoi {d k : Nat} {v : Int32} {Q : Qt} {τ : St} (hk : k < 4) (hQ : Q (some (.int (noi v k))) τ) : Cl (d + 1) m_H_noiseOf [.int v, .int (nI k)] τ Q := by
  rw [N_H_noiseOf]
  simp only [E_H_noiseOf, fIsA, fRt, fLen, fLit, fBool]
  unfold noi at hQ
  refine ⟨by decide, fun c => ⟨fun c2 => ?_, fun c2 => ?_⟩, fun c => ⟨by decide, ?_⟩⟩
  · rwa [if_neg (fun z => c (by rw [z]; rfl)), if_neg (fun z => c2 (by rw [z]; rfl))] at hQ
  · have e : k = 2 := (nI_eq (b := 2) (by omega) (by omega)).mp c2
    rwa [if_neg (by omega), if_pos e] at hQ
  · have e : k = 1 := (nI_eq (b := 1) (by omega) (by omega)).mp c
    rwa [if_pos e] at hQ
theorem s_Mnoi {d i : Nat} {v : Int32} {Q : Qt} {τ : St} (hi : i < 2 ^ 31) (hQ : Q (some (.int (noi v (i % 4)))) τ) : Cl (d + 1) m_M_noiseOf [.int v, .int (nI i)] τ Q := by
  rw [N_M_noiseOf]
  have e : nI i - nI i / 4 * 4 = nI (i % 4) := pk_rem (d := 4) hi (by omega) (by omega)
  simp only [E_M_noiseOf, fIsA, fRt, fLen, fLit, fBool, e]
  unfold noi at hQ
  refine ⟨by decide, by decide, fun c => ⟨by decide, fun c2 => ?_, fun c2 => ?_⟩, fun c => ⟨by decide, ?_⟩⟩
  · rwa [if_neg (fun z => c (by rw [z]; rfl)), if_neg (fun z => c2 (by rw [z]; rfl))] at hQ
  · have e : i % 4 = 2 := (nI_eq (b := 2) (by omega) (by omega)).mp c2
    rw [if_neg (by omega), if_pos e] at hQ
    rwa [Int32.mul_comm]
  · have e : i % 4 = 1 := (nI_eq (b := 1) (by omega) (by omega)).mp c
    rwa [if_pos e] at hQ
theorem MoI.fr9 {t t' ns n : Nat} {kd : Nat → Nat} {cs : List Nat} {fs : List (Nat × Nat)} {τ τ' : St} (h : MoI τ 9 ns n (300 * t) kd (τ.1 75)) (hf : Fr cs fs τ τ') (hd : disF cs fs [9, 10, 75] [] = true) (ht : t ≤ t') (hns : ns ≤ 8) : MoI τ' 9 ns n (300 * t') kd (τ'.1 75) :=
  h.same (fun j => (hf.D hd 9 j rfl).1) (fun j => (hf.D hd 9 j rfl).2) (fun j => (hf.D hd 10 j rfl).1) (fun j _ => (hf.D hd 75 j rfl).1) (by omega) hns
theorem p_forget (t : Nat) : PrI t m_H_forget m_M_forget [] := by
  intro _ τ h
  obtain ⟨R, C, kd, ht, ns, n, ⟨a, b, c, d, e, f, g, i, j⟩, hT, hR⟩ := h
  obtain ⟨tn, lo, hi, g1, g2, g3, g4, g5, g6, g7, g8, g9, g10⟩ := g
  rw [N_H_forget]
  simp only [E_H_forget, fIsA, fRt, fLen, fLit, fBool]
  rw [N_Traces_clear]
  simp only [E_Traces_clear, E_H_forget, oN, fIsA, fRt, fLen, fLit, fBool]
  rw [N_M_forget]
  simp only [E_M_forget, oN, fIsA, fRt, fLen, fLit, fBool, sI_1, reduceIte, Nat.reduceEqDiff]
  rw [g5, g6]
  have hf : Fr [] [(63, 0), (63, 1), (63, 2), (69, 0), (69, 45)] τ (sI (sI (sI (sI (sI τ 63 0 0) 63 1 1) 63 2 99) 69 0 0) 69 45 0) := ((((Fr.rf.i rfl).i rfl).i rfl).i rfl).i rfl
  have hn := b.1
  refine ok rfl ⟨R, C, kd, ht, ns, n, ⟨a.fr hf rfl, b.fr hf rfl, c.fr9 hf rfl (by omega) hn, d.fr hf rfl (by omega) hn, e.fr hf rfl (by omega) (by omega) hn, f.fr hf rfl, ?_, i.fr hf rfl, j.fr hf rfl⟩, hT.fr hf rfl, hR.fr hf rfl⟩
  exact ⟨0, 1, 99, by omega, by omega, by omega, by omega, rfl, rfl, rfl, rfl, fun i hi => absurd hi (Nat.not_lt_zero i), fun w q q2 => ⟨fun _ i hi => absurd hi (Nat.not_lt_zero i), fun _ => ⟨q, q2⟩⟩⟩
theorem p_kind (t : Nat) (x v : Int32) : PrI t m_H_kind m_M_kind [.int x, .int v] := by
  intro ht0 τ h
  obtain ⟨R, C, kd, ht, ns, n, hA, hT, hR⟩ := h
  have ⟨_, ⟨_, _, c3, _, _, _⟩, _, _, ⟨i, hi, c5⟩, _, _, _⟩ := hA.2.2.1
  rw [N_H_kind]
  simp only [E_H_kind, fIsA, fRt, fLen, fLit, fBool]
  have no : ¬ ((0 ≤ x ∧ x ≤ nI 99) ∧ 0 ≤ v ∧ v ≤ nI 9999) → Cl 900 m_M_kind [Value.ref 69, Value.int x, Value.int v] τ fun b τ2 => (∃ x, some (Value.int (-1)) = some (Value.int x) ∧ b = some (Value.int x)) ∧ Inv (t + 1) τ2 := fun c => by
    rw [N_M_kind]
    simp only [E_M_kind, fIsA, fRt, fLen, fLit, fBool, sI_1, reduceIte, Nat.reduceEqDiff]
    have fin := ok rfl (hA.inv3 hT hR (fr690 (v := 0)) rfl) (x := -1)
    refine s_inI 0 rfl (nI 99) rfl (fun c1 c2 => ?_) (fun _ => ?_)
    · simp only [oT, E_M_kind, fIsA, fRt, fLen, fLit, fBool]
      refine s_inI 0 rfl (nI 9999) rfl (fun c3 c4 => absurd ⟨⟨c1, c2⟩, c3, c4⟩ c) (fun _ => ?_)
      simp only [oT, E_M_kind, fIsA, fRt, fLen, fLit, fBool]
      exact fin
    · simp only [oT, E_M_kind, fIsA, fRt, fLen, fLit, fBool]
      exact fin
  by_cases c : (0 ≤ x ∧ x ≤ nI 99) ∧ 0 ≤ v ∧ v ≤ nI 9999
  · refine ⟨fun z => absurd z (nlt c.1.1), fun _ => ⟨fun z => absurd z (nlt c.1.2), fun _ => ⟨fun z => absurd z (nlt c.2.1), fun _ => ⟨fun _ => ?_, fun z => absurd c.2.2 z⟩⟩⟩⟩
    obtain ⟨k, hk, rfl⟩ := of0 c.1.1 c.1.2 (by omega)
    simp only [c3, c5, nI_add]
    refine s_kindOf (by omega) ?_
    simp only [oT, E_H_kind, fIsA, fRt, fLen, fLit, fBool]
    refine s_Hnoi (Nat.mod_lt _ (by omega)) ?_
    simp only [oT, E_H_kind, fIsA, fRt, fLen, fLit, fBool]
    refine s_RowOnly ?_
    simp only [oN, E_H_kind, fIsA, fRt, fLen, fLit, fBool]
    rw [N_M_kind]
    simp only [E_M_kind, fIsA, fRt, fLen, fLit, fBool, sI_1, sL_1, reduceIte, Nat.reduceEqDiff]
    refine s_inI 0 rfl (nI 99) rfl (fun c1 c2 => ?_) (fun z => absurd c.1 z)
    simp only [oT, E_M_kind, fIsA, fRt, fLen, fLit, fBool]
    refine s_inI 0 rfl (nI 9999) rfl (fun c3 c4 => ?_) (fun z => absurd c.2 z)
    simp only [oT, E_M_kind, fIsA, fRt, fLen, fLit, fBool, fIx, sI_1, sL_1, reduceIte, Nat.reduceEqDiff, c5, nI_add]
    refine s_Mnoi (i := i + k) (by omega) ?_
    simp only [oT, E_M_kind, fIsA, fRt, fLen, fLit, fBool, sI_1, sL_1, reduceIte, Nat.reduceEqDiff]
    refine s_Menters (n := 0) rfl (by omega) ?_
    simp only [oN, E_M_kind, fIsA, fRt, fLen, fLit, fBool, fIx, sI_1, sL_1, reduceIte, Nat.reduceEqDiff, c5, nI_add]
    have e : nI (i + k) - nI (i + k) / 4 * 4 = nI ((i + k) % 4) := pk_rem (d := 4) (by omega) (by omega) (by omega)
    refine ⟨by decide, ok e.symm ?_⟩
    have hf : Fr [4, 70] [(3, 1), (69, 0), (69, 1)] τ (sI (sL (sI (sI (sI (sL (sI τ 3 1 0) 4 0 (noi v ((i + k) % 4)).toInt64) 3 1 1) 69 0 0) 69 1 0) 70 0 (noi v ((i + k) % 4)).toInt64) 69 1 (nI (0 + 1))) := ((((((Fr.rf.i rfl).lc rfl).i rfl).i rfl).i rfl).lc rfl).i rfl
    exact hA.inv hf rfl (hT.fr hf rfl) (RoI.one rfl rfl rfl rfl)
  · have no := no c
    exact ⟨fun _ => no, fun z1 => ⟨fun _ => no, fun z2 => ⟨fun _ => no, fun z3 => ⟨fun z4 => absurd ⟨⟨Int32.not_lt.mp z1, Int32.not_lt.mp z2⟩, Int32.not_lt.mp z3, z4⟩ c, fun _ => no⟩⟩⟩⟩
theorem p_quiet_loop {d i x e g k : Nat} {Q : Qt} (hi : i + x < 2 ^ 31) (hk : (i + x) % 4 = k) (hg : ∀ v : Nat, v ≤ 9999 → (noi (nI v) k ≤ nI e ↔ v ≤ g)) : ∀ (m v : Nat), v = g + m → v ≤ 9999 → ∀ τ : St, τ.1 74 1 = nI e → τ.1 75 46 = nI i → Q (some (.int (nI g))) τ → Rs M_M_quiet (d + 1) Q 23 [some (.ref 69), some (.int (nI x)), some (.int (nI v))] [] τ
  | m, v, hv, hv2, τ, h1, h2, hQ => by
    rw [Rs_eq]
    simp only [E_M_quiet, fIsA, fRt, fLen, fLit, fBool, fIx, h1, h2, nI_add]
    refine s_Mnoi (i := i + x) hi ?_
    simp only [oT, E_M_quiet, fIsA, fRt, fLen, fLit, fBool, fIx, h1, h2, nI_add]
    rw [hk]
    refine ⟨fun c => ?_, fun c => ?_⟩
    · have c := (hg v hv2).mp c
      obtain rfl : v = g := by omega
      exact hQ
    · match m, hv with
      | 0, hv => exact absurd ((hg v hv2).mpr (by omega)) c
      | m + 1, hv =>
        subst hv
        rw [show g + (m + 1) = (g + m) + 1 by omega, pk_m1]
        exact p_quiet_loop hi hk hg m (g + m) rfl (by omega) τ h1 h2 hQ
def qg (e k : Nat) : Nat := min (if k = 1 then (e * 2 + 1) * 10 + 9 else if k = 2 then e / 2 * 10 + 9 else e * 10 + 9) 9999
theorem qg_is {e k : Nat} (he : e ≤ 999) (v : Nat) (hv : v ≤ 9999) : noi (nI v) k ≤ nI e ↔ v ≤ qg e k := by
  have d10 : nI v / 10 = nI (v / 10) := pk_div (d := 10) (by omega) (by omega) (by omega)
  unfold noi qg
  rw [d10]
  by_cases c : k = 1
  · rw [if_pos c, if_pos c, show nI (v / 10) / 2 = nI (v / 10 / 2) from pk_div (d := 2) (by omega) (by omega) (by omega), nI_leI (by omega) (by omega)]
    omega
  · rw [if_neg c, if_neg c]
    by_cases c2 : k = 2
    · rw [if_pos c2, if_pos c2, show nI (v / 10) * 2 = nI (v / 10 * 2) from pk_mul _ 2, nI_leI (by omega) (by omega)]
      omega
    · rw [if_neg c2, if_neg c2, nI_leI (by omega) (by omega)]
      omega
theorem minI {a b : Nat} (ha : a < 2 ^ 31) (hb : b < 2 ^ 31) : (if nI a < nI b then nI a else nI b) = nI (min a b) := by
  by_cases c : a < b
  · rw [if_pos (nI_lt c hb), Nat.min_eq_left (by omega)]
  · rw [if_neg (nI_nlt (by omega) ha), Nat.min_eq_right (by omega)]
theorem maxI {a b : Nat} (ha : a < 2 ^ 31) (hb : b < 2 ^ 31) : (if nI a < nI b then nI b else nI a) = nI (max a b) := by
  by_cases c : a < b
  · rw [if_pos (nI_lt c hb), Nat.max_eq_right (by omega)]
  · rw [if_neg (nI_nlt (by omega) ha), Nat.max_eq_left (by omega)]
theorem p_quiet (t : Nat) (x : Int32) : PrI t m_H_quiet m_M_quiet [.int x] := by
  intro ht0 τ h
  obtain ⟨R, C, kd, ht, ns, n, hA, hT, hR⟩ := h
  have ⟨_, ⟨_, _, c3, _, _, _⟩, _, _, ⟨i, hi, c5⟩, _, _, _⟩ := hA.2.2.1
  have ⟨_, o2, _, e, he, o4⟩ := hA.2.2.2.2.2.1
  rw [N_H_quiet]
  simp only [E_H_quiet, fIsA, fRt, fLen, fLit, fBool]
  have no : ¬ (0 ≤ x ∧ x ≤ nI 99) → Cl 900 m_M_quiet [Value.ref 69, Value.int x] τ fun b τ2 => (∃ x, some (Value.int (-1)) = some (Value.int x) ∧ b = some (Value.int x)) ∧ Inv (t + 1) τ2 := fun c => by
    rw [N_M_quiet]
    simp only [E_M_quiet, fIsA, fRt, fLen, fLit, fBool, sI_1, reduceIte, Nat.reduceEqDiff]
    refine s_inI 0 rfl (nI 99) rfl (fun c1 c2 => absurd ⟨c1, c2⟩ c) (fun _ => ?_)
    simp only [oT, E_M_quiet, fIsA, fRt, fLen, fLit, fBool]
    exact ok rfl (hA.inv3 hT hR (fr690 (v := 0)) rfl)
  by_cases c : 0 ≤ x ∧ x ≤ nI 99
  · refine ⟨fun z => absurd z (nlt c.1), fun _ => ⟨fun _ => ?_, fun z => absurd c.2 z⟩⟩
    obtain ⟨k, hk, rfl⟩ := of0 c.1 c.2 (by omega)
    simp only [c3, c5, nI_add]
    refine s_kindOf (by omega) ?_
    simp only [oT, E_H_quiet, fIsA, fRt, fLen, fLit, fBool, o2, o4]
    have yes : ∀ y : Int32, y = nI (qg e ((i + k) % 4)) → Cl 900 m_M_quiet [Value.ref 69, Value.int (nI k)] τ fun b τ2 => (∃ x, some (Value.int y) = some (Value.int x) ∧ b = some (Value.int x)) ∧ Inv (t + 1) τ2 := fun y hy => by
      rw [N_M_quiet]
      simp only [E_M_quiet, fIsA, fRt, fLen, fLit, fBool, sI_1, reduceIte, Nat.reduceEqDiff]
      refine s_inI 0 rfl (nI 99) rfl (fun c1 c2 => ?_) (fun z => absurd c z)
      simp only [oT, E_M_quiet, fIsA, fRt, fLen, fLit, fBool]
      refine p_quiet_loop (i := i) (x := k) (v := 9999) (by omega) rfl (fun v hv => qg_is he v hv) (9999 - qg e ((i + k) % 4)) ?_ (by omega) _ o4 c5 (ok hy (hA.inv3 hT hR (fr690 (v := 0)) rfl))
      have : qg e ((i + k) % 4) ≤ 9999 := Nat.min_le_right _ _
      omega
    have m4 : (i + k) % 4 < 4 := Nat.mod_lt _ (by omega)
    have a9 : ∀ a : Nat, nI a * 10 + 9 = nI (a * 10 + 9) := fun a => by rw [show nI a * 10 = nI (a * 10) from pk_mul a 10]; exact nI_add _ 9
    refine ⟨fun d1 => ⟨fun d2 => yes _ ?_, fun d2 => ⟨by decide, yes _ ?_⟩⟩, fun d1 => yes _ ?_⟩
    · have d1 : (i + k) % 4 ≠ 1 := fun z => d1 (by rw [z]; rfl)
      have d2 : (i + k) % 4 ≠ 2 := fun z => d2 (by rw [z]; rfl)
      rw [a9, qg, if_neg d1, if_neg d2]
      exact minI (b := 9999) (by omega) (by omega)
    · have d2 : (i + k) % 4 = 2 := (nI_eq (b := 2) (by omega) (by omega)).mp d2
      rw [show nI e / 2 = nI (e / 2) from pk_div (a := e) (d := 2) (by omega) (by omega) (by omega), a9, qg, if_neg (show (i + k) % 4 ≠ 1 by omega), if_pos d2]
      exact minI (a := e / 2 * 10 + 9) (b := 9999) (by omega) (by omega)
    · have d1 : (i + k) % 4 = 1 := (nI_eq (b := 1) (by omega) (by omega)).mp d1
      rw [show nI e * 2 + 1 = nI (e * 2 + 1) by rw [show nI e * 2 = nI (e * 2) from pk_mul e 2]; exact nI_1 _, a9, qg, if_pos d1]
      exact minI (b := 9999) (by omega) (by omega)
  · have no := no c
    exact ⟨fun _ => no, fun z1 => ⟨fun z4 => absurd ⟨Int32.not_lt.mp z1, z4⟩ c, fun _ => no⟩⟩
theorem p_set (t : Nat) (x v : Int32) : PrI t m_H_set m_M_set [.int x, .int v] := by
  intro ht0 τ h
  obtain ⟨R, C, kd, ht, ns, n, hA, hT, hR⟩ := h
  have ⟨a, b, c, d, e, f, g, i, j⟩ := hA
  have ⟨_, ⟨_, u1, _, _, _, _⟩, _, _, _, _, _, u, hu, u2⟩ := c
  have ⟨o1, o2, ⟨oo, ho, o3⟩, ee, he, o4⟩ := f
  rw [N_H_set]
  simp only [E_H_set, fIsA, fRt, fLen, fLit, fBool, u1, u2]
  have fin := ok rfl (hA.inv3 hT hR (fr690 (v := 0)) rfl) (x := -1)
  have no : ¬ ((x = 0 ∧ nI u ≤ v ∨ x = 1 ∧ 0 ≤ v) ∧ v ≤ nI 999) → Cl 900 m_M_set [Value.ref 69, Value.int x, Value.int v] τ fun b τ2 => (∃ x, some (Value.int (-1)) = some (Value.int x) ∧ b = some (Value.int x)) ∧ Inv (t + 1) τ2 := fun c => by
    rw [N_M_set]
    simp only [E_M_set, fIsA, fRt, fLen, fLit, fBool, fIx, sI_1, reduceIte, Nat.reduceEqDiff]
    refine s_inI 0 rfl (nI 1) rfl (fun c1 c2 => ?_) (fun _ => ?_)
    · simp only [oT, E_M_set, fIsA, fRt, fLen, fLit, fBool, fIx, sI_1, reduceIte, Nat.reduceEqDiff, u2]
      refine ⟨fun z => ?_, fun z => ?_⟩
      · have x1 : x = 1 := by
          obtain ⟨k, hk, rfl⟩ := of0 c1 c2 (by omega)
          rcases (show k = 0 ∨ k = 1 by omega) with rfl | rfl
          · exact absurd rfl z
          · rfl
        refine s_inI 0 rfl (nI 999) rfl (fun c3 c4 => absurd ⟨Or.inr ⟨x1, c3⟩, c4⟩ c) (fun _ => ?_)
        simp only [oT, E_M_set, fIsA, fRt, fLen, fLit, fBool, fIx, sI_1, reduceIte, Nat.reduceEqDiff]
        exact fin
      · refine s_inI (nI u) rfl (nI 999) rfl (fun c3 c4 => absurd ⟨Or.inl ⟨z, c3⟩, c4⟩ c) (fun _ => ?_)
        simp only [oT, E_M_set, fIsA, fRt, fLen, fLit, fBool, fIx, sI_1, reduceIte, Nat.reduceEqDiff]
        exact fin
    · simp only [oT, E_M_set, fIsA, fRt, fLen, fLit, fBool, fIx, sI_1, reduceIte, Nat.reduceEqDiff]
      exact fin
  refine ⟨fun z => no (fun q => ?_), fun z => ⟨fun z2 => ⟨fun z3 => ⟨fun z4 => no (fun q => ?_), fun z4 => ?_⟩, fun z3 => ⟨fun z4 => ⟨fun z5 => no (fun q => ?_), fun z5 => ?_⟩, fun z4 => ?_⟩⟩, fun z2 => no (fun q => z2 q.2)⟩⟩
  · rcases q.1 with q | q
    · exact absurd (Int32.le_trans (nI_pos' (by omega)) q.2) (Int32.not_le.mpr z)
    · exact absurd q.2 (Int32.not_le.mpr z)
  · rcases q.1 with q | q
    · exact z3 q.1
    · exact z4 q.1
  · subst z4
    obtain ⟨w, hw, rfl⟩ := of0 (n := 999) (Int32.not_lt.mp z) z2 (by omega)
    rw [N_M_set]
    simp only [E_M_set, fIsA, fRt, fLen, fLit, fBool, fIx, sI_1, reduceIte, Nat.reduceEqDiff]
    refine s_inI 0 rfl (nI 1) rfl (fun c1 c2 => ?_) (fun q => absurd ⟨by decide, by decide⟩ q)
    simp only [oT, E_M_set, fIsA, fRt, fLen, fLit, fBool, fIx, sI_1, reduceIte, Nat.reduceEqDiff, u2]
    refine s_inI 0 rfl (nI 999) rfl (fun c3 c4 => ?_) (fun q => absurd ⟨Int32.not_lt.mp z, z2⟩ q)
    simp only [oT, E_M_set, fIsA, fRt, fLen, fLit, fBool, fIx, sI_1, reduceIte, Nat.reduceEqDiff]
    have hf : Fr [74] [(0, 9), (69, 0)] τ (sI (sI (sI τ 0 9 (nI w)) 69 0 0) 74 1 (nI w)) := ((Fr.rf.i rfl).i rfl).ic rfl
    refine ok o2 ⟨R, C, kd, ht, ns, n, ⟨a.fr hf rfl, b.fr hf rfl, c.fr9 hf rfl (by omega) b.1, d.fr hf rfl (by omega) b.1, e.fr hf rfl (by omega) (by omega) b.1, ?_, g.fr hf rfl, i.fr hf rfl, j.fr hf rfl⟩, hT.fr hf rfl, hR.fr hf rfl⟩
    exact ⟨o1, rfl, ⟨oo, ho, o3⟩, w, hw, rfl⟩
  · rcases q.1 with q | q
    · exact absurd q.2 (Int32.not_le.mpr z4)
    · exact z5 q.1
  · rw [z3] at z5; exact absurd z5 (by decide)
  · subst z3
    obtain ⟨w, hw, rfl⟩ := of0 (n := 999) (Int32.not_lt.mp z) z2 (by omega)
    rw [N_M_set]
    simp only [E_M_set, fIsA, fRt, fLen, fLit, fBool, fIx, sI_1, reduceIte, Nat.reduceEqDiff]
    refine s_inI 0 rfl (nI 1) rfl (fun c1 c2 => ?_) (fun q => absurd ⟨by decide, by decide⟩ q)
    simp only [oT, E_M_set, fIsA, fRt, fLen, fLit, fBool, fIx, sI_1, reduceIte, Nat.reduceEqDiff, u2]
    refine s_inI (nI u) rfl (nI 999) rfl (fun c3 c4 => ?_) (fun q => absurd ⟨Int32.not_lt.mp z4, z2⟩ q)
    simp only [oT, E_M_set, fIsA, fRt, fLen, fLit, fBool, fIx, sI_1, reduceIte, Nat.reduceEqDiff]
    have hf : Fr [74] [(0, 8), (69, 0)] τ (sI (sI (sI τ 0 8 (nI w)) 69 0 0) 74 0 (nI w)) := ((Fr.rf.i rfl).i rfl).ic rfl
    refine ok o1 ⟨R, C, kd, ht, ns, n, ⟨a.fr hf rfl, b.fr hf rfl, c.fr9 hf rfl (by omega) b.1, d.fr hf rfl (by omega) b.1, e.fr hf rfl (by omega) (by omega) b.1, ?_, g.fr hf rfl, i.fr hf rfl, j.fr hf rfl⟩, hT.fr hf rfl, hR.fr hf rfl⟩
    exact ⟨rfl, o2, ⟨w, hw, rfl⟩, ee, he, o4⟩
theorem s_isWeight {d : Nat} {Q : Qt} {τ : St} {v : Int32} (h1 : ∀ w, 1 ≤ w → w ≤ 99 → v = nI w → Q (some (.int 1)) τ) (h0 : ¬ (1 ≤ v ∧ v ≤ nI 99) → Q (some (.int 0)) τ) : Cl (d + 1) m_H_isWeight [.int v] τ Q := by
  rw [N_H_isWeight]
  simp only [E_H_isWeight, fIsA, fRt, fLen, fLit, fBool]
  refine ⟨fun c => h0 (fun z => nlt z.1 c), fun c => ⟨fun c2 => h0 (fun z => nlt z.2 c2), fun c2 => ?_⟩⟩
  have c := Int32.not_lt.mp c
  have c2 := Int32.not_lt.mp c2
  obtain ⟨w, hw, rfl⟩ := of0 (n := 99) (Int32.le_trans (by decide) c) c2 (by omega)
  exact h1 w ((nI_leI (a := 1) (by omega) (by omega)).mp c) hw rfl
theorem p_trace (t : Nat) (x v : Int32) : PrI t m_H_trace m_M_trace [.int x, .int v] := by
  intro ht0 τ h
  obtain ⟨R, C, kd, ht, ns, n, hA, hT, hR⟩ := h
  have ⟨a, b, c, d, e, f, g, i, j⟩ := hA
  obtain ⟨tn, lo, hi, g1, g2, g3, g4, g5, g6, g7, g8, g9, g10⟩ := g
  rw [N_H_trace]
  simp only [E_H_trace, fIsA, fRt, fLen, fLit, fBool]
  have fin := ok rfl (hA.inv3 hT hR (fr690 (v := 0)) rfl) (x := -1)
  have no : ¬ ((1 ≤ x ∧ x ≤ nI 99) ∧ (0 ≤ v ∧ v ≤ nI 1) ∧ tn < 12) → Cl 900 m_M_trace [Value.ref 69, Value.int x, Value.int v] τ fun b τ2 => (∃ x, some (Value.int (-1)) = some (Value.int x) ∧ b = some (Value.int x)) ∧ Inv (t + 1) τ2 := fun c => by
    rw [N_M_trace]
    simp only [E_M_trace, fIsA, fRt, fLen, fLit, fBool, fIx, sI_1, reduceIte, Nat.reduceEqDiff]
    refine s_inI 1 rfl (nI 99) rfl (fun c1 c2 => ?_) (fun _ => ?_)
    · simp only [oT, E_M_trace, fIsA, fRt, fLen, fLit, fBool, fIx, sI_1, reduceIte, Nat.reduceEqDiff]
      refine s_inI 0 rfl (nI 1) rfl (fun c3 c4 => ?_) (fun _ => ?_)
      · simp only [oT, E_M_trace, fIsA, fRt, fLen, fLit, fBool, fIx, sI_1, reduceIte, Nat.reduceEqDiff, g6]
        refine ⟨fun z => absurd ⟨⟨c1, c2⟩, ⟨c3, c4⟩, ?_⟩ c, fun _ => fin⟩
        have : tn ≠ 12 := fun q => z (by rw [q]; rfl)
        omega
      · simp only [oT, E_M_trace, fIsA, fRt, fLen, fLit, fBool, fIx, sI_1, reduceIte, Nat.reduceEqDiff]
        exact fin
    · simp only [oT, E_M_trace, fIsA, fRt, fLen, fLit, fBool, fIx, sI_1, reduceIte, Nat.reduceEqDiff]
      exact fin
  refine s_isWeight (fun w w1 w2 hw => ?_) (fun q => ?_)
  · subst hw
    simp only [oT, E_H_trace, fIsA, fRt, fLen, fLit, fBool, g5]
    have hx : 1 ≤ nI w ∧ nI w ≤ nI 99 := ⟨nI_le (a := 1) w1 (by omega), nI_le w2 (by omega)⟩
    have yes : ∀ (k : Nat) (σ : St) (lo' hi' : Nat), v = nI k → k ≤ 1 → tn < 12 → Fr [] [(63, 0), (63, 1), (63, 2)] τ σ → σ.1 63 0 = nI (tn + 1) → σ.1 63 1 = nI lo' → σ.1 63 2 = nI hi' → 1 ≤ lo' → lo' ≤ 99 → hi' ≤ 99 → (∀ w', 1 ≤ w' → w' ≤ 99 → (lo' ≤ w' ∧ w' ≤ hi' ↔ (lo ≤ w' ∧ w' ≤ hi) ∧ (w ≤ w' ↔ k = 1))) →
        Cl 900 m_M_trace [Value.ref 69, Value.int (nI w), Value.int v] σ fun b τ2 => (∃ x, some (Value.int (nI (tn + 1))) = some (Value.int x) ∧ b = some (Value.int x)) ∧ Inv (t + 1) τ2 := fun k σ lo' hi' hv hk ht0 hf s1 s2 s3 l1 l2 l3 l4 => by
      subst hv
      have g6' : σ.1 69 45 = nI tn := by rw [hf.u1 69 45 rfl]; exact g6
      rw [N_M_trace]
      simp only [E_M_trace, fIsA, fRt, fLen, fLit, fBool, fIx, sI_1, reduceIte, Nat.reduceEqDiff]
      refine s_inI 1 rfl (nI 99) rfl (fun c1 c2 => ?_) (fun z => absurd hx z)
      simp only [oT, E_M_trace, fIsA, fRt, fLen, fLit, fBool, fIx, sI_1, reduceIte, Nat.reduceEqDiff]
      refine s_inI 0 rfl (nI 1) rfl (fun c3 c4 => ?_) (fun z => absurd ⟨nI_pos' (by omega), nI_le hk (by omega)⟩ z)
      simp only [oT, E_M_trace, fIsA, fRt, fLen, fLit, fBool, fIx, sI_1, reduceIte, Nat.reduceEqDiff, g6']
      refine ⟨fun _ => ⟨vp_in_nI ht0 (by omega), ?_⟩, fun z => absurd ((nI_eq (b := 12) (by omega) (by omega)).mp z) (by omega)⟩
      rw [nI_clamp (by omega)]
      refine ⟨vp_in_nI ht0 (by omega), ?_⟩
      rw [nI_1]
      have hf2 : Fr [95, 96] [(63, 0), (63, 1), (63, 2), (69, 0), (69, 45)] τ (sI (sI (sI (sI σ 69 0 0) 95 tn (nI w)) 96 tn (nI k)) 69 45 (nI (tn + 1))) := ((((hf.wk rfl).i rfl).ic rfl).ic rfl).i rfl
      refine ok rfl ⟨R, C, kd, ht, ns, n, ⟨a.fr hf2 rfl, b.fr hf2 rfl, c.fr9 hf2 rfl (by omega) b.1, d.fr hf2 rfl (by omega) b.1, e.fr hf2 rfl (by omega) (by omega) b.1, f.fr hf2 rfl, ?_, i.fr hf2 rfl, j.fr hf2 rfl⟩, hT.fr hf2 rfl, hR.fr hf2 rfl⟩
      refine ⟨tn + 1, lo', hi', by omega, l1, l2, l3, s1, rfl, s2, s3, fun i hi => ?_, fun w' q q2 => ?_⟩
      · simp only [sI_1, reduceIte, Nat.reduceEqDiff]
        by_cases e : i = tn
        · rw [if_pos e]
          rcases (show k = 0 ∨ k = 1 by omega) with rfl | rfl
          · exact Or.inl rfl
          · exact Or.inr rfl
        · rw [if_neg e, hf.c1 96 rfl]
          exact g9 i (by omega)
      · simp only [sI_1, reduceIte, Nat.reduceEqDiff]
        rw [l4 w' q q2, g10 w' q q2]
        have kk : (nI k = 1 ↔ k = 1) := nI_eq (b := 1) (by omega) (by omega)
        constructor
        · intro z i hi
          by_cases e : i = tn
          · rw [if_pos e, if_pos e, kk, nI_leI (by omega) (by omega)]; exact z.2
          · rw [if_neg e, if_neg e, hf.c1 95 rfl, hf.c1 96 rfl]; exact z.1 i (by omega)
        · intro z
          refine ⟨fun i hi => ?_, ?_⟩
          · have := z i (by omega)
            rw [if_neg (by omega), if_neg (by omega), hf.c1 95 rfl, hf.c1 96 rfl] at this
            exact this
          · have := z tn (by omega)
            rw [if_pos rfl, if_pos rfl, kk, nI_leI (by omega) (by omega)] at this
            exact this
    refine ⟨fun z => no (fun q => nlt q.2.1.1 z), fun z => ⟨fun z2 => no (fun q => nlt q.2.1.2 z2), fun z2 => ⟨fun z3 => ?_, fun z3 => no (fun q => z3 (nI_lt (b := 12) q.2.2 (by omega)))⟩⟩⟩
    have z3 : tn < 12 := (nI_ltI (b := 12) (by omega) (by omega)).mp z3
    obtain ⟨k, hk, rfl⟩ := of0 (n := 1) (Int32.not_lt.mp z) (Int32.not_lt.mp z2) (by omega)
    refine ⟨fun z4 => ?_, fun z4 => ?_⟩
    · obtain rfl : k = 0 := by
        rcases (show k = 0 ∨ k = 1 by omega) with rfl | rfl
        · rfl
        · exact absurd rfl z4
      rw [N_Traces_add]
      simp only [E_Traces_add, fIsA, fRt, fLen, fLit, fBool, sI_1, reduceIte, Nat.reduceEqDiff, g5, g8, nI_1, oN, E_H_trace]
      obtain ⟨w, rfl⟩ : ∃ w', w = w' + 1 := ⟨w - 1, by omega⟩
      rw [nI_pred, minI (by omega) (by omega)]
      refine yes 0 _ lo (min w hi) rfl (by omega) z3 ((Fr.rf.i rfl).i rfl) rfl g7 rfl g2 g3 (by omega) (fun w' q q2 => by omega)
    · obtain rfl : k = 1 := (nI_eq (b := 1) (by omega) (by omega)).mp z4
      rw [N_Traces_add]
      simp only [E_Traces_add, fIsA, fRt, fLen, fLit, fBool, sI_1, reduceIte, Nat.reduceEqDiff, g5, g7, nI_1, oN, E_H_trace]
      rw [maxI (by omega) (by omega)]
      refine yes 1 _ (max lo w) hi rfl (by omega) z3 ((Fr.rf.i rfl).i rfl) rfl rfl g8 (by omega) (by omega) g4 (fun w' q q2 => by omega)
  · simp only [oT, E_H_trace, fIsA, fRt, fLen, fLit, fBool]
    exact no (fun z => q z.1)
