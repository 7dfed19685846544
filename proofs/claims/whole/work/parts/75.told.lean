/-! ACTS of a siege: the whole text of them -/
def acL (g : Nat → Nat) (m : Nat) : Nat → Nat → List (Nat × Nat × Nat) × Bool × Nat
  | 0, p => ([], true, p)
  | f + 1, p => if p = m then ([], true, p) else match acF g m p with
    | (none, q) => ([], false, q)
    | (some a, q) => (a :: (acL g m f q).1, (acL g m f q).2.1, (acL g m f q).2.2)
theorem acL_m {g : Nat → Nat} {m f : Nat} : acL g m (f + 1) m = ([], true, m) := by rw [acL, if_pos rfl]
theorem acL_no {g : Nat → Nat} {m f p q : Nat} (hp : p ≠ m) (h : acF g m p = (none, q)) : acL g m (f + 1) p = ([], false, q) := by rw [acL, if_neg hp, h]
theorem acL_yes {g : Nat → Nat} {m f p q : Nat} {a : Nat × Nat × Nat} (hp : p ≠ m) (h : acF g m p = (some a, q)) : acL g m (f + 1) p = (a :: (acL g m f q).1, (acL g m f q).2.1, (acL g m f q).2.2) := by rw [acL, if_neg hp, h]
theorem acF_end {g : Nat → Nat} {m : Nat} : acF g m m = (none, m) := by
  unfold acF
  rw [if_neg (fun z => Nat.lt_irrefl _ z.1), if_neg (fun z => Nat.lt_irrefl _ z.1), if_neg (fun z => Nat.lt_irrefl _ z.1)]
theorem s_acts_loop {d : Nat} {Q : Qt} {τ : St} {g : Nat → Nat} {n p0 m : Nat} (T : TT τ g n p0 m) (hm : m = min n 60) : ∀ (r i p : Nat) (l : Option Value), i + r = 60 → 2 * i ≤ p → p ≤ m → Q (some (.int (if (acL g m r p).2.1 = true ∧ (acL g m r p).2.2 = n then 1 else 0))) (sI τ 1 2 (nI (acL g m r p).2.2)) → Rs M_H_canReadActs (d + 4) Q 11 [some (.ref 0), some (.int (nI i)), l] [] (sI τ 1 2 (nI p))
  | 0, i, p, l, hi, h2, hp, hq => by omega
  | r + 1, i, p, l, hi, h2, hp, hq => by
    have hn := T.2.2.2.2.2.1
    have T1 := T.go (q := p) (by omega)
    have hno : ∀ q, p ≠ n → acF g m p = (none, q) → Q (some (.int 0)) (sI τ 1 2 (nI q)) := fun q hpn hac => by
      by_cases c : p = m
      · subst c
        rw [acF_end] at hac
        cases hac
        rw [acL_m, if_neg (fun z => hpn z.2)] at hq
        exact hq
      · rw [acL_no c hac, if_neg (fun z => Bool.false_ne_true z.1)] at hq
        exact hq
    have hyes : ∀ a q l', acF g m p = (some a, q) → Rs M_H_canReadActs (d + 4) Q 11 [some (.ref 0), some (.int (nI (i + 1))), l'] [] (sI τ 1 2 (nI q)) := fun a q l' hac => by
      have hpm : p ≠ m := fun z => by rw [z, acF_end] at hac; cases hac
      rw [acL_yes hpm hac] at hq
      have hq2 := acF_q hp hac
      exact s_acts_loop T hm r (i + 1) q l' (by omega) (by have := hq2.2.2 a rfl; omega) hq2.2.1 hq
    rw [Rs_eq]
    simp only [E_H_canReadActs, fIsA, fRt, fLen, fLit, fBool]
    refine ⟨fun q => absurd q (nI_ge (b := 60) (by omega) (by omega)), fun _ => ?_⟩
    refine s_finished (n := n) (p := p) T1.1 T1.2.1 (by omega) (by omega) ?_
    by_cases c : p = n
    · rw [if_pos c]
      simp only [oT, E_H_canReadActs, fIsA, fRt, fLen, fLit, fBool]
      refine s_finished (n := n) (p := p) T1.1 T1.2.1 (by omega) (by omega) ?_
      rw [if_pos c]
      simp only [oT, E_H_canReadActs, fIsA, fRt, fLen, fLit, fBool]
      obtain rfl : p = m := by omega
      rw [acL_m, if_pos ⟨rfl, c⟩] at hq
      exact hq
    · rw [if_neg c]
      simp only [oT, E_H_canReadActs, fIsA, fRt, fLen, fLit, fBool]
      refine s_takeSign (c := 100) T1 (by omega) (fun hp1 g1 => ?_) (fun w1 => ?_)
      · simp only [oT, E_H_canReadActs, fIsA, fRt, fLen, fLit, fBool, sI_sI, nI_1]
        refine s_dig (T.go (q := p + 1) (by omega)) (fun c1 => ?_) (fun c1 => ?_)
        · have := c1.1
          have := c1.2
          simp only [oT, E_H_canReadActs, fIsA, fRt, fLen, fLit, fBool, sI_sI, nI_1]
          refine ⟨fun z => absurd z (nIm (by omega)), fun _ => ?_⟩
          refine s_takeDigit (lo := 0) (hi := 3) (T.go (q := p + 2) (by omega)) (by omega) (by omega) (fun k c2 c3 _ c4 => ?_) (fun c2 => ?_)
          · simp only [oT, E_H_canReadActs, fIsA, fRt, fLen, fLit, fBool, sI_sI, nI_1]
            refine ⟨fun z => absurd z (nIm (by omega)), fun _ => ?_⟩
            refine hyes (0, g (p + 1) - 48, g (p + 2) - 48) (p + 3) _ ?_
            unfold acF
            rw [if_pos ⟨hp1, g1⟩, if_pos c1, if_pos ⟨c2, by omega, by omega⟩]
          · simp only [oT, E_H_canReadActs, fIsA, fRt, fLen, fLit, fBool, sI_sI, nI_1]
            refine hno (p + 2) c ?_
            unfold acF
            rw [if_pos ⟨hp1, g1⟩, if_pos c1, if_neg (fun z => c2 (g (p + 2) - 48) z.1 (by omega) (by omega) (by omega))]
        · simp only [oT, E_H_canReadActs, fIsA, fRt, fLen, fLit, fBool, sI_sI, nI_1]
          refine hno (p + 1) c ?_
          unfold acF
          rw [if_pos ⟨hp1, g1⟩, if_neg c1]
      · simp only [oT, E_H_canReadActs, fIsA, fRt, fLen, fLit, fBool, sI_sI, nI_1]
        refine s_takeSign (c := 112) T1 (by omega) (fun hp1 g1 => ?_) (fun w2 => ?_)
        · simp only [oT, E_H_canReadActs, fIsA, fRt, fLen, fLit, fBool, sI_sI, nI_1]
          refine s_Htwo (T.go (q := p + 1) (by omega)) (fun c1 c2 => ?_) (fun c1 c2 => ?_) (fun c1 => ?_)
          · have := c1.2
            have := c2.2
            simp only [oT, E_H_canReadActs, fIsA, fRt, fLen, fLit, fBool, sI_sI, nI_1]
            refine ⟨fun z => absurd z (nIm (by omega)), fun _ => ?_⟩
            refine hyes (1, 10 * (g (p + 1) - 48) + (g (p + 2) - 48), 0) (p + 3) _ ?_
            unfold acF
            rw [if_neg w1, if_pos ⟨hp1, g1⟩, if_pos c1, if_pos c2]
          · simp only [oT, E_H_canReadActs, fIsA, fRt, fLen, fLit, fBool, sI_sI, nI_1]
            refine hno (p + 2) c ?_
            unfold acF
            rw [if_neg w1, if_pos ⟨hp1, g1⟩, if_pos c1, if_neg c2]
          · simp only [oT, E_H_canReadActs, fIsA, fRt, fLen, fLit, fBool, sI_sI, nI_1]
            refine hno (p + 1) c ?_
            unfold acF
            rw [if_neg w1, if_pos ⟨hp1, g1⟩, if_neg c1]
        · simp only [oT, E_H_canReadActs, fIsA, fRt, fLen, fLit, fBool, sI_sI, nI_1]
          refine s_takeSign (c := 104) T1 (by omega) (fun hp1 g1 => ?_) (fun w3 => ?_)
          · simp only [oT, E_H_canReadActs, fIsA, fRt, fLen, fLit, fBool, sI_sI, nI_1]
            refine s_takeDigit (lo := 1) (hi := 9) (T.go (q := p + 1) (by omega)) (by omega) (by omega) (fun k c2 c3 c4 c5 => ?_) (fun c2 => ?_)
            · simp only [oT, E_H_canReadActs, fIsA, fRt, fLen, fLit, fBool, sI_sI, nI_1]
              refine ⟨fun z => absurd z (nIm (by omega)), fun _ => ?_⟩
              refine hyes (2, g (p + 1) - 48, 0) (p + 2) _ ?_
              unfold acF
              rw [if_neg w1, if_neg w2, if_pos ⟨hp1, g1⟩, if_pos ⟨c2, by omega, by omega⟩]
            · simp only [oT, E_H_canReadActs, fIsA, fRt, fLen, fLit, fBool, sI_sI, nI_1]
              refine hno (p + 1) c ?_
              unfold acF
              rw [if_neg w1, if_neg w2, if_pos ⟨hp1, g1⟩, if_neg (fun z => c2 (g (p + 1) - 48) z.1 (by omega) (by omega) (by omega))]
          · simp only [oT, E_H_canReadActs, fIsA, fRt, fLen, fLit, fBool, sI_sI, nI_1]
            refine hno p c ?_
            unfold acF
            rw [if_neg w1, if_neg w2, if_neg w3]
/-! the reference -/
theorem am5 {g : Nat → Nat} {p m : Nat} (hg : g p < 256) : (p < m ∧ g p = 100 → amO 5 g p m = 0) ∧ (p < m ∧ g p = 112 → amO 5 g p m = 1) ∧ (p < m ∧ g p = 104 → amO 5 g p m = 2) ∧ (¬ (p < m ∧ g p = 100) → ¬ (p < m ∧ g p = 112) → ¬ (p < m ∧ g p = 104) → amO 5 g p m = -1) := by
  have e : ∀ x, x < 256 → (nI x = nI (g p) ↔ g p = x) := fun x hx => ⟨fun z => ((nI_eq (by omega) (by omega)).mp z).symm, fun z => by rw [z]⟩
  have am : p < m → amO 5 g p m = if nI 100 = nI (g p) then nI 0 else if nI 112 = nI (g p) then nI 1 else if nI 104 = nI (g p) then nI 2 else -1 := fun h => by
    unfold amO
    rw [if_pos h]
    rfl
  refine ⟨fun h => ?_, fun h => ?_, fun h => ?_, fun h1 h2 h3 => ?_⟩
  · rw [am h.1, if_pos ((e _ (by omega)).mpr h.2)]; rfl
  · rw [am h.1, if_neg (fun z => by have := (e _ (by omega)).mp z; omega), if_pos ((e _ (by omega)).mpr h.2)]; rfl
  · rw [am h.1, if_neg (fun z => by have := (e _ (by omega)).mp z; omega), if_neg (fun z => by have := (e _ (by omega)).mp z; omega), if_pos ((e _ (by omega)).mpr h.2)]; rfl
  · by_cases h : p < m
    · rw [am h, if_neg (fun z => h1 ⟨h, (e _ (by omega)).mp z⟩), if_neg (fun z => h2 ⟨h, (e _ (by omega)).mp z⟩), if_neg (fun z => h3 ⟨h, (e _ (by omega)).mp z⟩)]
    · unfold amO
      rw [if_neg h]
theorem fLit2 : (((0 : Int32) ≤ 1) = True) ∧ (((0 : Int32) ≤ 2) = True) ∧ (((2 : Int32) = 1) = False) ∧ (((2 : Int32) = 0) = False) := by decide
theorem ra87_no {d k : Nat} {Q : Qt} {τ : St} (hk : k < 60) (hQ : Q (some (.int 0)) (sI τ 86 k (-1))) : Rs M_M_readsAct d Q 87 [some (.ref 69), some (.int (nI k))] [.int (-1), .int (nI k), .ref 86] τ := by
  rw [Rs_eq]
  simp only [E_M_readsAct, fIsA, fRt, fLen, fLit, fBool, nI_clamp (show k < 2 ^ 31 by omega), sI_1, reduceIte, Nat.reduceEqDiff]
  repeat' (first | exact hQ | exact vp_in_nI (by omega) (by omega) | constructor)
theorem ra87_yes {d k c w : Nat} {Q : Qt} {τ : St} (hk : k < 60) (hc : τ.1 85 k = nI c) (hc1 : 1 ≤ c) (hc2 : c < 2 ^ 31) (hw : w < 2 ^ 31) (hQ : Q (some (.int 1)) (sI τ 86 k (nI w))) : Rs M_M_readsAct d Q 87 [some (.ref 69), some (.int (nI k))] [.int (nI w), .int (nI k), .ref 86] τ := by
  rw [Rs_eq]
  simp only [E_M_readsAct, fIsA, fRt, fLen, fLit, fBool, nI_clamp (show k < 2 ^ 31 by omega), sI_1, reduceIte, Nat.reduceEqDiff, eq_false (nI_pos hw), hc, eq_false (show ¬ nI c ≤ 0 from nI_ge (a := 0) (b := c) (by omega) (by omega))]
  repeat' (first | exact hQ | exact vp_in_nI (by omega) (by omega) | constructor)
theorem ra87_sign {d k w q m n : Nat} {g : Nat → Nat} {Q : Qt} {τ : St} (hk : k < 60) (hc : τ.1 85 k = 0) (hw : w < 2 ^ 31) (h : MR τ g n q m)
    (h1 : q < m ∧ 48 ≤ g q ∧ g q ≤ 51 → Q (some (.int 1)) (sI (sI (sI τ 86 k (nI w)) 69 15 (nI (q + 1))) 87 k (nI (g q - 48)))) (h0 : ¬ (q < m ∧ 48 ≤ g q ∧ g q ≤ 51) → Q (some (.int 0)) (sI (sI τ 86 k (nI w)) 87 k (-1))) : Rs M_M_readsAct (d + 2) Q 87 [some (.ref 69), some (.int (nI k))] [.int (nI w), .int (nI k), .ref 86] τ := by
  have h' : MR (sI τ 86 k (nI w)) g n q m := h
  rw [Rs_eq]
  simp only [E_M_readsAct, fIsA, fRt, fLen, fLit, fBool, nI_clamp (show k < 2 ^ 31 by omega), sI_1, reduceIte, Nat.reduceEqDiff, eq_false (nI_pos hw), hc]
  refine ⟨vp_in_nI (by omega) (by omega), vp_in_nI (by omega) (by omega), vp_in_nI (by omega) (by omega), ?_⟩
  refine s_signIn (lo := 0) (hi := 3) h' (by omega) (by omega) (fun x c1 c2 _ c3 => ?_) (fun c => ?_)
  · have hq := h1 ⟨c1, by omega, by omega⟩
    rw [show g q - 48 = x by omega] at hq
    simp only [oT, E_M_readsAct, fIsA, fRt, fLen, fLit, fBool, nI_clamp (show k < 2 ^ 31 by omega), sI_1, reduceIte, Nat.reduceEqDiff, eq_false (nI_pos (show x < 2 ^ 31 by omega))]
    repeat' (first | exact hq | exact vp_in_nI (by omega) (by omega) | constructor)
  · have hq := h0 (fun z => c (g q - 48) z.1 (by omega) (by omega) (by omega))
    simp only [oT, E_M_readsAct, fIsA, fRt, fLen, fLit, fBool, nI_clamp (show k < 2 ^ 31 by omega), sI_1, reduceIte, Nat.reduceEqDiff]
    repeat' (first | exact hq | exact vp_in_nI (by omega) (by omega) | constructor)
theorem s_readsAct {d k : Nat} {Q : Qt} {τ : St} {g : Nat → Nat} {n p m : Nat} (h : MR τ g n p m) (ha : τ.1 69 33 = nI k) (hk : k < 60) (hp : p < m)
    (no : ∀ q τ', acF g m p = (none, q) → Fr [85, 86, 87] [(69, 15), (69, 33)] τ τ' → τ'.1 69 15 = nI q → Q (some (.int 0)) τ')
    (yes : ∀ a q τ', acF g m p = (some a, q) → Fr [85, 86, 87] [(69, 15), (69, 33)] τ τ' → τ'.1 69 15 = nI q → τ'.1 69 33 = nI (k + 1) → (∀ j, j < k → τ'.1 85 j = τ.1 85 j ∧ τ'.1 86 j = τ.1 86 j ∧ τ'.1 87 j = τ.1 87 j) → τ'.1 85 k = nI a.1 → τ'.1 86 k = nI a.2.1 → (a.1 = 0 → τ'.1 87 k = nI a.2.2) → Q (some (.int 1)) τ') : Cl (d + 7) m_M_readsAct [.ref 69] τ Q := by
  have hmn : m ≤ n ∧ n ≤ 80 := ⟨h.2.2.2.1, h.2.2.2.2.1⟩
  obtain ⟨w0, w1, w2, w3⟩ := am5 (p := p) (m := m) (h.2.2.2.2.2 p (by omega)).2
  rw [N_M_readsAct]
  simp only [E_M_readsAct, fIsA, fRt, fLen, fLit, fBool, ha]
  by_cases c0 : p < m ∧ g p = 100
  · refine s_takesOf (i := 5) h (by omega) (fun w => absurd w (by rw [w0 c0]; decide)) (fun _ => ?_)
    rw [w0 c0]
    simp only [oT, E_M_readsAct, fIsA, fRt, fLen, fLit, fBool, sI_1, reduceIte, Nat.reduceEqDiff, nI_clamp (show k < 2 ^ 31 by omega), nI_1, ha, fLit2]
    generalize hA : sI (sI (sI τ 69 15 (nI (p + 1))) 85 k 0) 69 33 (nI (k + 1)) = A
    have fA : Fr [85] [(69, 15), (69, 33)] τ A := by rw [← hA]; exact ((Fr.rf.i rfl).ic rfl).i rfl
    have a33 : A.1 69 33 = nI (k + 1) := by rw [← hA]; rfl
    have a85 : A.1 85 k = nI 0 := by rw [← hA]; simp only [sI_1, reduceIte, Nat.reduceEqDiff]; rfl
    have o85 : ∀ j, j < k → A.1 85 j = τ.1 85 j := fun j hj => by rw [← hA]; simp only [sI_1, reduceIte, Nat.reduceEqDiff]; rw [if_neg (by omega)]
    have M1 := h.fr (q := p + 1) fA rfl (by rw [← hA]; rfl) (by omega)
    have fin0 : ∀ (q : Nat) (τ2 : St), acF g m p = (none, q) → Fr [86, 87] [(69, 15)] A τ2 → τ2.1 69 15 = nI q → Q (some (.int 0)) τ2 := fun q τ2 e f e15 => no q τ2 e ((fA.wk rfl).tr (f.wk rfl)) e15
    have fin1 : ∀ (a : Nat × Nat × Nat) (q : Nat) (τ2 : St), acF g m p = (some a, q) → a.1 = 0 → Fr [86, 87] [(69, 15)] A τ2 → τ2.1 69 15 = nI q → (∀ j, j < k → τ2.1 86 j = τ.1 86 j ∧ τ2.1 87 j = τ.1 87 j) → τ2.1 86 k = nI a.2.1 → (a.1 = 0 → τ2.1 87 k = nI a.2.2) → Q (some (.int 1)) τ2 := fun a q τ2 e ea f e15 oo e86 e87 => yes a q τ2 e ((fA.wk rfl).tr (f.wk rfl)) e15 ((f.u1 69 33 rfl).trans a33) (fun j hj => ⟨(f.c1 85 rfl j).trans (o85 j hj), oo j hj⟩) (by rw [f.c1 85 rfl, ea]; exact a85) e86 e87
    refine ⟨vp_in_nI (by omega) (by omega), vp_in_nI (by omega) (by omega), vp_in_nI (by omega) (by omega), s_Mnumber (k := 1) (by omega) M1 (fun c => ?_) (fun c => ?_)⟩
    · have hc1 := c.1
      have hc2 := c.2
      rw [nm1 c]
      simp only [oT, E_M_readsAct, fIsA, fRt, fLen, fLit, fBool]
      refine ra87_sign (q := p + 1 + 1) hk a85 (by omega) (M1.go (by omega)) (fun z => ?_) (fun z => ?_)
      · refine fin1 (0, g (p + 1) - 48, g (p + 2) - 48) (p + 3) _ ?_ rfl ((((Fr.rf.i rfl).ic rfl).i rfl).ic rfl) rfl (fun j hj => ⟨?_, ?_⟩) ?_ (fun _ => ?_)
        · unfold acF
          rw [if_pos c0, if_pos c, if_pos z]
        · simp only [sI_1, reduceIte, Nat.reduceEqDiff]; rw [if_neg (by omega)]; exact fA.c1 86 rfl j
        · simp only [sI_1, reduceIte, Nat.reduceEqDiff]; rw [if_neg (by omega)]; exact fA.c1 87 rfl j
        · simp only [sI_1, reduceIte, Nat.reduceEqDiff]
        · simp only [sI_1, reduceIte, Nat.reduceEqDiff]
      · refine fin0 (p + 2) _ ?_ (((Fr.rf.i rfl).ic rfl).ic rfl) rfl
        unfold acF
        rw [if_pos c0, if_pos c, if_neg z]
    · simp only [oT, E_M_readsAct, fIsA, fRt, fLen, fLit, fBool]
      refine ra87_no hk (fin0 (p + 1) _ ?_ (Fr.rf.ic rfl) (by rw [← hA]; rfl))
      unfold acF
      rw [if_pos c0, if_neg c]
  by_cases c1 : p < m ∧ g p = 112
  · refine s_takesOf (i := 5) h (by omega) (fun w => absurd w (by rw [w1 c1]; decide)) (fun _ => ?_)
    rw [w1 c1]
    simp only [oT, E_M_readsAct, fIsA, fRt, fLen, fLit, fBool, sI_1, reduceIte, Nat.reduceEqDiff, nI_clamp (show k < 2 ^ 31 by omega), nI_1, ha, fLit2]
    generalize hA : sI (sI (sI τ 69 15 (nI (p + 1))) 85 k 1) 69 33 (nI (k + 1)) = A
    have fA : Fr [85] [(69, 15), (69, 33)] τ A := by rw [← hA]; exact ((Fr.rf.i rfl).ic rfl).i rfl
    have a33 : A.1 69 33 = nI (k + 1) := by rw [← hA]; rfl
    have a85 : A.1 85 k = nI 1 := by rw [← hA]; simp only [sI_1, reduceIte, Nat.reduceEqDiff]; rfl
    have o85 : ∀ j, j < k → A.1 85 j = τ.1 85 j := fun j hj => by rw [← hA]; simp only [sI_1, reduceIte, Nat.reduceEqDiff]; rw [if_neg (by omega)]
    have M1 := h.fr (q := p + 1) fA rfl (by rw [← hA]; rfl) (by omega)
    have fin0 : ∀ (q : Nat) (τ2 : St), acF g m p = (none, q) → Fr [86, 87] [(69, 15)] A τ2 → τ2.1 69 15 = nI q → Q (some (.int 0)) τ2 := fun q τ2 e f e15 => no q τ2 e ((fA.wk rfl).tr (f.wk rfl)) e15
    have fin1 : ∀ (a : Nat × Nat × Nat) (q : Nat) (τ2 : St), acF g m p = (some a, q) → a.1 = 1 → Fr [86, 87] [(69, 15)] A τ2 → τ2.1 69 15 = nI q → (∀ j, j < k → τ2.1 86 j = τ.1 86 j ∧ τ2.1 87 j = τ.1 87 j) → τ2.1 86 k = nI a.2.1 → (a.1 = 0 → τ2.1 87 k = nI a.2.2) → Q (some (.int 1)) τ2 := fun a q τ2 e ea f e15 oo e86 e87 => yes a q τ2 e ((fA.wk rfl).tr (f.wk rfl)) e15 ((f.u1 69 33 rfl).trans a33) (fun j hj => ⟨(f.c1 85 rfl j).trans (o85 j hj), oo j hj⟩) (by rw [f.c1 85 rfl, ea]; exact a85) e86 e87
    refine ⟨vp_in_nI (by omega) (by omega), vp_in_nI (by omega) (by omega), vp_in_nI (by omega) (by omega), vp_in_nI (by omega) (by omega), s_Mtwo M1 (fun c cc => ?_) (fun c cc => ?_) (fun c => ?_)⟩
    · have hc1 := c.2
      have hc2 := cc.2
      simp only [oT, E_M_readsAct, fIsA, fRt, fLen, fLit, fBool]
      refine ra87_yes hk (c := 1) a85 (by omega) (by omega) (by omega) ?_
      refine fin1 (1, 10 * (g (p + 1) - 48) + (g (p + 2) - 48), 0) (p + 3) _ ?_ rfl ((Fr.rf.i rfl).ic rfl) rfl (fun j hj => ⟨?_, ?_⟩) ?_ (fun z => by simp at z)
      · unfold acF
        rw [if_neg c0, if_pos c1, if_pos c, if_pos cc]
      · simp only [sI_1, reduceIte, Nat.reduceEqDiff]; rw [if_neg (by omega)]; exact fA.c1 86 rfl j
      · exact fA.c1 87 rfl j
      · simp only [sI_1, reduceIte, Nat.reduceEqDiff]
    · simp only [oT, E_M_readsAct, fIsA, fRt, fLen, fLit, fBool]
      refine ra87_no hk (fin0 (p + 2) _ ?_ ((Fr.rf.i rfl).ic rfl) rfl)
      unfold acF
      rw [if_neg c0, if_pos c1, if_pos c, if_neg cc]
    · simp only [oT, E_M_readsAct, fIsA, fRt, fLen, fLit, fBool]
      refine ra87_no hk (fin0 (p + 1) _ ?_ (Fr.rf.ic rfl) (by rw [← hA]; rfl))
      unfold acF
      rw [if_neg c0, if_pos c1, if_neg c]
  by_cases c2 : p < m ∧ g p = 104
  · refine s_takesOf (i := 5) h (by omega) (fun w => absurd w (by rw [w2 c2]; decide)) (fun _ => ?_)
    rw [w2 c2]
    simp only [oT, E_M_readsAct, fIsA, fRt, fLen, fLit, fBool, sI_1, reduceIte, Nat.reduceEqDiff, nI_clamp (show k < 2 ^ 31 by omega), nI_1, ha, fLit2]
    generalize hA : sI (sI (sI τ 69 15 (nI (p + 1))) 85 k 2) 69 33 (nI (k + 1)) = A
    have fA : Fr [85] [(69, 15), (69, 33)] τ A := by rw [← hA]; exact ((Fr.rf.i rfl).ic rfl).i rfl
    have a33 : A.1 69 33 = nI (k + 1) := by rw [← hA]; rfl
    have a85 : A.1 85 k = nI 2 := by rw [← hA]; simp only [sI_1, reduceIte, Nat.reduceEqDiff]; rfl
    have o85 : ∀ j, j < k → A.1 85 j = τ.1 85 j := fun j hj => by rw [← hA]; simp only [sI_1, reduceIte, Nat.reduceEqDiff]; rw [if_neg (by omega)]
    have M1 := h.fr (q := p + 1) fA rfl (by rw [← hA]; rfl) (by omega)
    have fin0 : ∀ (q : Nat) (τ2 : St), acF g m p = (none, q) → Fr [86, 87] [(69, 15)] A τ2 → τ2.1 69 15 = nI q → Q (some (.int 0)) τ2 := fun q τ2 e f e15 => no q τ2 e ((fA.wk rfl).tr (f.wk rfl)) e15
    have fin1 : ∀ (a : Nat × Nat × Nat) (q : Nat) (τ2 : St), acF g m p = (some a, q) → a.1 = 2 → Fr [86, 87] [(69, 15)] A τ2 → τ2.1 69 15 = nI q → (∀ j, j < k → τ2.1 86 j = τ.1 86 j ∧ τ2.1 87 j = τ.1 87 j) → τ2.1 86 k = nI a.2.1 → (a.1 = 0 → τ2.1 87 k = nI a.2.2) → Q (some (.int 1)) τ2 := fun a q τ2 e ea f e15 oo e86 e87 => yes a q τ2 e ((fA.wk rfl).tr (f.wk rfl)) e15 ((f.u1 69 33 rfl).trans a33) (fun j hj => ⟨(f.c1 85 rfl j).trans (o85 j hj), oo j hj⟩) (by rw [f.c1 85 rfl, ea]; exact a85) e86 e87
    refine ⟨vp_in_nI (by omega) (by omega), vp_in_nI (by omega) (by omega), vp_in_nI (by omega) (by omega), vp_in_nI (by omega) (by omega), s_signIn (lo := 1) (hi := 9) M1 (by omega) (by omega) (fun x y1 y2 y3 y4 => ?_) (fun c => ?_)⟩
    · simp only [oT, E_M_readsAct, fIsA, fRt, fLen, fLit, fBool]
      refine ra87_yes hk (c := 2) a85 (by omega) (by omega) (by omega) ?_
      refine fin1 (2, g (p + 1) - 48, 0) (p + 2) _ ?_ rfl ((Fr.rf.i rfl).ic rfl) rfl (fun j hj => ⟨?_, ?_⟩) ?_ (fun z => by simp at z)
      · unfold acF
        rw [if_neg c0, if_neg c1, if_pos c2, if_pos ⟨y1, by omega, by omega⟩]
      · simp only [sI_1, reduceIte, Nat.reduceEqDiff]; rw [if_neg (by omega)]; exact fA.c1 86 rfl j
      · exact fA.c1 87 rfl j
      · simp only [sI_1, reduceIte, Nat.reduceEqDiff]
        rw [show g (p + 1) - 48 = x by omega]
    · simp only [oT, E_M_readsAct, fIsA, fRt, fLen, fLit, fBool]
      refine ra87_no hk (fin0 (p + 1) _ ?_ (Fr.rf.ic rfl) (by rw [← hA]; rfl))
      unfold acF
      rw [if_neg c0, if_neg c1, if_pos c2, if_neg (fun z => c (g (p + 1) - 48) z.1 (by omega) (by omega) (by omega))]
  · refine s_takesOf (i := 5) h (by omega) (fun _ => ?_) (fun w => absurd (by rw [w3 c0 c1 c2]; decide) w)
    rw [w3 c0 c1 c2]
    simp only [oT, E_M_readsAct, fIsA, fRt, fLen, fLit, fBool, sI_1, reduceIte, Nat.reduceEqDiff, nI_clamp (show k < 2 ^ 31 by omega), nI_1, ha]
    refine ⟨vp_in_nI (by omega) (by omega), vp_in_nI (by omega) (by omega), ?_⟩
    refine no p _ ?_ ?_ ?_
    · unfold acF
      rw [if_neg c0, if_neg c1, if_neg c2]
    · exact (Fr.rf.ic rfl).i rfl
    · exact h.1
