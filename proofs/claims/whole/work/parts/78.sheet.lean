/-! PAIRS: sheet -/
def cl9 (x : Int32) : Int32 := if 1 < (if x < 99 then x else 99) then (if x < 99 then x else 99) else 1
def shX (k x : Int32) : Int32 := if k = 0 then x.toInt8.toInt32 else if k = 1 then x.toInt16.toInt32 else x
/-- entry i of a sheet -/
def shE (k n f st : Int32) (i : Nat) : Int32 := if n ≤ nI i then 1 else cl9 (shX k (f + nI i * st))
def smE (E : Nat → Int32) : Nat → Nat → Int32 → Int32
  | 0, _, a => a
  | m + 1, i, a => smE E m (i + 1) (a + E i)
theorem cl9_nI (x : Int32) : ∃ w, 1 ≤ w ∧ w ≤ 99 ∧ cl9 x = nI w := by
  unfold cl9
  by_cases c : x < 99
  · rw [if_pos c]
    by_cases c1 : 1 < x
    · rw [if_pos c1]
      obtain ⟨w, h1, h2⟩ := nI_of (Int32.not_lt.mpr (Int32.le_of_lt (Int32.lt_trans (by decide) c1)))
      rw [h2] at c c1
      exact ⟨w, Nat.le_of_lt ((nI_ltI (a := 1) (by omega) h1).mp c1), Nat.le_of_lt ((nI_ltI (b := 99) h1 (by omega)).mp c), h2⟩
    · rw [if_neg c1]; exact ⟨1, by omega, by omega, rfl⟩
  · rw [if_neg c, if_pos (by decide)]; exact ⟨99, by omega, by omega, rfl⟩
theorem shE_nI (k n f st : Int32) (i : Nat) : ∃ w, 1 ≤ w ∧ w ≤ 99 ∧ shE k n f st i = nI w := by
  unfold shE
  split
  · exact ⟨1, by omega, by omega, rfl⟩
  · exact cl9_nI _
theorem s_entryOf {d : Nat} {k x : Int32} {Q : Qt} {τ : St} (hQ : Q (some (.int (cl9 (shX k x)))) τ) : Cl (d + 1) m_H_entryOf [.int k, .int x] τ Q := by
  unfold shX cl9 at hQ
  rw [N_H_entryOf]
  simp only [E_H_entryOf, fIsA, fRt, fLen, fLit, fBool]
  refine ⟨fun c => ⟨fun c1 => ?_, fun c1 => ?_⟩, fun c => ?_⟩
  · rw [if_neg c, if_neg c1] at hQ; exact hQ
  · rw [if_neg c, if_pos c1] at hQ; exact hQ
  · rw [if_pos c] at hQ; exact hQ
theorem s_weigh {d ns : Nat} {k n f st : Int32} (h8 : ns ≤ 8) {Q : Qt} {τ : St} (h9 : τ.1 9 1 = nI ns) (hQ : ∀ τ', Fr [52] [] τ τ' → (∀ j, j < ns → τ'.1 52 j = shE k n f st j) → Q (some (.int (smE (shE k n f st) ns 0 0))) τ') : Cl (d + 2) m_H_weigh [.ref 0, .int k, .int n, .int f, .int st] τ Q := by
  have loop : ∀ (m i : Nat) (a : Int32) (τ1 : St), i + m = ns → Fr [52] [] τ τ1 → (∀ j, j < i → τ1.1 52 j = shE k n f st j) → (∀ τ', Fr [52] [] τ τ' → (∀ j, j < ns → τ'.1 52 j = shE k n f st j) → Q (some (.int (smE (shE k n f st) m i a))) τ') → Rs M_H_weigh (d + 1) Q 6 [some (.ref 0), some (.int k), some (.int n), some (.int f), some (.int st), some (.int a), some (.int (nI i))] [] τ1 := by
    intro m
    induction m with
    | zero =>
      intro i a τ1 hi fr h hq
      obtain rfl : i = ns := by omega
      rw [Rs_eq]
      simp only [E_H_weigh, fIsA, fRt, fLen, fLit, fBool, fr.c1 9 rfl, h9]
      exact ⟨fun _ => hq τ1 fr h, fun q => absurd (Int32.le_refl _) q⟩
    | succ m ih =>
      intro i a τ1 hi fr h hq
      have step : ∀ v, v = shE k n f st i → Rs M_H_weigh (d + 1) Q 6 [some (.ref 0), some (.int k), some (.int n), some (.int f), some (.int st), some (.int (a + v)), some (.int (nI (i + 1)))] [] (sI τ1 52 i v) := fun v hv => by
        subst hv
        refine ih (i + 1) _ _ (by omega) (fr.ic rfl) (fun j hj => ?_) hq
        simp only [sI_1, reduceIte]
        by_cases c : j = i
        · subst c; rw [if_pos rfl]
        · rw [if_neg c]; exact h j (by omega)
      rw [Rs_eq]
      simp only [E_H_weigh, fIsA, fRt, fLen, fLit, fBool, fr.c1 9 rfl, h9, nI_1, nI_clamp (show i < 2 ^ 31 by omega)]
      refine ⟨fun q => absurd q (nI_ge (by omega) (by omega)), fun _ => ⟨fun q => absurd q (nI_ge (b := 8) (by omega) (by omega)), fun _ => ⟨fun q => ?_, fun q => ?_⟩⟩⟩
      · simp only [sI_1, reduceIte, Nat.reduceEqDiff]
        refine ⟨vp_in_nI (by omega) (by omega), vp_in_nI (by omega) (by omega), step 1 ?_⟩
        unfold shE
        rw [if_pos q]
      · refine s_entryOf ?_
        simp only [oT, E_H_weigh, fIsA, fRt, fLen, fLit, fBool, nI_1, nI_clamp (show i < 2 ^ 31 by omega), sI_1, reduceIte, Nat.reduceEqDiff]
        refine ⟨vp_in_nI (by omega) (by omega), vp_in_nI (by omega) (by omega), step _ ?_⟩
        unfold shE
        rw [if_neg q]
  rw [N_H_weigh]
  simp only [E_H_weigh, fIsA, fRt, fLen, fLit, fBool]
  exact loop ns 0 0 τ (by omega) Fr.rf (fun j hj => absurd hj (Nat.not_lt_zero j)) hQ
theorem vstep (f st : Int32) (i : Nat) : f + nI i * st + st = f + nI (i + 1) * st := by
  rw [← nI_1, Int32.add_mul, Int32.one_mul, Int32.add_assoc]
theorem s_Msheet_loop {d ns : Nat} {k n f st : Int32} (h8 : ns ≤ 8) {Q : Qt} {τ : St} (h5 : τ.1 69 5 = nI ns) (n' : Int32) (hn3 : k = 3 → n' = 0) (hn0 : k ≠ 3 → n' = n) : ∀ (m i : Nat) (a : Int32) (τ1 : St) (l : Option Value), i + m = ns → Fr [73] [] τ τ1 → (∀ j, j < i → τ1.1 73 j = shE k n' f st j) → (∀ τ', Fr [73] [] τ τ' → (∀ j, j < ns → τ'.1 73 j = shE k n' f st j) → Q (some (.int (if k = 3 then -3 else smE (shE k n' f st) m i a))) τ') → Rs M_M_sheet d Q 46 [some (.ref 69), some (.int k), some (.int n), some (.int f), some (.int st), some (.int a), some (.int (f + nI i * st)), some (.int (nI i)), l] [] τ1 := by
  intro m
  induction m with
  | zero =>
    intro i a τ1 l hi fr h hq
    obtain rfl : i = ns := by omega
    rw [Rs_eq]
    simp only [E_M_sheet, fIsA, fRt, fLen, fLit, fBool, fr.u1 69 5 rfl, h5]
    refine ⟨fun _ => ⟨fun c => ?_, fun c => ?_⟩, fun q => absurd (Int32.le_refl _) q⟩
    · have := hq τ1 fr h; rw [if_neg c] at this; exact this
    · have := hq τ1 fr h; rw [if_pos c] at this; exact this
  | succ m ih =>
    intro i a τ1 l hi fr h hq
    have step : ∀ v l', v = shE k n' f st i → Rs M_M_sheet d Q 46 [some (.ref 69), some (.int k), some (.int n), some (.int f), some (.int st), some (.int (a + v)), some (.int (f + nI (i + 1) * st)), some (.int (nI (i + 1))), l'] [] (sI τ1 73 i v) := fun v l' hv => by
      subst hv
      refine ih (i + 1) _ _ l' (by omega) (fr.ic rfl) (fun j hj => ?_) hq
      simp only [sI_1, reduceIte]
      by_cases c : j = i
      · subst c; rw [if_pos rfl]
      · rw [if_neg c]; exact h j (by omega)
    have blk : Rs M_M_sheet d Q 78 [some (.ref 69), some (.int k), some (.int n), some (.int f), some (.int st), some (.int a), some (.int (f + nI i * st)), some (.int (nI i)), l] [.int (shX k (f + nI i * st))] τ1 := by
      rw [Rs_eq]
      simp only [E_M_sheet, fIsA, fRt, fLen, fLit, fBool, nI_1, nI_clamp (show i < 2 ^ 31 by omega), sI_1, reduceIte, Nat.reduceEqDiff, vstep]
      refine ⟨fun c => ⟨vp_in_nI (by omega) (by omega), vp_in_nI (by omega) (by omega), step 1 _ ?_⟩, fun c => ⟨fun c1 => ⟨vp_in_nI (by omega) (by omega), vp_in_nI (by omega) (by omega), step _ _ ?_⟩, fun c1 => ⟨vp_in_nI (by omega) (by omega), vp_in_nI (by omega) (by omega), step 1 _ ?_⟩⟩⟩
      · unfold shE
        rw [hn3 c, if_pos (nI_pos' (by omega))]
      · unfold shE cl9
        rw [hn0 c, if_neg (Int32.not_le.mpr c1)]
      · unfold shE
        rw [hn0 c, if_pos (Int32.not_lt.mp c1)]
    unfold shX at blk
    rw [Rs_eq]
    simp only [E_M_sheet, fIsA, fRt, fLen, fLit, fBool, fr.u1 69 5 rfl, h5]
    refine ⟨fun q => absurd q (nI_ge (by omega) (by omega)), fun _ => ⟨fun c => ⟨fun c1 => ?_, fun c1 => ?_⟩, fun c => ?_⟩⟩
    · rw [if_neg c, if_neg c1] at blk; exact blk
    · rw [if_neg c, if_pos c1] at blk; exact blk
    · rw [if_pos c] at blk; exact blk
theorem p_sheet (t : Nat) (k n f st : Int32) : PrI t m_H_sheet m_M_sheet [.int k, .int n, .int f, .int st] := by
  intro ht0 τ h
  obtain ⟨R, C, kd, ht, ns, tn, hA, hT, hR⟩ := h
  have ⟨a, b, c, d, e, ff, g, i, j⟩ := hA
  have hn := b.1
  have fin := fun (x : Int32) => ok (x := x) rfl (hA.inv3 hT hR (fr690 (v := 0)) rfl)
  have no : ¬ (0 ≤ k ∧ k ≤ nI 3) ∨ ¬ n ≤ 8 → Cl 900 m_M_sheet [.ref 69, .int k, .int n, .int f, .int st] τ (fun b τ2 => (∃ x : Int32, some (Value.int (-1)) = some (.int x) ∧ b = some (.int x)) ∧ Inv (t + 1) τ2) := fun w => by
    rw [N_M_sheet]
    simp only [E_M_sheet, fIsA, fRt, fLen, fLit, fBool]
    refine s_inI 0 rfl (nI 3) rfl (fun c1 c2 => ?_) (fun z => ?_)
    · simp only [oT, E_M_sheet, fIsA, fRt, fLen, fLit, fBool]
      exact ⟨fun z => by rcases w with w | w
                         · exact absurd ⟨c1, c2⟩ w
                         · exact absurd z w, fun _ => fin (-1)⟩
    · simp only [oT, E_M_sheet, fIsA, fRt, fLen, fLit, fBool]
      exact fin (-1)
  -- both worked
  have both : ∀ (n' x : Int32) (τ1 : St), (0 ≤ k ∧ k ≤ nI 3) → n ≤ 8 → (k ≠ 3 → 0 ≤ n) → (k = 3 → n' = 0) → (k ≠ 3 → n' = n) → x = (if k = 3 then -3 else smE (shE k n' f st) ns 0 0) → Fr [52] [] τ τ1 → (∀ s, s < ns → τ1.1 52 s = shE k n' f st s) → Cl 900 m_M_sheet [.ref 69, .int k, .int n, .int f, .int st] τ1 (fun b τ2 => (∃ z : Int32, some (Value.int x) = some (.int z) ∧ b = some (.int z)) ∧ Inv (t + 1) τ2) := fun n' x τ1 hk h8 h0 n3 n0 hx f1 hw => by
    rw [N_M_sheet]
    simp only [E_M_sheet, fIsA, fRt, fLen, fLit, fBool]
    refine s_inI 0 rfl (nI 3) rfl (fun _ _ => ?_) (fun z => absurd hk z)
    simp only [oT, E_M_sheet, fIsA, fRt, fLen, fLit, fBool]
    have go := s_Msheet_loop (d := 899) (k := k) (n := n) (f := f) (st := st) (τ := sI τ1 69 0 0) hn (by show τ1.1 69 5 = _; rw [f1.u1 69 5 rfl]; exact b.2.1) n' n3 n0 ns 0 0 (sI τ1 69 0 0) none (by omega) Fr.rf (fun j hj => absurd hj (Nat.not_lt_zero j)) (Q := fun b τ2 => (∃ z : Int32, some (Value.int x) = some (.int z) ∧ b = some (.int z)) ∧ Inv (t + 1) τ2) (fun τ2 f2 hw2 => ?_)
    · have e0 : f + nI 0 * st = f := by rw [show nI 0 = 0 from rfl, Int32.zero_mul, Int32.add_zero]
      rw [e0] at go
      exact ⟨fun _ => ⟨fun _ => go, fun c => ⟨fun _ => go, fun z => absurd (h0 c) z⟩⟩, fun z => absurd h8 z⟩
    · refine ok hx ?_
      have F : Fr [52, 73] [(69, 0)] τ τ2 := (f1.wk rfl).tr ((Fr.rf.i rfl).tr (f2.wk rfl))
      have b' : ShI τ2 ns := by
        refine ⟨hn, by rw [F.u1 69 5 rfl]; exact b.2.1, by rw [F.c1 9 rfl]; exact b.2.2.1, fun s hs => ⟨?_, ?_⟩⟩
        · rw [f2.c1 52 rfl, hw2 s hs]; exact hw s hs
        · rw [hw2 s hs]; exact shE_nI _ _ _ _ _
      exact ⟨R, C, kd, ht, ns, tn, ⟨a.fr F rfl, b', c.fr9 F rfl (by omega) hn, d.fr F rfl (by omega) hn, e.fr F rfl (by omega) (by omega) hn, ff.fr F rfl, g.fr F rfl, i.fr F rfl, j.fr F rfl⟩, hT.fr F rfl, hR.fr F rfl⟩
  rw [N_H_sheet]
  simp only [E_H_sheet, fIsA, fRt, fLen, fLit, fBool]
  refine ⟨fun c => no (Or.inl (fun z => absurd c (Int32.not_lt.mpr z.1))), fun c => ⟨fun c1 => no (Or.inl (fun z => absurd c1 (Int32.not_lt.mpr z.2))), fun c1 => ⟨fun c2 => ⟨fun c3 => ⟨fun c4 => ?_, fun c4 => ?_⟩, fun c3 => ?_⟩, fun c2 => no (Or.inr c2)⟩⟩⟩
  · refine s_weigh hn b.2.2.1 (fun τ1 f1 hw => ?_)
    simp only [oT, E_H_sheet, fIsA, fRt, fLen, fLit, fBool]
    exact both n _ τ1 ⟨Int32.not_lt.mp c, Int32.not_lt.mp c1⟩ c2 (fun _ => c4) (fun z => absurd z c3) (fun _ => rfl) (by rw [if_neg c3]) f1 hw
  · rw [N_M_sheet]
    simp only [E_M_sheet, fIsA, fRt, fLen, fLit, fBool]
    refine s_inI 0 rfl (nI 3) rfl (fun _ _ => ?_) (fun z => absurd ⟨Int32.not_lt.mp c, Int32.not_lt.mp c1⟩ z)
    simp only [oT, E_M_sheet, fIsA, fRt, fLen, fLit, fBool]
    exact ⟨fun _ => ⟨fun z => absurd z c3, fun _ => ⟨fun z => absurd z c4, fun _ => fin (-2)⟩⟩, fun z => absurd c2 z⟩
  · refine s_weigh hn b.2.2.1 (fun τ1 f1 hw => ?_)
    simp only [oT, E_H_sheet, fIsA, fRt, fLen, fLit, fBool]
    exact both 0 _ τ1 ⟨Int32.not_lt.mp c, Int32.not_lt.mp c1⟩ c2 (fun z => absurd c3 z) (fun _ => rfl) (fun z => absurd c3 z) (by rw [if_pos c3]) f1 hw
