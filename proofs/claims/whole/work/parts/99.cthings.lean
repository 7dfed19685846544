/-! RULES told: the class reads things and signs; all of it -/
section CT
variable {g : Nat → Nat} {n m f : Nat}
theorem c_thing (hm : m ≤ 40) (ih : CRead g n m f) {k p s D : Nat} {τ : St} {Q : Qt} (hD : 2 * (f + 1) + 12 ≤ D) (hf : 8 * (m - p) + wM 7 ≤ f + 1) (T : TT τ g n p m) (h56 : τ.1 56 1 = nI s) (hs : s ≤ p) (hp : p ≤ m) (hk : k ≤ 4) (no : CN Q τ g m (f + 1) 7 k p) (yes : CY Q τ g m (f + 1) 7 k p s) : Cl D m_Rule_readThing [.ref 56, .ref 1, .int (nI k)] τ Q := by
  obtain ⟨D0, rfl⟩ : ∃ D0, D = D0 + 8 := ⟨D - 8, by omega⟩
  have w7 : wM 7 = 1 := rfl
  have w0 : wM 0 = 5 := rfl
  have hmn : m ≤ n ∧ n ≤ 80 := ⟨T.2.2.2.2.1, T.2.2.2.2.2.1⟩
  rw [N_Rule_readThing]
  simp only [E_Rule_readThing, fIsA, fRt, fLen, fLit, fBool]
  refine s_peek T ?_
  have e : ∀ b, b < 256 → ((if p < m then nI (g p) else -1) = nI b ↔ p < m ∧ g p = b) := fun b hb => by
    by_cases c : p < m
    · rw [if_pos c]
      have gb := (T.2.2.2.2.2.2 p (by omega)).2
      exact ⟨fun z => ⟨c, (nI_eq (by omega) (by omega)).mp z⟩, fun z => by rw [z.2]⟩
    · rw [if_neg c]
      exact ⟨fun z => absurd z.symm (nIm (by omega)), fun z => absurd z.1 c⟩
  generalize (if p < m then nI (g p) else -1) = v at e ⊢
  have letter : p < m ∧ isLt (g p) → Q (some (.int 1)) (sI (sI (sI τ 1 2 (nI (p + 1))) 57 s (nI (1000 + g p))) 56 1 (nI (s + 1))) := fun c => by
    refine yes _ _ _ (th_l c) (((Fr.rf.i rfl).ic rfl).i rfl) rfl rfl (fun j hj => ?_) (fun j hj => ?_)
    · have hj : j < 1 := hj
      obtain rfl : j = 0 := by omega
      simp only [sI_1, reduceIte, Nat.reduceEqDiff, Nat.add_zero]
      rfl
    · simp only [sI_1, reduceIte, Nat.reduceEqDiff]
      rw [if_neg (by omega)]
  simp only [oT, E_Rule_readThing, fIsA, fRt, fLen, fLit, fBool]
  refine ⟨fun z40 => ?_, fun z40 => ?_⟩
  · have n40 : ¬ (p < m ∧ g p = 40) := fun w => z40 ((e 40 (by omega)).mpr w)
    refine ⟨fun z => ?_, fun z119 => ⟨fun z => ?_, fun z117 => ⟨fun z => ?_, fun z118 => ⟨fun z => ?_, fun z103 => ⟨fun z104 => ?_, fun z => ?_⟩⟩⟩⟩⟩
    · refine s_step (p := p) T.2.1 ?_
      simp only [oN, E_Rule_readThing, fIsA, fRt, fLen, fLit, fBool]
      have c := (e 119 (by omega)).mp z
      rw [show (1000 : Int32) + v = nI (1000 + g p) from by rw [z, c.2]; rfl]
      refine s_addStep (s := s) (by exact h56) (by omega) ?_
      simp only [oT, E_Rule_readThing, fIsA, fRt, fLen, fLit, fBool]
      exact letter ⟨c.1, by rw [c.2]; decide⟩
    · refine s_step (p := p) T.2.1 ?_
      simp only [oN, E_Rule_readThing, fIsA, fRt, fLen, fLit, fBool]
      have c := (e 117 (by omega)).mp z
      rw [show (1000 : Int32) + v = nI (1000 + g p) from by rw [z, c.2]; rfl]
      refine s_addStep (s := s) (by exact h56) (by omega) ?_
      simp only [oT, E_Rule_readThing, fIsA, fRt, fLen, fLit, fBool]
      exact letter ⟨c.1, by rw [c.2]; decide⟩
    · refine s_step (p := p) T.2.1 ?_
      simp only [oN, E_Rule_readThing, fIsA, fRt, fLen, fLit, fBool]
      have c := (e 118 (by omega)).mp z
      rw [show (1000 : Int32) + v = nI (1000 + g p) from by rw [z, c.2]; rfl]
      refine s_addStep (s := s) (by exact h56) (by omega) ?_
      simp only [oT, E_Rule_readThing, fIsA, fRt, fLen, fLit, fBool]
      exact letter ⟨c.1, by rw [c.2]; decide⟩
    · refine s_step (p := p) T.2.1 ?_
      simp only [oN, E_Rule_readThing, fIsA, fRt, fLen, fLit, fBool]
      have c := (e 103 (by omega)).mp z
      rw [show (1000 : Int32) + v = nI (1000 + g p) from by rw [z, c.2]; rfl]
      refine s_addStep (s := s) (by exact h56) (by omega) ?_
      simp only [oT, E_Rule_readThing, fIsA, fRt, fLen, fLit, fBool]
      exact letter ⟨c.1, by rw [c.2]; decide⟩
    · have nl : ¬ (p < m ∧ isLt (g p)) := fun w => by
        rcases w.2 with q | q | q | q | q
        · exact z119 ((e 119 (by omega)).mpr ⟨w.1, q⟩)
        · exact z117 ((e 117 (by omega)).mpr ⟨w.1, q⟩)
        · exact z118 ((e 118 (by omega)).mpr ⟨w.1, q⟩)
        · exact z103 ((e 103 (by omega)).mpr ⟨w.1, q⟩)
        · exact z104 ((e 104 (by omega)).mpr ⟨w.1, q⟩)
      refine s_Hnumber (k := 3) (by omega) (by omega) T (fun c => ?_) (fun c => ?_)
      · have n3 := nm_3 c
        simp only [oT, E_Rule_readThing, fIsA, fRt, fLen, fLit, fBool]
        refine ⟨fun w => absurd w (nIm (by omega)), fun _ => ?_⟩
        refine s_addStep (s := s) (by exact h56) (by have := c.1; omega) ?_
        simp only [oT, E_Rule_readThing, fIsA, fRt, fLen, fLit, fBool]
        refine yes _ _ _ (th_d c) (((Fr.rf.i rfl).ic rfl).i rfl) rfl rfl (fun j hj => ?_) (fun j hj => ?_)
        · have hj : j < 1 := hj
          obtain rfl : j = 0 := by omega
          simp only [sI_1, reduceIte, Nat.reduceEqDiff, Nat.add_zero]
          rfl
        · simp only [sI_1, reduceIte, Nat.reduceEqDiff]
          rw [if_neg (by omega)]
      · simp only [oT, E_Rule_readThing, fIsA, fRt, fLen, fLit, fBool]
        exact no p τ (th_no c nl (fun w => n40 ⟨w.1, w.2.1⟩)) Fr.rf T.2.1
    · refine s_step (p := p) T.2.1 ?_
      simp only [oN, E_Rule_readThing, fIsA, fRt, fLen, fLit, fBool]
      have c := (e 104 (by omega)).mp z
      rw [show (1000 : Int32) + v = nI (1000 + g p) from by rw [z, c.2]; rfl]
      refine s_addStep (s := s) (by exact h56) (by omega) ?_
      simp only [oT, E_Rule_readThing, fIsA, fRt, fLen, fLit, fBool]
      exact letter ⟨c.1, by rw [c.2]; decide⟩
  · have c40 := (e 40 (by omega)).mp z40
    refine ⟨fun z => ?_, fun z => ?_⟩
    · have hk4 : k < 4 := (nI_ltI (b := 4) (by omega) (by omega)).mp z
      refine s_step (p := p) T.2.1 ?_
      simp only [oN, E_Rule_readThing, fIsA, fRt, fLen, fLit, fBool, nI_1]
      have f0 : Fr [57] [(56, 1), (1, 2)] τ (sI τ 1 2 (nI (p + 1))) := Fr.rf.i rfl
      refine (ih 0 (k + 1) (p + 1) s (D0 + 7) _ _ (by omega) (by omega) (T.go (by omega)) (by exact h56) (by omega) c40.1 hk4 (fun q τ1 h1 f1 e1 => ?_) (fun l q τ1 h1 f1 e1 e2 e3 e4 => ?_)).1.1 (by omega)
      · simp only [oT, E_Rule_readThing, fIsA, fRt, fLen, fLit, fBool]
        exact no q τ1 (th_bn ⟨c40.1, c40.2, hk4⟩ h1) (f0.tr f1) e1
      · have o1 := pR_ok f 0 (k + 1) (p + 1) (some l) q (by omega) c40.1 h1
        have tb := th_by ⟨c40.1, c40.2, hk4⟩ h1
        have T1 : TT τ1 g n q m := (T.go (q := p + 1) (by omega)).fr f1 rfl e1 (by omega)
        simp only [oT, E_Rule_readThing, fIsA, fRt, fLen, fLit, fBool]
        refine s_takeSign (c := 41) T1 (by omega) (fun c1 c2 => ?_) (fun c => ?_)
        · simp only [oT, E_Rule_readThing, fIsA, fRt, fLen, fLit, fBool]
          exact yes l (q + 1) _ (tb.1 ⟨c1, c2⟩) ((f0.tr f1).i rfl) rfl e2 e3 e4
        · simp only [oT, E_Rule_readThing, fIsA, fRt, fLen, fLit, fBool]
          exact no q τ1 (tb.2 c) (f0.tr f1) e1
    · have hk4 : ¬ k < 4 := fun w => z (nI_lt (b := 4) w (by omega))
      exact no p τ (th_no (fun w => by omega) (fun w => (lt_nd w.2).2 c40.2) (fun w => hk4 w.2.2)) Fr.rf T.2.1
theorem c_factor (hm : m ≤ 40) (ih : CRead g n m f) {k p s D : Nat} {τ : St} {Q : Qt} (hD : 2 * (f + 1) + 11 ≤ D) (hf : 8 * (m - p) + wM 3 ≤ f + 1) (T : TT τ g n p m) (h56 : τ.1 56 1 = nI s) (hs : s ≤ p) (hp : p ≤ m) (hk : k ≤ 4) (no : CN Q τ g m (f + 1) 3 k p) (yes : CY Q τ g m (f + 1) 3 k p s) : Cl D m_Rule_readFactor [.ref 56, .ref 1, .int (nI k)] τ Q := by
  obtain ⟨D0, rfl⟩ : ∃ D0, D = D0 + 7 := ⟨D - 7, by omega⟩
  have w3 : wM 3 = 2 := rfl
  have w7 : wM 7 = 1 := rfl
  have hmn : m ≤ n ∧ n ≤ 80 := ⟨T.2.2.2.2.1, T.2.2.2.2.2.1⟩
  have sl := sg_le (g := g) 41 p hp
  have sa := sg_at (g := g) (m := m) 41 p
  generalize hj : sgN g m 41 p = j at sl sa
  rw [N_Rule_readFactor]
  simp only [E_Rule_readFactor, fIsA, fRt, fLen, fLit, fBool]
  have fj : Fr [57] [(56, 1), (1, 2)] τ (sI τ 1 2 (nI (p + j))) := Fr.rf.i rfl
  -- behind the signs
  have thing : ∀ (Q' : Qt), (∀ q τ1, pR g m f 7 k (p + j) = (none, q) → Fr [57] [(56, 1), (1, 2)] (sI τ 1 2 (nI (p + j))) τ1 → τ1.1 1 2 = nI q → Q' (some (.int 0)) τ1) → (∀ l q τ1, pR g m f 7 k (p + j) = (some l, q) → Fr [57] [(56, 1), (1, 2)] (sI τ 1 2 (nI (p + j))) τ1 → τ1.1 1 2 = nI q → τ1.1 56 1 = nI (s + (lC l).length) → (∀ i, i < (lC l).length → τ1.1 57 (s + i) = (lC l).getD i 0) → (∀ i, i < s → τ1.1 57 i = τ.1 57 i) → Q' (some (.int 1)) τ1) → Cl (D0 + 6) m_Rule_readThing [.ref 56, .ref 1, .int (nI k)] (sI τ 1 2 (nI (p + j))) Q' := fun Q' n1 y1 =>
    (ih 7 k (p + j) s (D0 + 6) _ Q' (by omega) (by omega) (T.go (by omega)) (by exact h56) (by omega) sl.1 hk n1 y1).1.2 rfl
  have failed : ∀ q τ1, pR g m f 7 k (p + j) = (none, q) → Fr [57] [(56, 1), (1, 2)] (sI τ 1 2 (nI (p + j))) τ1 → τ1.1 1 2 = nI q → Q (some (.int 0)) τ1 := fun q τ1 h1 f1 e1 => no q τ1 (p3_n (by rw [hj]; exact h1)) (fj.tr f1) e1
  have plain : ∀ l q τ1, j % 2 = 0 → pR g m f 7 k (p + j) = (some l, q) → Fr [57] [(56, 1), (1, 2)] (sI τ 1 2 (nI (p + j))) τ1 → τ1.1 1 2 = nI q → τ1.1 56 1 = nI (s + (lC l).length) → (∀ i, i < (lC l).length → τ1.1 57 (s + i) = (lC l).getD i 0) → (∀ i, i < s → τ1.1 57 i = τ.1 57 i) → Q (some (.int 1)) τ1 := fun l q τ1 hj2 h1 f1 e1 e2 e3 e4 => by
    have el : lC (l ++ sgT j) = lC l := by
      rw [lC_app]
      unfold sgT
      by_cases z : j = 0
      · rw [if_pos z]; exact List.append_nil _
      · rw [if_neg z]
        have : lC [(3, j)] = [] := by
          show (if j % 2 = 1 then [(1126 : Int32)] else []) ++ [] = []
          rw [if_neg (by omega)]
          rfl
        rw [this]; exact List.append_nil _
    refine yes _ q τ1 (p3_y (by rw [hj]; exact h1)) (fj.tr f1) e1 ?_ ?_ e4
    · rw [hj, el]; exact e2
    · rw [hj, el]; exact e3
  have negd : ∀ l q τ1, j % 2 = 1 → pR g m f 7 k (p + j) = (some l, q) → Fr [57] [(56, 1), (1, 2)] (sI τ 1 2 (nI (p + j))) τ1 → τ1.1 1 2 = nI q → τ1.1 56 1 = nI (s + (lC l).length) → (∀ i, i < (lC l).length → τ1.1 57 (s + i) = (lC l).getD i 0) → (∀ i, i < s → τ1.1 57 i = τ.1 57 i) → Q (some (.int 1)) (sI (sI τ1 57 (s + (lC l).length) 1126) 56 1 (nI (s + (lC l).length + 1))) ∧ s + (lC l).length < 40 := fun l q τ1 hj2 h1 f1 e1 e2 e3 e4 => by
    have o1 := pR_ok f 7 k (p + j) (some l) q (by omega) sl.1 h1
    have o2 := (o1.2 l rfl).1.1
    have el : lC (l ++ sgT j) = lC l ++ [1126] := by
      rw [lC_app]
      unfold sgT
      rw [if_neg (by omega)]
      have : lC [(3, j)] = [1126] := by
        show (if j % 2 = 1 then [(1126 : Int32)] else []) ++ [] = _
        rw [if_pos hj2]
        rfl
      rw [this]
    refine ⟨yes _ q _ (p3_y (by rw [hj]; exact h1)) (((fj.tr f1).ic rfl).i rfl) e1 ?_ (fun i hi => ?_) (fun i hi => ?_), by omega⟩
    · rw [hj, el, List.length_append]
      show nI (s + (lC l).length + 1) = nI (s + ((lC l).length + 1))
      rw [Nat.add_assoc]
    · rw [hj, el] at hi ⊢
      rw [List.length_append] at hi
      have hi : i < (lC l).length + 1 := hi
      simp only [sI_1, reduceIte, Nat.reduceEqDiff]
      by_cases c : i < (lC l).length
      · rw [getD_app.1 c, if_neg (by omega)]; exact e3 i c
      · rw [getD_app.2 (by omega), if_pos (by omega), show i - (lC l).length = 0 by omega]; rfl
    · simp only [sI_1, reduceIte, Nat.reduceEqDiff]
      rw [if_neg (by omega)]
      exact e4 i hi
  have loop : ∀ (u i : Nat), i + u = j → Rs M_Rule_readFactor (D0 + 6) Q 5 [some (.ref 56), some (.ref 1), some (.int (nI k)), some (.int (nI (i % 2))), some (.int (nI i))] [] (sI τ 1 2 (nI (p + i))) := by
    intro u
    induction u with
    | zero =>
      intro i hi
      obtain rfl : i = j := by omega
      have T1 := T.go (q := p + i) (by omega)
      rw [Rs_eq]
      simp only [E_Rule_readFactor, fIsA, fRt, fLen, fLit, fBool]
      refine ⟨fun _ => ?_, fun _ => ?_⟩
      · refine thing _ (fun q τ1 h1 f1 e1 => ?_) (fun l q τ1 h1 f1 e1 e2 e3 e4 => ?_)
        · simp only [oT, E_Rule_readFactor, fIsA, fRt, fLen, fLit, fBool]
          exact failed q τ1 h1 f1 e1
        · simp only [oT, E_Rule_readFactor, fIsA, fRt, fLen, fLit, fBool]
          refine ⟨fun z => plain l q τ1 ((nI_eq (b := 0) (by omega) (by omega)).mp z) h1 f1 e1 e2 e3 e4, fun z => ?_⟩
          have ng := negd l q τ1 (by have : i % 2 ≠ 0 := fun w => z (by rw [w]; rfl)
                                     omega) h1 f1 e1 e2 e3 e4
          refine s_addStep e2 ng.2 ?_
          simp only [oT, E_Rule_readFactor, fIsA, fRt, fLen, fLit, fBool]
          exact ng.1
      · refine s_takeSign (c := 45) T1 (by omega) (fun c1 c2 => absurd ⟨c1, c2⟩ (sa.2 (by omega))) (fun _ => ?_)
        simp only [oT, E_Rule_readFactor, fIsA, fRt, fLen, fLit, fBool]
        refine thing _ (fun q τ1 h1 f1 e1 => ?_) (fun l q τ1 h1 f1 e1 e2 e3 e4 => ?_)
        · simp only [oT, E_Rule_readFactor, fIsA, fRt, fLen, fLit, fBool]
          exact failed q τ1 h1 f1 e1
        · simp only [oT, E_Rule_readFactor, fIsA, fRt, fLen, fLit, fBool]
          refine ⟨fun z => plain l q τ1 ((nI_eq (b := 0) (by omega) (by omega)).mp z) h1 f1 e1 e2 e3 e4, fun z => ?_⟩
          have ng := negd l q τ1 (by have : i % 2 ≠ 0 := fun w => z (by rw [w]; rfl)
                                     omega) h1 f1 e1 e2 e3 e4
          refine s_addStep e2 ng.2 ?_
          simp only [oT, E_Rule_readFactor, fIsA, fRt, fLen, fLit, fBool]
          exact ng.1
    | succ u iu =>
      intro i hi
      have T1 := T.go (q := p + i) (by omega)
      have c := sa.1 i (by omega)
      rw [Rs_eq]
      simp only [E_Rule_readFactor, fIsA, fRt, fLen, fLit, fBool]
      refine ⟨fun z => absurd z (nI_ge (b := 40) (by omega) (by omega)), fun _ => ?_⟩
      refine s_takeSign (c := 45) T1 (by omega) (fun _ _ => ?_) (fun w => absurd c w)
      simp only [oT, E_Rule_readFactor, fIsA, fRt, fLen, fLit, fBool, sI_sI, nI_1]
      have nx := iu (i + 1) (by omega)
      refine ⟨fun z => ?_, fun z => ?_⟩
      · have : i % 2 ≠ 0 := fun w => z (by rw [w]; rfl)
        rw [show (i + 1) % 2 = 0 by omega] at nx
        exact nx
      · have := (nI_eq (b := 0) (by omega) (by omega)).mp z
        rw [show (i + 1) % 2 = 1 by omega] at nx
        exact nx
  have st := loop j 0 (by omega)
  rw [show p + 0 = p from rfl, T.can] at st
  exact st
theorem c_three (hm : m ≤ 40) (ih : CRead g n m f) {k p s D : Nat} {τ : St} {Q : Qt} (hD : 2 * (f + 1) + 12 ≤ D) (hf : 8 * (m - p) + wM 3 ≤ f + 1) (T : TT τ g n p m) (h56 : τ.1 56 1 = nI s) (hs : s ≤ p) (hp : p ≤ m) (hk : k ≤ 4) (no : CN Q τ g m (f + 1) 3 k p) (yes : CY Q τ g m (f + 1) 3 k p s) : Cl D m_Rule_readJoined [.ref 56, .ref 1, .int (nI 3), .int (nI k)] τ Q := by
  obtain ⟨D0, rfl⟩ : ∃ D0, D = D0 + 8 := ⟨D - 8, by omega⟩
  rw [N_Rule_readJoined]
  simp only [E_Rule_readJoined, fIsA, fRt, fLen, fLit, fBool]
  refine ⟨fun z => absurd z (by decide), fun _ => ?_⟩
  refine c_factor (D := D0 + 7) hm ih (by omega) hf T h56 hs hp hk (fun q τ1 h1 f1 e1 => ?_) (fun l q τ1 h1 f1 e1 e2 e3 e4 => ?_)
  · simp only [oT, E_Rule_readJoined, fIsA, fRt, fLen, fLit, fBool]
    exact no q τ1 h1 f1 e1
  · simp only [oT, E_Rule_readJoined, fIsA, fRt, fLen, fLit, fBool]
    exact yes l q τ1 h1 f1 e1 e2 e3 e4
theorem c_read (hm : m ≤ 40) : ∀ f, CRead g n m f := by
  intro f
  induction f with
  | zero =>
    intro mode k p s D τ Q hD hf
    have : 1 ≤ wM mode := by unfold wM; split <;> (try split) <;> (try split) <;> (try split) <;> (try split) <;> omega
    omega
  | succ f ih =>
    intro mode k p s D τ Q hD hf T h56 hs hp hk no yes
    refine ⟨⟨fun c => ?_, fun c => ?_⟩, fun i l c4 c7 hi0 hi => c_loop hm ih hD hf T h56 hs hp hk no yes i l c4 c7 hi0 hi⟩
    · by_cases c3 : mode < 3
      · exact c_rank hm ih hD hf T h56 hs hp hk no yes c3
      · obtain rfl : mode = 3 := by omega
        exact c_three hm ih hD hf T h56 hs hp hk no yes
    · subst c
      exact c_thing hm ih hD hf T h56 hs hp hk no yes
end CT
