/-! PAIRS: rule -/
def ruT (g : Nat → Nat) (n : Nat) : Option (List (Nat × Nat)) × Nat := if n = 0 then (some [], 0) else match pR g (min n 40) 330 0 0 0 with
  | (none, q) => (none, q)
  | (some l, q) => if q = n then (some l, q) else (none, q)
theorem ru_0 {g : Nat → Nat} : ruT g 0 = (some [], 0) := rfl
theorem ru_n {g : Nat → Nat} {n q : Nat} (h : n ≠ 0) (h1 : pR g (min n 40) 330 0 0 0 = (none, q)) : ruT g n = (none, q) := by unfold ruT; rw [if_neg h, h1]
theorem ru_y {g : Nat → Nat} {n q : Nat} {l : List (Nat × Nat)} (h : n ≠ 0) (h1 : pR g (min n 40) 330 0 0 0 = (some l, q)) : (q = n → ruT g n = (some l, q)) ∧ (q ≠ n → ruT g n = (none, q)) := by
  unfold ruT
  rw [if_neg h, h1]
  exact ⟨fun c => if_pos c, fun c => if_neg c⟩
theorem ru_ok {g : Nat → Nat} {n : Nat} (hn : n ≤ 80) : (ruT g n).2 ≤ 40 ∧ ∀ l, (ruT g n).1 = some l → (∀ t ∈ l, okT t) ∧ (l = [] ∨ htT l 0 = some 1) ∧ (lC l).length ≤ 40 ∧ (lM l).length ≤ 40 := by
  by_cases h : n = 0
  · subst h
    exact ⟨Nat.zero_le _, fun l w => by cases w; exact ⟨fun t ht => by simp at ht, Or.inl rfl, Nat.zero_le _, Nat.zero_le _⟩⟩
  · rcases h1 : pR g (min n 40) 330 0 0 0 with ⟨x, q⟩
    have o := pR_ok 330 0 0 0 x q (by omega) (Nat.zero_le _) h1
    cases x with
    | none => rw [ru_n h h1]; exact ⟨by show q ≤ 40; omega, fun l w => by cases w⟩
    | some l =>
      have o2 := o.2 l rfl
      have o3 := (o2.2.2.1 (Or.inl (by omega))).2 0
      by_cases c : q = n
      · rw [(ru_y h h1).1 c]
        exact ⟨by show q ≤ 40; omega, fun l' w => by cases w; exact ⟨o2.2.1, Or.inr o3, by omega, by omega⟩⟩
      · rw [(ru_y h h1).2 c]
        exact ⟨by show q ≤ 40; omega, fun l w => by cases w⟩
section RR
variable {n : Nat} {g : Nat → Nat} {Q : Qt} {τ : St}
theorem s_Rread (d : Nat) (h11 : τ.1 1 1 = nI n) (hn : n ≤ 80) (hb : ∀ j, j < n → τ.1 2 j = nI (g j) ∧ g j < 256)
    (no : ∀ q τ', ruT g n = (none, q) → Fr [57] [(56, 1), (1, 2), (1, 3)] τ τ' → τ'.1 1 2 = nI q → Q (some (.int 0)) τ')
    (yes : ∀ l q τ', ruT g n = (some l, q) → Fr [57] [(56, 1), (1, 2), (1, 3)] τ τ' → τ'.1 56 1 = nI (lC l).length → (∀ j, j < (lC l).length → τ'.1 57 j = (lC l).getD j 0) → Q (some (.int 1)) τ') : Cl (d + 700) m_Rule_read [.ref 56, .ref 1] τ Q := by
  rw [N_Rule_read]
  simp only [E_Rule_read, fIsA, fRt, fLen, fLit, fBool]
  refine s_open (n := n) (b := 40) h11 hn (by omega) ?_
  simp only [oN, E_Rule_read, fIsA, fRt, fLen, fLit, fBool]
  generalize hA : sI (sI (sI τ 56 1 0) 1 3 (nI (min n 40))) 1 2 0 = A
  have fA : Fr [57] [(56, 1), (1, 2), (1, 3)] τ A := by rw [← hA]; exact ((Fr.rf.i rfl).i rfl).i rfl
  have T : TT A g n 0 (min n 40) := ⟨by rw [fA.u1 1 1 rfl]; exact h11, by rw [← hA]; rfl, by rw [← hA]; rfl, by omega, by omega, hn, fun j hj => by rw [fA.c1 2 rfl]; exact hb j hj⟩
  have a56 : A.1 56 1 = nI 0 := by rw [← hA]; rfl
  refine s_finished (n := n) (p := 0) T.1 T.2.1 hn (by omega) ?_
  by_cases h0 : n = 0
  · rw [if_pos h0.symm]
    simp only [oT, E_Rule_read, fIsA, fRt, fLen, fLit, fBool]
    subst h0
    exact yes [] 0 A ru_0 fA a56 (fun j hj => absurd hj (Nat.not_lt_zero j))
  · rw [if_neg (fun z => h0 z.symm)]
    simp only [oT, E_Rule_read, fIsA, fRt, fLen, fLit, fBool]
    refine (c_read (g := g) (n := n) (m := min n 40) (by omega) 330 0 0 0 0 (d + 699) A _ (by omega) (by rw [show wM 0 = 5 from rfl]; omega) T a56 (Nat.le_refl _) (Nat.zero_le _) (by omega) (fun q τ1 h1 f1 e1 => ?_) (fun l q τ1 h1 f1 e1 e2 e3 e4 => ?_)).1.1 (by omega)
    · simp only [oT, E_Rule_read, fIsA, fRt, fLen, fLit, fBool]
      exact no q τ1 (ru_n h0 h1) (fA.tr (f1.wk rfl)) e1
    · have o := pR_ok 330 0 0 0 (some l) q (by omega) (Nat.zero_le _) h1
      have T1 : TT τ1 g n q (min n 40) := T.fr f1 rfl e1 (by omega)
      simp only [oT, E_Rule_read, fIsA, fRt, fLen, fLit, fBool]
      refine s_finished (n := n) (p := q) T1.1 T1.2.1 hn (by omega) ?_
      by_cases c : q = n
      · rw [if_pos c]
        simp only [oT, E_Rule_read, fIsA, fRt, fLen, fLit, fBool]
        refine yes l q τ1 ((ru_y h0 h1).1 c) (fA.tr (f1.wk rfl)) (by rw [e2, Nat.zero_add]) (fun j hj => ?_)
        have := e3 j hj
        rw [Nat.zero_add] at this
        exact this
      · rw [if_neg c]
        simp only [oT, E_Rule_read, fIsA, fRt, fLen, fLit, fBool]
        exact no q τ1 ((ru_y h0 h1).2 c) (fA.tr (f1.wk rfl)) e1
theorem s_Mrules (d : Nat) (h14 : τ.1 69 14 = nI n) (hn : n ≤ 80) (hb : ∀ j, j < n → τ.1 77 j = nI (g j) ∧ g j < 256)
    (no : ∀ q τ', ruT g n = (none, q) → Fr [81] [(69, 14), (69, 15), (69, 16), (69, 17), (69, 25)] τ τ' → τ'.1 69 14 = 0 → Q (some (.int (-1 - nI q))) τ')
    (yes : ∀ l q τ', ruT g n = (some l, q) → Fr [81] [(69, 14), (69, 15), (69, 16), (69, 17), (69, 25)] τ τ' → τ'.1 69 14 = 0 → τ'.1 69 25 = nI (lM l).length → (∀ j, j < (lM l).length → τ'.1 81 j = (lM l).getD j 0) → Q (some (.int 0)) τ') : Cl (d + 750) m_M_readsRule [.ref 69] τ Q := by
  rw [N_M_readsRule]
  simp only [E_M_readsRule, fIsA, fRt, fLen, fLit, fBool]
  refine s_begins (n := n) (mx := 40) h14 hn (by omega) ?_
  simp only [oT, E_M_readsRule, fIsA, fRt, fLen, fLit, fBool]
  generalize hA : sI (sI (sI (sI (sI τ 69 14 0) 69 15 0) 69 17 0) 69 16 (nI (min n 40))) 69 25 0 = A
  have fA : Fr [81] [(69, 14), (69, 15), (69, 16), (69, 17), (69, 25)] τ A := by rw [← hA]; exact ((((Fr.rf.i rfl).i rfl).i rfl).i rfl).i rfl
  have M : MR A g n 0 (min n 40) := ⟨by rw [← hA]; rfl, by rw [← hA]; rfl, by omega, by omega, hn, fun j hj => by rw [fA.c1 77 rfl]; exact hb j hj⟩
  have a25 : A.1 69 25 = nI 0 := by rw [← hA]; rfl
  have a17 : A.1 69 17 = nI 0 := by rw [← hA]; rfl
  have a14 : A.1 69 14 = 0 := by rw [← hA]; rfl
  refine ⟨fun z => ?_, fun z => ?_⟩
  · have z := (nI_eq (b := 0) (by omega) (by omega)).mp z
    subst z
    refine s_faultOf (p := 0) (mx := 40) (Or.inr rfl) M.1 M.2.1 (Nat.zero_le _) hn (by omega) ?_
    rw [if_pos ⟨rfl, rfl⟩]
    simp only [oT, E_M_readsRule, fIsA, fRt, fLen, fLit, fBool]
    exact yes [] 0 A ru_0 fA a14 a25 (fun j hj => absurd hj (Nat.not_lt_zero j))
  · have h0 : n ≠ 0 := fun w => z (by rw [w]; rfl)
    refine (m_read (g := g) (n := n) (m := min n 40) (by omega) 330 0 0 0 0 (d + 749) A _ (by omega) (by rw [show wM 0 = 5 from rfl]; omega) M a25 a17 (Nat.le_refl _) (Nat.zero_le _) (by omega) (fun q τ1 h1 f1 e1 bb => ?_) (fun l q τ1 h1 f1 e1 e17 e2 e3 e4 => ?_)).1.1 (by omega)
    · have o := pR_ok 330 0 0 0 none q (by omega) (Nat.zero_le _) h1
      simp only [oT, E_M_readsRule, fIsA, fRt, fLen, fLit, fBool]
      refine s_faultOf (p := q) (mx := 40) (Or.inl rfl) e1 (by rw [f1.u1 69 16 rfl]; exact M.2.1) o.1.2 hn (by omega) ?_
      rw [if_neg (fun w => absurd w.1 (by decide))]
      simp only [oT, E_M_readsRule, fIsA, fRt, fLen, fLit, fBool]
      exact no q τ1 (ru_n h0 h1) (fA.tr (f1.wk rfl)) (by rw [f1.u1 69 14 rfl]; exact a14)
    · have o := pR_ok 330 0 0 0 (some l) q (by omega) (Nat.zero_le _) h1
      simp only [oT, E_M_readsRule, fIsA, fRt, fLen, fLit, fBool]
      refine s_faultOf (p := q) (mx := 40) (Or.inr rfl) e1 (by rw [f1.u1 69 16 rfl]; exact M.2.1) o.1.2 hn (by omega) ?_
      by_cases c : q = n
      · rw [if_pos ⟨rfl, c⟩]
        simp only [oT, E_M_readsRule, fIsA, fRt, fLen, fLit, fBool]
        refine yes l q τ1 ((ru_y h0 h1).1 c) (fA.tr (f1.wk rfl)) (by rw [f1.u1 69 14 rfl]; exact a14) (by rw [e2, Nat.zero_add]) (fun j hj => ?_)
        have := e3 j hj
        rw [Nat.zero_add] at this
        exact this
      · rw [if_neg (fun w => c w.2)]
        simp only [oT, E_M_readsRule, fIsA, fRt, fLen, fLit, fBool]
        exact no q τ1 ((ru_y h0 h1).2 c) (fA.tr (f1.wk rfl)) (by rw [f1.u1 69 14 rfl]; exact a14)
theorem s_Rcopy {d : Nat} (hQ : ∀ τ', Fr [54] [(53, 1)] τ τ' → (∀ j, j < 40 → τ'.1 54 j = τ.1 57 j) → τ'.1 53 1 = τ.1 56 1 → Q none τ') : Cl (d + 1) m_Rule_copy [.ref 53, .ref 56] τ Q := by
  rw [N_Rule_copy]
  simp only [E_Rule_copy, fIsA, fRt, fLen, fLit, fBool]
  refine ⟨by decide, by decide, by decide, hQ _ ?_ (fun j hj => ?_) ?_⟩
  · exact (Fr.rf.a rfl).i rfl
  · simp only [sI_1, sA_1, reduceIte, Nat.reduceEqDiff]
    exact (pk_cpy_in (f := τ.1 57) (g := τ.1 54) (sp := 0) (dp := 0) (n := 40) (j := j) (by omega) (by omega)).trans (by rw [Nat.zero_add, Nat.sub_zero])
  · simp only [sI_1, sA_1, reduceIte, Nat.reduceEqDiff]
theorem s_laysCode {d m c : Nat} (hc : c = 81 ∨ c = 97) (hm : m ≤ 80) (hQ : ∀ τ', Fr [80] [(69, 24)] τ τ' → τ'.1 69 24 = nI m → (∀ j, j < m → τ'.1 80 j = τ.1 c j) → Q none τ') : Cl (d + 1) m_M_laysCode [.ref 69, .ref c, .int (nI m)] τ Q := by
  have hA : isA 14 c ∧ len c = 80 ∧ c ≠ 80 := by
    rcases hc with rfl | rfl
    · exact ⟨by simp only [fIsA], by simp only [fLen], by decide⟩
    · exact ⟨by simp only [fIsA], by simp only [fLen], by decide⟩
  obtain ⟨ha, hl, hne⟩ := hA
  have loop : ∀ (u k : Nat) (τ1 : St), k + u = m → Fr [80] [(69, 24)] τ τ1 → τ1.1 69 24 = nI m → (∀ j, j < k → τ1.1 80 j = τ.1 c j) → Rs M_M_laysCode d Q 7 [some (.ref 69), some (.ref c), some (.int (nI m)), some (.int (nI k))] [] τ1 := by
    intro u
    induction u with
    | zero =>
      intro k τ1 hk fr h24 h
      obtain rfl : k = m := by omega
      rw [Rs_eq]
      simp only [E_M_laysCode, fIsA, fRt, fLen, fLit, fBool]
      exact ⟨fun _ => hQ τ1 fr h24 h, fun z => absurd (Int32.le_refl _) z⟩
    | succ u ih =>
      intro k τ1 hk fr h24 h
      have ec : τ1.1 c k = τ.1 c k := by
        rcases hc with rfl | rfl
        · exact fr.c1 81 rfl k
        · exact fr.c1 97 rfl k
      rw [Rs_eq]
      simp only [E_M_laysCode, fIsA, fRt, fLen, fLit, fBool, ha, hl, nI_clamp (show k < 2 ^ 31 by omega), nI_1, ec]
      refine ⟨fun z => absurd z (nI_ge (by omega) (by omega)), fun _ => ⟨vp_in_nI (by omega) (by omega), vp_in_nI (by omega) (by omega), ?_⟩⟩
      refine ih (k + 1) _ (by omega) (fr.ic rfl) (by exact h24) (fun j hj => ?_)
      simp only [sI_1, reduceIte]
      by_cases q : j = k
      · subst q; rw [if_pos rfl]
      · rw [if_neg q]; exact h j (by omega)
  rw [N_M_laysCode]
  simp only [E_M_laysCode, fIsA, fRt, fLen, fLit, fBool]
  exact loop m 0 _ (by omega) (Fr.rf.i rfl) rfl (fun j hj => absurd hj (Nat.not_lt_zero j))
end RR
theorem p_rule (t : Nat) : PrI t m_H_rule m_M_rule [] := by
  intro ht0 τ h
  obtain ⟨R, C, kd, ht, ns, n, hA, hT, hR⟩ := h
  have ⟨a, b, c, d, e, f, g, i, j⟩ := hA
  have hn := b.1
  have hn80 := hT.1
  obtain ⟨gg, hg⟩ := hT.bytes
  have ro := ru_ok (g := gg) hn80
  rw [N_H_rule]
  simp only [E_H_rule, fIsA, fRt, fLen, fLit, fBool]
  refine s_Rread 199 (n := n) (g := gg) hT.2.1 hn80 (fun j hj => ⟨(hg j hj).1, (hg j hj).2.2⟩) (fun q τ1 hr f1 e1 => ?_) (fun l q τ1 hr f1 e1 s1 => ?_)
  · simp only [oT, E_H_rule, fIsA, fRt, fLen, fLit, fBool, e1]
    refine s_empty ?_
    simp only [oN, E_H_rule, fIsA, fRt, fLen, fLit, fBool]
    have f5 : Fr [57] [(56, 1), (1, 1), (1, 2), (1, 3)] τ (sI τ1 1 1 0) := (f1.wk rfl).i rfl
    rw [N_M_rule]
    simp only [E_M_rule, fIsA, fRt, fLen, fLit, fBool]
    have f6 : Fr [57] [(56, 1), (1, 1), (1, 2), (1, 3), (69, 0)] τ (sI (sI τ1 1 1 0) 69 0 0) := (f5.wk rfl).i rfl
    refine s_Mrules 149 (n := n) (g := gg) ((f6.u1 69 14 rfl).trans hT.2.2.1) hn80 (fun j hj => ⟨by rw [f6.c1 77 rfl]; exact (hg j hj).2.1, (hg j hj).2.2⟩) (fun q2 τ2 hr2 f2 e14 => ?_) (fun l2 q2 τ2 hr2 => by rw [hr] at hr2; cases hr2)
    rw [hr] at hr2
    cases hr2
    have ro1 : q ≤ 40 := by have := ro.1; rw [hr] at this; exact this
    simp only [oT, E_M_rule, fIsA, fRt, fLen, fLit, fBool]
    refine ⟨fun _ => ok rfl ?_, fun z => absurd (show (0 : Int32) ≤ -1 - nI q by rw [z]; exact Int32.le_refl _) (negA q (by omega))⟩
    have F : Fr [57, 81] [(56, 1), (1, 1), (1, 2), (1, 3), (69, 0), (69, 14), (69, 15), (69, 16), (69, 17), (69, 25)] τ τ2 := (f6.wk rfl).tr (f2.wk rfl)
    exact hA.inv F rfl (n := 0) ⟨by omega, by rw [f2.u1 1 1 rfl]; rfl, e14, fun j hj => absurd hj (Nat.not_lt_zero j)⟩ (hR.fr F rfl)
  · have ro2 := ro.2 l (by rw [hr])
    simp only [oT, E_H_rule, fIsA, fRt, fLen, fLit, fBool]
    refine s_Rcopy (fun τ2 f2 c54 c53 => ?_)
    simp only [oN, E_H_rule, fIsA, fRt, fLen, fLit, fBool]
    refine s_empty ?_
    simp only [oN, E_H_rule, fIsA, fRt, fLen, fLit, fBool]
    rw [N_M_rule]
    simp only [E_M_rule, fIsA, fRt, fLen, fLit, fBool]
    have f6 : Fr [54, 57] [(53, 1), (56, 1), (1, 1), (1, 2), (1, 3), (69, 0)] τ (sI (sI τ2 1 1 0) 69 0 0) := (((f1.wk rfl).tr (f2.wk rfl)).i rfl).i rfl
    refine s_Mrules 149 (n := n) (g := gg) ((f6.u1 69 14 rfl).trans hT.2.2.1) hn80 (fun j hj => ⟨by rw [f6.c1 77 rfl]; exact (hg j hj).2.1, (hg j hj).2.2⟩) (fun q2 τ3 hr2 => by rw [hr] at hr2; cases hr2) (fun l2 q2 τ3 hr2 f3 e14 e25 s3 => ?_)
    rw [hr] at hr2
    cases hr2
    simp only [oT, E_M_rule, fIsA, fRt, fLen, fLit, fBool, e25]
    refine s_laysCode (Or.inl rfl) (by omega) (fun τ4 f4 h24 c80 => ?_)
    simp only [oN, E_M_rule, fIsA, fRt, fLen, fLit, fBool]
    refine ok rfl ?_
    have F24 : Fr [80, 81] [(1, 1), (69, 0), (69, 14), (69, 15), (69, 16), (69, 17), (69, 24), (69, 25)] τ2 τ4 := ((Fr.rf.i rfl).i rfl).tr ((f3.wk rfl).tr (f4.wk rfl))
    have F : Fr [54, 57, 80, 81] [(53, 1), (56, 1), (1, 1), (1, 2), (1, 3), (69, 0), (69, 14), (69, 15), (69, 16), (69, 17), (69, 24), (69, 25)] τ τ4 := (f6.wk rfl).tr ((f3.wk rfl).tr (f4.wk rfl))
    have ru : RuI τ4 := by
      refine RuI_of ro2.1 ro2.2.1 ro2.2.2.1 (by omega) ?_ h24 (fun j hj => ?_) (fun j hj => ?_)
      · rw [F24.u1 53 1 rfl, c53]; exact e1
      · rw [F24.c1 54 rfl, c54 j (by omega)]; exact s1 j hj
      · rw [c80 j hj]; exact s3 j hj
    exact ⟨R, C, kd, ht, ns, 0, ⟨a.fr F rfl, b.fr F rfl, c.fr9 F rfl (by omega) hn, d.fr F rfl (by omega) hn, e.fr F rfl (by omega) (by omega) hn, f.fr F rfl, g.fr F rfl, i.fr F rfl, ru⟩, ⟨by omega, by rw [f4.u1 1 1 rfl, f3.u1 1 1 rfl]; rfl, by rw [f4.u1 69 14 rfl]; exact e14, fun j hj => absurd hj (Nat.not_lt_zero j)⟩, hR.fr F rfl⟩
