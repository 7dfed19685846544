/-! LINES of ships, one behind another -/
def liF (g : Nat → Nat) (m : Nat) (kd : Nat → Nat) (F N : Nat) : Nat → Nat → List (Nat × Nat) × Bool × Nat
  | 0, p => ([], false, p)
  | f + 1, p => match lnF g m kd F p with
    | (none, q) => ([], false, q)
    | (some a, q) => if q = N then ([a], true, q) else if q < m ∧ g q = 59 then (a :: (liF g m kd F N f (q + 1)).1, (liF g m kd F N f (q + 1)).2.1, (liF g m kd F N f (q + 1)).2.2) else ([a], false, q)
section LI
variable {g : Nat → Nat} {m F N f p q : Nat} {kd : Nat → Nat} {a : Nat × Nat}
theorem li_no (h : lnF g m kd F p = (none, q)) : liF g m kd F N (f + 1) p = ([], false, q) := by rw [liF, h]
theorem li_end (h : lnF g m kd F p = (some a, q)) (hq : q = N) : liF g m kd F N (f + 1) p = ([a], true, q) := by
  rw [liF, h]
  show (if q = N then _ else _) = _
  rw [if_pos hq]
theorem li_go (h : lnF g m kd F p = (some a, q)) (hq : q ≠ N) (h2 : q < m ∧ g q = 59) : liF g m kd F N (f + 1) p = (a :: (liF g m kd F N f (q + 1)).1, (liF g m kd F N f (q + 1)).2.1, (liF g m kd F N f (q + 1)).2.2) := by
  rw [liF, h]
  show (if q = N then _ else _) = _
  rw [if_neg hq, if_pos h2]
theorem li_bad (h : lnF g m kd F p = (some a, q)) (hq : q ≠ N) (h2 : ¬ (q < m ∧ g q = 59)) : liF g m kd F N (f + 1) p = ([a], false, q) := by
  rw [liF, h]
  show (if q = N then _ else _) = _
  rw [if_neg hq, if_neg h2]
theorem li_ok : ∀ (f p : Nat), p ≤ m → (liF g m kd F N f p).2.2 ≤ m ∧ ((liF g m kd F N f p).2.1 = true → (liF g m kd F N f p).2.2 = N ∧ (0 < (liF g m kd F N f p).1.length ∧ (liF g m kd F N f p).1.length ≤ f) ∧ ∀ a ∈ (liF g m kd F N f p).1, (1 ≤ a.1 ∧ a.1 ≤ 99) ∧ a.2 < F ∧ kd a.2 = 1)
  | 0, p, h => ⟨h, fun z => absurd z Bool.false_ne_true⟩
  | f + 1, p, h => by
    rcases hl : lnF g m kd F p with ⟨x, q⟩
    have hq := lnF_q h hl
    cases x with
    | none => rw [li_no hl]; exact ⟨hq.2.1, fun z => absurd z Bool.false_ne_true⟩
    | some a =>
      have ha := hq.2.2 a.1 a.2 rfl
      by_cases c : q = N
      · rw [li_end hl c]
        exact ⟨hq.2.1, fun _ => ⟨c, ⟨by simp, by simp⟩, fun a' h' => by rw [List.mem_singleton] at h'; subst h'; exact ha⟩⟩
      · by_cases c2 : q < m ∧ g q = 59
        · rw [li_go hl c c2]
          have ih := li_ok f (q + 1) c2.1
          refine ⟨ih.1, fun z => ?_⟩
          have ih2 := ih.2 z
          refine ⟨ih2.1, ⟨by simp, by rw [List.length_cons]; omega⟩, fun a' h' => ?_⟩
          rcases List.mem_cons.mp h' with rfl | h'
          · exact ha
          · exact ih2.2.2 a' h'
        · rw [li_bad hl c c2]
          exact ⟨hq.2.1, fun z => absurd z Bool.false_ne_true⟩
end LI
/-- weights W and places P hold the lines from s on -/
def liC (W P : Nat → Int32) : Nat → List (Nat × Nat) → Prop
  | _, [] => True
  | s, a :: l => (W s = nI a.1 ∧ P s = nI a.2) ∧ liC W P (s + 1) l
theorem liC_at {W P : Nat → Int32} : ∀ (l : List (Nat × Nat)) (s : Nat), liC W P s l → ∀ j, s ≤ j → (h : j < s + l.length) → W j = nI (l.getD (j - s) (0, 0)).1 ∧ P j = nI (l.getD (j - s) (0, 0)).2 ∧ l.getD (j - s) (0, 0) ∈ l
  | [], s, _, j, h1, h2 => by rw [List.length_nil] at h2; omega
  | a :: l, s, h, j, h1, h2 => by
    by_cases c : j = s
    · subst c
      rw [Nat.sub_self]
      exact ⟨h.1.1, h.1.2, List.mem_cons_self ..⟩
    · have e : j - s = (j - (s + 1)) + 1 := by omega
      have ih := liC_at l (s + 1) h.2 j (by omega) (by rw [List.length_cons] at h2; omega)
      rw [e, List.getD_cons_succ]
      exact ⟨ih.1, ih.2.1, List.mem_cons_of_mem _ ih.2.2⟩
theorem liC_cg {W P W' P' : Nat → Int32} : ∀ (l : List (Nat × Nat)) (s : Nat), (∀ j, s ≤ j → j < s + l.length → W' j = W j ∧ P' j = P j) → liC W P s l → liC W' P' s l
  | [], _, _, _ => trivial
  | a :: l, s, h, hc => by
    have h0 := h s (Nat.le_refl _) (by rw [List.length_cons]; omega)
    exact ⟨⟨h0.1.trans hc.1.1, h0.2.trans hc.1.2⟩, liC_cg l (s + 1) (fun j h1 h2 => h j (by omega) (by rw [List.length_cons]; omega)) hc.2⟩
section LL
variable {d R C ns m N : Nat} {kd ht : Nat → Nat} {Q : Qt} {g : Nat → Nat}
theorem s_readLines_loop (hm : m = min N 55) (hN : N ≤ 80) : ∀ (f s p : Nat) (τ : St), s + f = 8 → p ≤ m → GI τ R C kd ht → TT τ g N p m → τ.1 9 1 = nI ns →
    (∀ τ', Fr [10, 52] [(1, 2)] τ τ' → τ'.1 1 2 = nI (liF g m kd (R * C) N f p).2.2 → (∀ j, j < s → τ'.1 52 j = τ.1 52 j ∧ τ'.1 10 j = τ.1 10 j) → ((liF g m kd (R * C) N f p).2.1 = true → liC (τ'.1 52) (τ'.1 10) s (liF g m kd (R * C) N f p).1) → Q (some (.int (if (liF g m kd (R * C) N f p).2.1 = true then nI (s + (liF g m kd (R * C) N f p).1.length) - nI ns else -1))) τ') → Rs M_H_readLines (d + 4) Q 8 [some (.ref 0), some (.int (nI s))] [] τ
  | 0, s, p, τ, hs, hp, G, T, h9, hQ => by
    obtain rfl : s = 8 := by omega
    have q := hQ τ Fr.rf T.2.1 (fun _ _ => ⟨rfl, rfl⟩) (fun z => absurd z Bool.false_ne_true)
    rw [Rs_eq]
    simp only [E_H_readLines, fIsA, fRt, fLen, fLit, fBool]
    exact ⟨fun _ => q, fun z => absurd (Int32.le_refl _) z⟩
  | f + 1, s, p, τ, hs, hp, G, T, h9, hQ => by
    rw [Rs_eq]
    simp only [E_H_readLines, fIsA, fRt, fLen, fLit, fBool]
    refine ⟨fun z => absurd z (nI_ge (b := 8) (by omega) (by omega)), fun _ => ?_⟩
    refine s_readLine G T (by omega) hp (fun q hl => ?_) (fun w fl q hl => ?_)
    · simp only [oT, E_H_readLines, fIsA, fRt, fLen, fLit, fBool]
      rw [li_no hl] at hQ
      exact hQ _ (Fr.rf.i rfl) rfl (fun _ _ => ⟨rfl, rfl⟩) (fun z => absurd z Bool.false_ne_true)
    · have hq := lnF_q hp hl
      generalize hA : sI (sI (sI τ 1 2 (nI q)) 52 s (nI w)) 10 s (nI fl) = A
      have fA : Fr [10, 52] [(1, 2)] τ A := by rw [← hA]; exact ((Fr.rf.i rfl).ic rfl).ic rfl
      have a12 : A.1 1 2 = nI q := by rw [← hA]; rfl
      have TA := T.fr fA rfl a12 (by omega)
      have a52 : A.1 52 s = nI w := by rw [← hA]; simp only [sI_1, reduceIte, Nat.reduceEqDiff]
      have a10 : A.1 10 s = nI fl := by rw [← hA]; simp only [sI_1, reduceIte, Nat.reduceEqDiff]
      have oth : ∀ j, j < s → A.1 52 j = τ.1 52 j ∧ A.1 10 j = τ.1 10 j := fun j hj => by
        rw [← hA]; simp only [sI_1, reduceIte, Nat.reduceEqDiff]
        rw [if_neg (by omega), if_neg (by omega)]
        exact ⟨rfl, rfl⟩
      simp only [oT, E_H_readLines, fIsA, fRt, fLen, fLit, fBool]
      refine s_finished (n := N) (p := q) TA.1 TA.2.1 hN TA.2.2.2.1 ?_
      by_cases c : q = N
      · rw [if_pos c]
        simp only [oT, E_H_readLines, fIsA, fRt, fLen, fLit, fBool, fA.c1 9 rfl, h9, nI_1]
        rw [li_end hl c] at hQ
        exact hQ A fA a12 oth (fun _ => ⟨⟨a52, a10⟩, trivial⟩)
      · rw [if_neg c]
        simp only [oT, E_H_readLines, fIsA, fRt, fLen, fLit, fBool]
        refine s_takeSign (c := 59) TA (by omega) (fun c1 c2 => ?_) (fun c1 => ?_)
        · simp only [oT, E_H_readLines, fIsA, fRt, fLen, fLit, fBool, nI_1]
          rw [li_go hl c ⟨c1, c2⟩] at hQ
          have f2 : Fr [10, 52] [(1, 2)] τ (sI A 1 2 (nI (q + 1))) := fA.i rfl
          refine s_readLines_loop hm hN f (s + 1) (q + 1) _ (by omega) c1 (G.fr f2 rfl) (TA.go (by omega)) (by show A.1 9 1 = _; rw [fA.c1 9 rfl]; exact h9) (fun τ2 f3 e12 o2 y2 => ?_)
          have := hQ τ2 (f2.tr f3) e12 (fun j hj => ⟨(o2 j (by omega)).1.trans (oth j hj).1, (o2 j (by omega)).2.trans (oth j hj).2⟩) (fun z => ⟨⟨(o2 s (by omega)).1.trans a52, (o2 s (by omega)).2.trans a10⟩, y2 z⟩)
          rw [List.length_cons, show s + ((liF g m kd (R * C) N f (q + 1)).1.length + 1) = s + 1 + (liF g m kd (R * C) N f (q + 1)).1.length by omega] at this
          exact this
        · simp only [oT, E_H_readLines, fIsA, fRt, fLen, fLit, fBool]
          rw [li_bad hl c c1] at hQ
          exact hQ A fA a12 oth (fun z => absurd z Bool.false_ne_true)
theorem s_Mships_loop (hm : m = min N 55) (hN : N ≤ 80) : ∀ (f k p : Nat) (x : Int32) (τ : St), ns + k + f = 8 → p ≤ m → GI τ R C kd ht → MR τ g N p m → τ.1 69 5 = nI ns → τ.1 69 21 = nI k →
    (∀ τ' y, Fr [79] [(69, 15), (69, 21)] τ τ' → τ'.1 69 15 = nI (liF g m kd (R * C) N f p).2.2 → (y = 0 ∨ y = 1) → ((y = 1 ∧ (liF g m kd (R * C) N f p).2.2 = N) ↔ (liF g m kd (R * C) N f p).2.1 = true) → ((liF g m kd (R * C) N f p).2.1 = true → (τ'.1 69 21 = nI (k + (liF g m kd (R * C) N f p).1.length) ∧ liC (fun s => τ'.1 79 (2 * s)) (fun s => τ'.1 79 (2 * s + 1)) k (liF g m kd (R * C) N f p).1) ∧ ∀ j, j < 2 * k → τ'.1 79 j = τ.1 79 j) → Rs M_M_ships (d + 5) Q 29 [some (.ref 69), some (.int (nI N)), some (.int y), some (.int 0), none, none] [] τ') → Rs M_M_ships (d + 5) Q 29 [some (.ref 69), some (.int (nI N)), some (.int x), some (.int 1), none, none] [] τ
  | 0, k, p, x, τ, hs, hp, G, M, h5, h21, hQ => by
    rw [Rs_eq]
    simp only [E_M_ships, fIsA, fRt, fLen, fLit, fBool]
    rw [N_M_readsShip]
    have e8 : nI ns + nI k = 8 := by rw [nI_add, show ns + k = 8 by omega]; rfl
    simp only [E_M_readsShip, fIsA, fRt, fLen, fLit, fBool, h5, h21, e8]
    simp only [oT, E_M_ships, fIsA, fRt, fLen, fLit, fBool]
    exact hQ τ 0 Fr.rf M.1 (Or.inl rfl) ⟨fun z => absurd z.1 (by decide), fun z => absurd z Bool.false_ne_true⟩ (fun z => absurd z Bool.false_ne_true)
  | f + 1, k, p, x, τ, hs, hp, G, M, h5, h21, hQ => by
    rw [Rs_eq]
    simp only [E_M_ships, fIsA, fRt, fLen, fLit, fBool]
    refine s_readsShip (k := k) G h5 h21 (by omega) M hp (fun q τ1 hl f1 e15 e21 => ?_) (fun w fl q τ1 hl f1 e15 e21 e1 e2 oo => ?_)
    · simp only [oT, E_M_ships, fIsA, fRt, fLen, fLit, fBool]
      rw [li_no hl] at hQ
      refine hQ τ1 0 f1 e15 (Or.inl rfl) ⟨fun z => absurd z.1 (by decide), fun z => absurd z Bool.false_ne_true⟩ (fun z => absurd z Bool.false_ne_true)
    · have hq := lnF_q hp hl
      have M1 := M.fr f1 rfl e15 (by have := M.2.2.2; omega)
      simp only [oT, E_M_ships, fIsA, fRt, fLen, fLit, fBool]
      refine s_takes (c := 59) M1 (by omega) (fun c1 c2 => ?_) (fun c1 => ?_)
      · have c : q ≠ N := by omega
        simp only [oT, E_M_ships, fIsA, fRt, fLen, fLit, fBool]
        rw [li_go hl c ⟨c1, c2⟩] at hQ
        have f2 : Fr [79] [(69, 15), (69, 21)] τ (sI τ1 69 15 (nI (q + 1))) := f1.i rfl
        refine s_Mships_loop hm hN f (k + 1) (q + 1) 1 _ (by omega) c1 (G.fr f2 rfl) (M1.go (by have := M.2.2.2; omega)) ((f2.u1 69 5 rfl).trans h5) e21 (fun τ2 y f3 e15' hy hb y2 => ?_)
        refine hQ τ2 y (f2.tr f3) e15' hy hb (fun z => ?_)
        obtain ⟨⟨z1, z2⟩, o2⟩ := y2 z
        refine ⟨⟨by rw [z1, List.length_cons]; congr 1; omega, ⟨(o2 _ (by omega)).trans e1, (o2 _ (by omega)).trans e2⟩, z2⟩, fun j hj => (o2 j (by omega)).trans (oo j hj)⟩
      · simp only [oT, E_M_ships, fIsA, fRt, fLen, fLit, fBool]
        by_cases c : q = N
        · rw [li_end hl c] at hQ
          exact hQ τ1 1 f1 e15 (Or.inr rfl) ⟨fun _ => rfl, fun _ => ⟨rfl, c⟩⟩ (fun _ => ⟨⟨e21, ⟨e1, e2⟩, trivial⟩, oo⟩)
        · rw [li_bad hl c c1] at hQ
          exact hQ τ1 1 f1 e15 (Or.inr rfl) ⟨fun z => absurd z.2 c, fun z => absurd z Bool.false_ne_true⟩ (fun z => absurd z Bool.false_ne_true)
end LL
