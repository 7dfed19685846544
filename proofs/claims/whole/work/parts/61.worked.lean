/-! RULES worked out: the class's loop -/
def WI (ρ n : Nat) (S : Nat → Int32) (τ0 τ : St) (st : List Int32) : Prop := τ.1 ρ 1 = nI n ∧ (∀ j, j < n → τ.1 (ρ + 1) j = S j) ∧ τ.1 ρ 3 = nI st.length ∧ SK (τ.1 (ρ + 2)) st ∧ Fr [ρ + 2] [(ρ, 3)] τ0 τ
theorem WI.push {ρ n : Nat} {S : Nat → Int32} {τ0 τ : St} {st : List Int32} (h : WI ρ n S τ0 τ st) (v : Int32) : WI ρ n S τ0 (sI (sI τ (ρ + 2) st.length v) ρ 3 (nI (st.length + 1))) (v :: st) := by
  obtain ⟨h1, h2, h3, h4, h5⟩ := h
  have e1 : (ρ = ρ + 2) = False := eq_false (by omega)
  have e2 : (ρ + 1 = ρ) = False := eq_false (by omega)
  have e3 : (ρ + 1 = ρ + 2) = False := eq_false (by omega)
  have e4 : (ρ + 2 = ρ) = False := eq_false (by omega)
  refine ⟨?_, fun j hj => ?_, ?_, ⟨?_, SK_up h4 (fun j hj => ?_)⟩, (h5.ic (by simp)).i (by simp [subF])⟩
  · simp only [sI_1, e1, reduceIte, Nat.reduceEqDiff]; exact h1
  · simp only [sI_1, e2, e3, reduceIte]; exact h2 j hj
  · simp only [sI_1, reduceIte]; rfl
  · simp only [sI_1, e4, reduceIte]
  · simp only [sI_1, e4, reduceIte]; rw [if_neg (by omega)]
theorem WI.pop {ρ n : Nat} {S : Nat → Int32} {τ0 τ : St} {x : Int32} {st : List Int32} (h : WI ρ n S τ0 τ (x :: st)) : τ.1 (ρ + 2) st.length = x ∧ WI ρ n S τ0 (sI τ ρ 3 (nI st.length)) st := by
  obtain ⟨h1, h2, h3, ⟨h4, h4'⟩, h5⟩ := h
  have e2 : (ρ + 1 = ρ) = False := eq_false (by omega)
  have e4 : (ρ + 2 = ρ) = False := eq_false (by omega)
  refine ⟨h4, ?_, fun j hj => ?_, ?_, SK_up h4' (fun j hj => ?_), h5.i (by simp [subF])⟩
  · simp only [sI_1, reduceIte, Nat.reduceEqDiff]; exact h1
  · simp only [sI_1, e2, reduceIte]; exact h2 j hj
  · simp only [sI_1, reduceIte]
  · simp only [sI_1, e4, reduceIte]
theorem un1000 {c k : Int32} (h : c - 1000 = k) : c = k + 1000 := by rw [← h, Int32.sub_add_cancel]
theorem s_worked_loop {d ρ n : Nat} {Q : Qt} {τ0 : St} (hρ : ρ = 53 ∨ ρ = 56) {S a : Nat → Int32} {rise : Int32} (hu : (if 0 < rise then rise else 0) = a 1) (hv : (if 0 < -rise then -rise else 0) = a 2) (hn : n ≤ 40) (hQ : ∀ x τ', runC S a n 0 [] = [x] → Fr [ρ + 2] [(ρ, 3)] τ0 τ' → Q (some (.int x)) τ') :
    ∀ (m i : Nat), i + m = n → ∀ (st : List Int32) (τ : St) (u : Option Value), WI ρ n S τ0 τ st → st.length ≤ i → okR (fun i => kdC (S i)) m i st.length → runC S a m i st = runC S a n 0 [] → Rs M_Rule_worked (d + 1) Q 8 [some (.ref ρ), some (.int (a 0)), some (.int rise), some (.int (a 3)), some (.int (a 4)), some (.int (nI i)), u] [] τ
  | 0, i, hi, st, τ, u, hw, hl, hk, hr => by
    obtain rfl : i = n := by omega
    obtain ⟨r1, r2, r3, r4, r5, r6, r7⟩ := rho hρ
    match st, hk, hw, hr with
    | [x], _, hw, hr =>
      have hw0 := hw
      obtain ⟨w1, w2, w3, w4, w5⟩ := hw
      have hp := hw0.pop
      rw [Rs_eq]
      simp only [E_Rule_worked, fIsA, fRt, fLen, fLit, fBool, r1, r2, r3, r4, r5, r6, r7, w1]
      refine ⟨fun _ => ?_, fun q => absurd (Int32.le_refl _) q⟩
      refine s_pop (k := 0) hρ w3 (by omega) ?_
      simp only [oT, E_Rule_worked, fIsA, fRt, fLen, fLit, fBool]
      rw [show τ.1 (ρ + 2) 0 = x from hp.1]
      exact hQ x _ hr.symm hp.2.2.2.2.2
    | [], hk, _, _ => exact absurd (show (0 : Nat) = 1 from hk) (by decide)
    | _ :: _ :: _, hk, _, _ => exact absurd hk (by show ¬ _ + 1 + 1 = 1; omega)
  | m + 1, i, hi, st, τ, u, hw, hl, hk, hr => by
    obtain ⟨r1, r2, r3, r4, r5, r6, r7⟩ := rho hρ
    have ih := s_worked_loop (d := d) hρ hu hv hn hQ m (i + 1) (by omega)
    have hw0 := hw
    obtain ⟨w1, w2, w3, w4, w5⟩ := hw
    have hs : τ.1 (ρ + 1) i = S i := w2 i (by omega)
    rw [runC] at hr
    rw [okR] at hk
    rw [Rs_eq]
    simp only [E_Rule_worked, fIsA, fRt, fLen, fLit, fBool, r1, r2, r3, r4, r5, r6, r7, w1, nI_clamp (show i < 2 ^ 31 by omega), hs]
    refine ⟨fun q => absurd q (nI_ge (by omega) (by omega)), fun _ => ⟨fun q => absurd q (nI_ge (b := 40) (by omega) (by omega)), fun _ => ⟨vp_in_nI (by omega) (by omega), ?_⟩⟩⟩
    refine ⟨fun q hq hx => ?_, fun hno => ?_⟩
    · simp only [List.mem_cons, List.not_mem_nil, or_false] at hq
      rcases hq with rfl | rfl | rfl | rfl | rfl | rfl
      · have ec : S i = 1103 := (un1000 hx).trans (by decide)
        have k0 : kdC (S i) = 0 := by rw [ec]; decide
        have v0 : vlC a (S i) = a 3 := by rw [ec]; unfold vlC; rw [if_neg (by decide), if_neg (by decide), if_neg (by decide), if_pos rfl]
        rw [if_pos k0] at hk
        rw [k0, v0] at hr
        simp only [E_Rule_worked, fIsA, fRt, fLen, fLit, fBool, hu, hv, hs, nI_clamp (show i < 2 ^ 31 by omega), r1, r2, r3, r4, r5, r6, r7]
        refine s_push hρ w3 (by omega) ?_
        simp only [oN, E_Rule_worked, fIsA, fRt, fLen, fLit, fBool, nI_1]
        exact ih (a 3 :: st) _ _ (hw0.push _) (by simp; omega) hk hr
      · have ec : S i = 1104 := (un1000 hx).trans (by decide)
        have k0 : kdC (S i) = 0 := by rw [ec]; decide
        have v0 : vlC a (S i) = a 4 := by rw [ec]; unfold vlC; rw [if_neg (by decide), if_neg (by decide), if_neg (by decide), if_neg (by decide), if_pos rfl]
        rw [if_pos k0] at hk
        rw [k0, v0] at hr
        simp only [E_Rule_worked, fIsA, fRt, fLen, fLit, fBool, hu, hv, hs, nI_clamp (show i < 2 ^ 31 by omega), r1, r2, r3, r4, r5, r6, r7]
        refine s_push hρ w3 (by omega) ?_
        simp only [oN, E_Rule_worked, fIsA, fRt, fLen, fLit, fBool, nI_1]
        exact ih (a 4 :: st) _ _ (hw0.push _) (by simp; omega) hk hr
      · have ec : S i = 1117 := (un1000 hx).trans (by decide)
        have k0 : kdC (S i) = 0 := by rw [ec]; decide
        have v0 : vlC a (S i) = a 1 := by rw [ec]; unfold vlC; rw [if_neg (by decide), if_pos rfl]
        rw [if_pos k0] at hk
        rw [k0, v0] at hr
        simp only [E_Rule_worked, fIsA, fRt, fLen, fLit, fBool, hu, hv, hs, nI_clamp (show i < 2 ^ 31 by omega), r1, r2, r3, r4, r5, r6, r7]
        refine s_push hρ w3 (by omega) ?_
        simp only [oN, E_Rule_worked, fIsA, fRt, fLen, fLit, fBool, nI_1]
        exact ih (a 1 :: st) _ _ (hw0.push _) (by simp; omega) hk hr
      · have ec : S i = 1118 := (un1000 hx).trans (by decide)
        have k0 : kdC (S i) = 0 := by rw [ec]; decide
        have v0 : vlC a (S i) = a 2 := by rw [ec]; unfold vlC; rw [if_neg (by decide), if_neg (by decide), if_pos rfl]
        rw [if_pos k0] at hk
        rw [k0, v0] at hr
        simp only [E_Rule_worked, fIsA, fRt, fLen, fLit, fBool, hu, hv, hs, nI_clamp (show i < 2 ^ 31 by omega), r1, r2, r3, r4, r5, r6, r7]
        refine s_push hρ w3 (by omega) ?_
        simp only [oN, E_Rule_worked, fIsA, fRt, fLen, fLit, fBool, nI_1]
        exact ih (a 2 :: st) _ _ (hw0.push _) (by simp; omega) hk hr
      · have ec : S i = 1119 := (un1000 hx).trans (by decide)
        have k0 : kdC (S i) = 0 := by rw [ec]; decide
        have v0 : vlC a (S i) = a 0 := by rw [ec]; unfold vlC; rw [if_pos rfl]
        rw [if_pos k0] at hk
        rw [k0, v0] at hr
        simp only [E_Rule_worked, fIsA, fRt, fLen, fLit, fBool, hu, hv, hs, nI_clamp (show i < 2 ^ 31 by omega), r1, r2, r3, r4, r5, r6, r7]
        refine s_push hρ w3 (by omega) ?_
        simp only [oN, E_Rule_worked, fIsA, fRt, fLen, fLit, fBool, nI_1]
        exact ih (a 0 :: st) _ _ (hw0.push _) (by simp; omega) hk hr
      · have ec : S i = 1126 := (un1000 hx).trans (by decide)
        have k1 : kdC (S i) = 1 := by rw [ec]; decide
        rw [if_neg (by rw [k1]; decide), if_pos k1] at hk
        rw [k1] at hr
        match st, hk, hw0, hr, hl, w3 with
        | [], hk, _, _, _, _ => exact absurd hk.1 (by decide)
        | x :: st, hk, hw0, hr, hl, w3 =>
          have hp := hw0.pop
          simp only [List.length_cons] at hl
          simp only [E_Rule_worked, fIsA, fRt, fLen, fLit, fBool, r1, r2, r3, r4, r5, r6, r7]
          refine s_pop (k := st.length) hρ w3 (by omega) ?_
          rw [hp.1]
          simp only [oT, E_Rule_worked, fIsA, fRt, fLen, fLit, fBool]
          refine ⟨r1, s_push (k := st.length) hρ hp.2.2.2.1 (by omega) ?_⟩
          simp only [oN, E_Rule_worked, fIsA, fRt, fLen, fLit, fBool, nI_1]
          exact ih ((-x) :: st) _ _ (hp.2.push _) (by simp; omega) hk.2 hr
    · have n3 : S i ≠ 1103 := fun z => hno (103, 129) (by decide) (by rw [z]; decide)
      have n4 : S i ≠ 1104 := fun z => hno (104, 137) (by decide) (by rw [z]; decide)
      have n7 : S i ≠ 1117 := fun z => hno (117, 104) (by decide) (by rw [z]; decide)
      have n8 : S i ≠ 1118 := fun z => hno (118, 116) (by decide) (by rw [z]; decide)
      have n9 : S i ≠ 1119 := fun z => hno (119, 96) (by decide) (by rw [z]; decide)
      have n6 : S i ≠ 1126 := fun z => hno (126, 146) (by decide) (by rw [z]; decide)
      have v0 : vlC a (S i) = S i := by unfold vlC; rw [if_neg n9, if_neg n7, if_neg n8, if_neg n3, if_neg n4]
      refine ⟨fun z => ?_, fun z => ?_⟩
      · have k2 : kdC (S i) = 2 := by
          unfold kdC
          rw [if_neg, if_neg n6]
          rintro (h | h | h | h | h | h)
          · exact n9 h
          · exact n7 h
          · exact n8 h
          · exact n3 h
          · exact n4 h
          · exact Int32.not_lt.mpr z h
        rw [if_neg (by rw [k2]; decide), if_neg (by rw [k2]; decide)] at hk
        rw [k2] at hr
        match st, hk, hw0, hr, hl, w3 with
        | [], hk, _, _, _, _ => exact absurd hk.1 (by decide)
        | [_], hk, _, _, _, _ => exact absurd (show 2 ≤ 1 from hk.1) (by decide)
        | y :: x :: st, hk, hw0, hr, hl, w3 =>
          have hp := hw0.pop
          have hp2 := hp.2.pop
          simp only [List.length_cons] at hl
          refine s_pop (k := st.length + 1) hρ w3 (by omega) ?_
          rw [show τ.1 (ρ + 2) (st.length + 1) = y from hp.1]
          simp only [oT, E_Rule_worked, fIsA, fRt, fLen, fLit, fBool]
          refine ⟨r1, s_pop (k := st.length) hρ hp.2.2.2.1 (by omega) ?_⟩
          rw [show (sI τ ρ 3 (nI (st.length + 1))).1 (ρ + 2) st.length = x from hp2.1]
          simp only [oT, E_Rule_worked, fIsA, fRt, fLen, fLit, fBool]
          refine s_joined ?_
          simp only [oT, E_Rule_worked, fIsA, fRt, fLen, fLit, fBool]
          refine ⟨r1, s_push (k := st.length) hρ hp2.2.2.2.1 (by omega) ?_⟩
          simp only [oN, E_Rule_worked, fIsA, fRt, fLen, fLit, fBool, nI_1]
          exact ih (jnC (S i - 1000) y x :: st) _ _ (hp2.2.push _) (by simp; omega) hk.2 hr
      · have k0 : kdC (S i) = 0 := by
          unfold kdC
          rw [if_pos]
          exact Or.inr (Or.inr (Or.inr (Or.inr (Or.inr (Int32.not_le.mp z)))))
        rw [if_pos k0] at hk
        rw [k0, v0] at hr
        refine s_push hρ w3 (by omega) ?_
        simp only [oN, E_Rule_worked, fIsA, fRt, fLen, fLit, fBool, nI_1]
        exact ih (S i :: st) _ _ (hw0.push _) (by simp; omega) hk hr
