/-! LAND: the class takes the whole text -/
theorem psF_at {w r c : Nat} (h : c < w) : psF w (w * r + c) = r * (w + 1) + c := by
  unfold psF
  rw [Nat.mul_add_div (by omega), Nat.div_eq_of_lt h, Nat.mul_add_mod, Nat.mod_eq_of_lt h, Nat.add_zero]
/-- good land: Y rows of w -/
def LG (g : Nat → Nat) (n Y w : Nat) : Prop := (1 ≤ Y ∧ Y ≤ 6) ∧ (1 ≤ w ∧ w ≤ 6) ∧ n + 1 = Y * (w + 1) ∧ (∀ r c, r < Y → c < w → isF (g (r * (w + 1) + c))) ∧ ∀ r, r + 1 < Y → g (r * (w + 1) + w) = 47
theorem LG_of {g : Nat → Nat} {n Y P : Nat} (h : laT g n = (true, Y, P)) : P = n ∧ LG g n Y (rlF g n 6 0) := by
  unfold laT at h
  have rl := rl_le (g := g) (m := n) 6 0 (Nat.zero_le _)
  split at h
  · cases h
  · next z =>
    have s := laR_str 5 1 (rlF g n 6 0) Y P h (by omega) (by omega) (fun r c hr hc => by
      obtain rfl : r = 0 := by omega
      rw [Nat.zero_mul]
      exact rl.2.2 _ (by omega) (by omega)) (fun r hr => by omega)
    exact ⟨s.2.1, ⟨by omega, by omega⟩, ⟨by omega, rl.1⟩, s.2.2⟩
theorem LG_len {g : Nat → Nat} {n Y w : Nat} (h : LG g n Y w) : Y * w ≤ 36 ∧ 1 ≤ Y * w ∧ n ≤ 41 ∧ ∀ f, f < Y * w → psF w f < n ∧ isF (g (psF w f)) := by
  obtain ⟨⟨a1, a2⟩, ⟨b1, b2⟩, c, d, e⟩ := h
  have m1 : Y * w ≤ 6 * 6 := Nat.mul_le_mul a2 b2
  have m2 : 1 * 1 ≤ Y * w := Nat.mul_le_mul a1 b1
  have m3 : Y * (w + 1) ≤ 6 * 7 := Nat.mul_le_mul a2 (by omega)
  refine ⟨m1, m2, by omega, fun f hf => ?_⟩
  have hd := Nat.div_add_mod f w
  have hm := Nat.mod_lt f (show w > 0 by omega)
  have hr : f / w < Y := Nat.div_lt_of_lt_mul (by rw [Nat.mul_comm]; exact hf)
  have hx : (f / w + 1) * (w + 1) ≤ Y * (w + 1) := Nat.mul_le_mul_right (w + 1) hr
  rw [Nat.succ_mul] at hx
  refine ⟨?_, d _ _ hr hm⟩
  unfold psF
  omega
theorem s_take {d n Y w : Nat} {g : Nat → Nat} {Q : Qt} {τ : St} (L : LG g n Y w) (hn : n ≤ 80) (h11 : τ.1 1 1 = nI n) (hb : ∀ j, j < n → τ.1 2 j = nI (g j) ∧ g j < 256)
    (hQ : ∀ τ', Fr [6, 7, 8] [(5, 0), (5, 1), (5, 2), (5, 6), (5, 7), (5, 8), (1, 2), (1, 3)] τ τ' → LF τ' (Y * w) (fun f => g (psF w f)) → τ'.1 5 0 = nI Y → τ'.1 5 1 = nI w → (∀ f h, f < Y * w → h < 4 → τ'.1 8 (4 * f + h) = oI (nk (fun f => kF (g (psF w f))) Y w f h)) → Q none τ') : Cl (d + 5) m_Ground_take [.ref 5, .ref 1] τ Q := by
  have len := LG_len L
  have ⟨⟨a1, a2⟩, ⟨b1, b2⟩, c, dd, e⟩ := L
  -- neighbours
  have links : ∀ (u f : Nat) (τ1 : St), f + u = Y * w → Fr [6, 7, 8] [(5, 0), (5, 1), (5, 2), (5, 6), (5, 7), (5, 8), (1, 2), (1, 3)] τ τ1 → LF τ1 (Y * w) (fun f => g (psF w f)) → τ1.1 5 0 = nI Y → τ1.1 5 1 = nI w → (∀ f' h, f' < f → h < 4 → τ1.1 8 (4 * f' + h) = oI (nk (fun f => kF (g (psF w f))) Y w f' h)) → Rs M_Ground_take (d + 4) Q 115 [some (.ref 5), some (.ref 1), some (.int (nI f))] [] τ1 := by
    intro u
    induction u with
    | zero =>
      intro f τ1 hf fr lf h0 h1 hk
      obtain rfl : f = Y * w := by omega
      rw [Rs_eq]
      simp only [E_Ground_take, fIsA, fRt, fLen, fLit, fBool, lf.1]
      exact ⟨fun _ => hQ τ1 fr lf h0 h1 hk, fun z => absurd (Int32.le_refl _) z⟩
    | succ u ih =>
      intro f τ1 hf fr lf h0 h1 hk
      rw [Rs_eq]
      simp only [E_Ground_take, fIsA, fRt, fLen, fLit, fBool, lf.1]
      refine ⟨fun z => absurd z (nI_ge (by omega) (by omega)), fun _ => ?_⟩
      refine s_link (R := Y) (C := w) (kd := fun f => kF (g (psF w f))) ⟨lf.1, len.1, fun q hq => ⟨(lf.2.1 q hq).1, kF_le _⟩⟩ ⟨b1, b2⟩ h1 (by omega) (fun τ2 f2 hk2 ho => ?_)
      simp only [oN, E_Ground_take, fIsA, fRt, fLen, fLit, fBool, nI_1]
      refine ih (f + 1) τ2 (by omega) (fr.tr (f2.wk rfl)) (lf.cg f2 rfl) (by rw [f2.u1 5 0 rfl]; exact h0) (by rw [f2.u1 5 1 rfl]; exact h1) (fun f' h hf' hh => ?_)
      by_cases q : f' = f
      · subst q; exact hk2 h hh
      · rw [ho _ (by omega)]; exact hk f' h (by omega) hh
  -- behind the last sign
  have last : ∀ (τ1 : St), Fr [6, 7, 8] [(5, 0), (5, 1), (5, 2), (5, 6), (5, 7), (5, 8), (1, 2), (1, 3)] τ τ1 → LF τ1 (Y * w) (fun f => g (psF w f)) → τ1.1 5 0 = nI Y → Rs M_Ground_take (d + 4) Q 115 [some (.ref 5), some (.ref 1), some (.int 0)] [] (sI τ1 5 1 (nI w)) := fun τ1 fr lf h0 => links (Y * w) 0 _ (by omega) (fr.i rfl) (lf.cg (cs := []) (fs := [(5, 1)]) (Fr.rf.i rfl) rfl) h0 rfl (fun f' h hf' => absurd hf' (Nat.not_lt_zero f'))
  have signs : ∀ (u i r cc : Nat) (τ1 : St), i + u = n → i = r * (w + 1) + cc → cc ≤ w → r < Y → TT τ1 g n i n → Fr [6, 7, 8] [(5, 0), (5, 1), (5, 2), (5, 6), (5, 7), (5, 8), (1, 2), (1, 3)] τ τ1 → LF τ1 (w * r + cc) (fun f => g (psF w f)) → τ1.1 5 0 = nI (r + 1) → Rs M_Ground_take (d + 4) Q 33 [some (.ref 5), some (.ref 1), some (.int (nI i))] [] τ1 := by
    intro u
    induction u with
    | zero =>
      intro i r cc τ1 hi hic hcc hr T fr lf h0
      obtain rfl : i = n := by omega
      have er : r + 1 = Y := by
        rcases Nat.lt_or_ge (r + 1) Y with q | q
        · have m := Nat.mul_le_mul_right (w + 1) (show r + 2 ≤ Y by omega)
          rw [show (r + 2) * (w + 1) = r * (w + 1) + 2 * (w + 1) from Nat.add_mul r 2 (w + 1)] at m
          omega
        · omega
      have ec : cc = w := by
        rw [← er, Nat.succ_mul] at c
        omega
      subst ec
      have eY : cc * r + cc = Y * cc := by rw [← er, Nat.mul_comm (r + 1) cc, Nat.mul_succ]
      rw [eY] at lf
      rw [er] at h0
      have dv : nI (Y * cc) / nI Y = nI cc := by
        rw [pk_div (by omega) (by omega) (by omega), Nat.mul_div_cancel_left cc (by omega)]
      have la := last τ1 fr lf h0
      rw [Rs_eq]
      simp only [E_Ground_take, fIsA, fRt, fLen, fLit, fBool]
      refine ⟨fun z => absurd z (nI_ge (b := 80) (by omega) (by omega)), fun _ => ?_⟩
      refine s_finished (n := i) (p := i) T.1 T.2.1 hn (by omega) ?_
      rw [if_pos rfl]
      simp only [oT, E_Ground_take, fIsA, fRt, fLen, fLit, fBool, h0, lf.1, dv]
      exact ⟨fun z => absurd ((nI_leI (b := 0) (by omega) (by omega)).mp z) (by omega), fun _ => ⟨fun z => absurd ((nI_eq (b := 0) (by omega) (by omega)).mp z) (by omega), la⟩⟩
    | succ u ih =>
      intro i r cc τ1 hi hic hcc hr T fr lf h0
      have hin : i < n := by omega
      rw [Rs_eq]
      simp only [E_Ground_take, fIsA, fRt, fLen, fLit, fBool]
      refine ⟨fun z => absurd z (nI_ge (b := 80) (by omega) (by omega)), fun _ => ?_⟩
      refine s_finished (n := n) (p := i) T.1 T.2.1 hn (by omega) ?_
      rw [if_neg (by omega)]
      simp only [oT, E_Ground_take, fIsA, fRt, fLen, fLit, fBool]
      refine s_peek T ?_
      rw [if_pos hin]
      have gb := (T.2.2.2.2.2.2 i hin).2
      simp only [oT, E_Ground_take, fIsA, fRt, fLen, fLit, fBool]
      by_cases q : cc = w
      · subst q
        have r1 : r + 1 < Y := by
          rcases Nat.lt_or_ge (r + 1) Y with q | q
          · exact q
          · obtain rfl : Y = r + 1 := by omega
            rw [Nat.succ_mul] at c
            omega
        have g47 : g i = 47 := by rw [hic]; exact e r r1
        refine ⟨fun z => absurd (by rw [g47]; rfl) z, fun _ => ?_⟩
        rw [h0]
        refine s_step (p := i) (show τ1.1 1 2 = _ from T.2.1) ?_
        simp only [oN, E_Ground_take, fIsA, fRt, fLen, fLit, fBool, nI_1]
        refine ih (i + 1) (r + 1) 0 _ (by omega) (by rw [Nat.succ_mul]; omega) (by omega) r1 ⟨T.1, rfl, T.2.2.1, by omega, T.2.2.2.2⟩ ((fr.i rfl).i rfl) ?_ rfl
        have lf2 := lf.cg (τ' := sI (sI τ1 5 0 (nI (r + 1 + 1))) 1 2 (nI (i + 1))) (cs := []) (fs := [(5, 0), (1, 2)]) ((Fr.rf.i rfl).i rfl) rfl
        rw [show cc * (r + 1) + 0 = cc * r + cc from rfl]
        exact lf2
      · have hc2 : cc < w := by omega
        have hif : isF (g i) := by rw [hic]; exact dd r cc hr hc2
        have ep : psF w (w * r + cc) = i := by rw [psF_at hc2, hic]
        have m1 : w * r + cc < Y * w := by
          have m := Nat.mul_le_mul_left w (show r + 1 ≤ Y from hr)
          rw [Nat.mul_succ, Nat.mul_comm w Y] at m
          omega
        refine ⟨fun _ => ?_, fun z => absurd ((nI_eq (b := 47) (by omega) (by omega)).mp z) (fun z => by omega)⟩
        refine s_peek T ?_
        rw [if_pos hin]
        simp only [oT, E_Ground_take, fIsA, fRt, fLen, fLit, fBool]
        have gi : g i = g (psF w (w * r + cc)) := by rw [ep]
        rw [gi]
        refine s_takeField (F := w * r + cc) (B := fun f => g (psF w f)) lf (by omega) (by show g (psF w (w * r + cc)) < 256; rw [← gi]; exact gb) (by show isF (g (psF w (w * r + cc))); rw [← gi]; exact hif) (fun τ2 f2 lf2 => ?_)
        simp only [oN, E_Ground_take, fIsA, fRt, fLen, fLit, fBool]
        have T2 := T.fr f2 rfl (by rw [f2.u1 1 2 rfl]; exact T.2.1) (by omega)
        refine s_step (p := i) T2.2.1 ?_
        simp only [oN, E_Ground_take, fIsA, fRt, fLen, fLit, fBool, nI_1]
        refine ih (i + 1) r (cc + 1) _ (by omega) (by omega) (by omega) hr (T2.go (by omega)) ((fr.tr (f2.wk rfl)).i rfl) (lf2.cg (cs := []) (fs := [(1, 2)]) (Fr.rf.i rfl) rfl) ?_
        show τ2.1 5 0 = _
        rw [f2.u1 5 0 rfl]
        exact h0
  rw [N_Ground_take]
  simp only [E_Ground_take, fIsA, fRt, fLen, fLit, fBool]
  refine s_open (n := n) (b := 80) h11 hn (by omega) ?_
  simp only [oN, E_Ground_take, fIsA, fRt, fLen, fLit, fBool]
  rw [Nat.min_eq_left hn]
  refine signs n 0 0 0 _ (by omega) (by omega) (by omega) (by omega) ⟨h11, rfl, rfl, by omega, Nat.le_refl _, hn, hb⟩ (((((((Fr.rf.i rfl).i rfl).l rfl).l rfl).l rfl).i rfl).i rfl) ⟨rfl, fun f hf => absurd hf (Nat.not_lt_zero f), fun q hq => ?_⟩ rfl
  have z : ∀ k, decide (q < w * 0 + 0 ∧ kF (g (psF w q)) = k) = false := fun k => decide_eq_false (fun v => absurd v.1 (Nat.not_lt_zero q))
  rw [z, z, z]
  exact ⟨bL_0 q, bL_0 q, bL_0 q⟩
