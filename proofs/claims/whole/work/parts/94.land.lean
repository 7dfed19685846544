/-! PAIRS: land -/
theorem s_startAnew {d : Nat} {Q : Qt} {τ : St} (hQ : ∀ τ', Fr [9, 63] [(13, 2), (46, 1), (48, 1), (50, 1)] τ τ' → (τ'.1 9 1 = 0 ∧ τ'.1 9 2 = 0 ∧ τ'.2 9 3 = 0 ∧ τ'.1 9 4 = 0 ∧ τ'.1 9 5 = 0 ∧ τ'.1 9 6 = 0 ∧ τ'.1 9 7 = 0 ∧ τ'.1 9 8 = 0) → τ'.1 13 2 = 0 → (τ'.1 63 0 = 0 ∧ τ'.1 63 1 = 1 ∧ τ'.1 63 2 = 99) → (∀ i, i < 3 → τ'.1 (46 + 2 * i) 1 = -1) → Q none τ') : Cl (d + 2) m_H_startAnew [.ref 0] τ Q := by
  have loop : ∀ (u i : Nat) (τ0 τ1 : St), i + u = 3 → (∀ τ', Fr [] [(46, 1), (48, 1), (50, 1)] τ0 τ' → (∀ i, i < 3 → τ'.1 (46 + 2 * i) 1 = -1) → Q none τ') → Fr [] [(46, 1), (48, 1), (50, 1)] τ0 τ1 → (∀ i', i' < i → τ1.1 (46 + 2 * i') 1 = -1) → Rs M_H_startAnew (d + 1) Q 23 [some (.ref 0), some (.int (nI i))] [] τ1 := by
    intro u
    induction u with
    | zero =>
      intro i τ0 τ1 hi hq fr h
      obtain rfl : i = 3 := by omega
      rw [Rs_eq]
      simp only [E_H_startAnew, fIsA, fRt, fLen, fLit, fBool]
      exact ⟨by decide, by decide, fun _ => hq τ1 fr h, fun z => absurd (Int32.le_refl _) z⟩
    | succ u ih =>
      intro i τ0 τ1 hi hq fr h
      have hi3 : i < 3 := by omega
      rw [Rs_eq]
      simp only [E_H_startAnew, fIsA, fRt, fLen, fLit, fBool, nI_clamp (show i < 2 ^ 31 by omega), mrf45, nI_1]
      refine ⟨by decide, by decide, fun z => absurd z (nI_ge (b := 3) (by omega) (by omega)), fun _ => ⟨vp_in_nI hi3 (by omega), (mset_A (ke_in i hi3)).1, ?_⟩⟩
      refine ih (i + 1) τ0 _ (by omega) hq ?_ (fun i' hi' => ?_)
      · rcases (show i = 0 ∨ i = 1 ∨ i = 2 by omega) with rfl | rfl | rfl
        · exact fr.i rfl
        · exact fr.i rfl
        · exact fr.i rfl
      · rw [sI_1]
        by_cases c : i' = i
        · subst c; rw [if_pos rfl, if_pos rfl]
        · rw [if_neg (by omega)]; exact h i' (by omega)
  rw [N_H_startAnew]
  simp only [E_H_startAnew, fIsA, fRt, fLen, fLit, fBool]
  rw [N_Moment_clear]
  simp only [E_Moment_clear, oN, E_H_startAnew, fIsA, fRt, fLen, fLit, fBool]
  rw [N_Past_clear]
  simp only [E_Past_clear, oN, E_H_startAnew, fIsA, fRt, fLen, fLit, fBool]
  rw [N_Traces_clear]
  simp only [E_Traces_clear, oN, E_H_startAnew, fIsA, fRt, fLen, fLit, fBool]
  refine loop 3 0 _ _ rfl (fun τ' f hk => ?_) Fr.rf (fun i' hi' => absurd hi' (Nat.not_lt_zero i'))
  refine hQ τ' (Fr.tr ?_ (f.wk rfl)) ⟨?_, ?_, ?_, ?_, ?_, ?_, ?_, ?_⟩ ?_ ⟨?_, ?_, ?_⟩ hk
  · exact (((((((((((Fr.rf.ic rfl).ic rfl).lc rfl).ic rfl).ic rfl).ic rfl).ic rfl).ic rfl).i rfl).ic rfl).ic rfl).ic rfl
  · rw [f.c1 9 rfl]; rfl
  · rw [f.c1 9 rfl]; rfl
  · rw [f.c2 9 rfl]; rfl
  · rw [f.c1 9 rfl]; rfl
  · rw [f.c1 9 rfl]; rfl
  · rw [f.c1 9 rfl]; rfl
  · rw [f.c1 9 rfl]; rfl
  · rw [f.c1 9 rfl]; rfl
  · rw [f.c1 13 rfl]; rfl
  · rw [f.c1 63 rfl]; rfl
  · rw [f.c1 63 rfl]; rfl
  · rw [f.c1 63 rfl]; rfl
theorem p_land (t : Nat) : PrI t m_H_land m_M_land [] := by
  intro ht0 τ h
  obtain ⟨R, C, kd, ht, ns, n, hA, hT, hR⟩ := h
  have ⟨a, b, c, d, e, f, g, i, j⟩ := hA
  obtain ⟨fi, un, u1, u2, u3, u4, u5, u6⟩ := d
  have hn80 := hT.1
  obtain ⟨gg, hg⟩ := hT.bytes
  have rl := rl_le (g := gg) (m := n) 6 0 (Nat.zero_le _)
  rw [N_H_land]
  simp only [E_H_land, fIsA, fRt, fLen, fLit, fBool]
  refine s_open (n := n) (b := 80) hT.2.1 hn80 (by omega) ?_
  simp only [oN, E_H_land, fIsA, fRt, fLen, fLit, fBool]
  rw [Nat.min_eq_left hn80]
  generalize hτa : sI (sI τ 1 3 (nI n)) 1 2 0 = τa
  have fa : Fr [] [(1, 2), (1, 3)] τ τa := by rw [← hτa]; exact (Fr.rf.i rfl).i rfl
  have hb2 : ∀ j, j < n → τ.1 2 j = nI (gg j) ∧ gg j < 256 := fun j hj => ⟨(hg j hj).1, (hg j hj).2.2⟩
  have Ta : TT τa gg n 0 n := by
    rw [← hτa]
    exact ⟨hT.2.1, rfl, rfl, by omega, by omega, hn80, hb2⟩
  refine s_canRead Ta ?_
  -- the reference's first row
  have begin : ∀ (τ5 : St) (Q : Qt), τ5.1 69 14 = nI n → (∀ j, j < n → τ5.1 77 j = nI (gg j) ∧ gg j < 256) → (∀ τ6, Fr [78] [(69, 0), (69, 14), (69, 15), (69, 16), (69, 17), (69, 19)] τ5 τ6 → τ6.1 69 14 = 0 → MR τ6 gg n (rlF gg n 6 0) n → τ6.1 69 19 = nI (rlF gg n 6 0) → lrX gg (rlF gg n 6 0) 1 τ6 → Rs M_M_land 899 Q 25 [some (.ref 69), some (.int (if rlF gg n 6 0 = 0 then 0 else 1)), some (.int 1), none, none] [] τ6) → Cl 900 m_M_land [.ref 69] τ5 Q := fun τ5 Q h14 hb hQ => by
    rw [N_M_land]
    simp only [E_M_land, fIsA, fRt, fLen, fLit, fBool]
    refine s_begins (n := n) (mx := 80) h14 hn80 (by omega) ?_
    simp only [oT, E_M_land, fIsA, fRt, fLen, fLit, fBool]
    rw [Nat.min_eq_left hn80]
    generalize hτ6 : sI (sI (sI (sI (sI (sI τ5 69 0 0) 69 14 0) 69 15 0) 69 17 0) 69 16 (nI n)) 69 19 0 = τ6
    have f56 : Fr [] [(69, 0), (69, 14), (69, 15), (69, 16), (69, 17), (69, 19)] τ5 τ6 := by rw [← hτ6]; exact (((((Fr.rf.i rfl).i rfl).i rfl).i rfl).i rfl).i rfl
    have M6 : MR τ6 gg n 0 n := ⟨by rw [← hτ6]; rfl, by rw [← hτ6]; rfl, by omega, by omega, hn80, fun j hj => ⟨by rw [f56.c1 77 rfl]; exact (hb j hj).1, (hb j hj).2⟩⟩
    refine s_readsRow (y := 0) (W := 0) M6 (by rw [← hτ6]; rfl) (by omega) (by omega) (Nat.zero_le _) 6 (fun _ => rfl) (fun z => absurd rfl z) (fun τ7 f7 e15 e19 hr ho => ?_)
    rw [Nat.zero_add] at e15
    rw [if_pos rfl] at e19
    have q := hQ τ7 ((f56.wk rfl).tr (f7.wk rfl)) (by rw [f7.u1 69 14 rfl, ← hτ6]; rfl) (M6.fr f7 rfl e15 (by omega)) e19 (fun r c' hr' hc => by
      obtain rfl : r = 0 := by omega
      have := hr c' hc
      rw [Nat.zero_mul, Nat.zero_add] at this
      rw [Nat.mul_zero, Nat.zero_mul, Nat.zero_add]
      exact this)
    simp only [oT, E_M_land, fIsA, fRt, fLen, fLit, fBool]
    by_cases z : rlF gg n 6 0 = 0
    · rw [if_pos z] at q
      rw [if_neg (by omega)]
      exact q
    · rw [if_neg z] at q
      rw [if_pos (by omega)]
      exact q
  obtain ⟨bb, Y, P, hL⟩ : ∃ bb Y P, laT gg n = (bb, Y, P) := ⟨_, _, _, rfl⟩
  have hL2 := hL
  unfold laT at hL2
  rw [hL]
  cases bb with
  | false =>
    simp only [oT, E_H_land, fIsA, fRt, fLen, fLit, fBool, Bool.false_eq_true, if_false, sI_1, reduceIte, Nat.reduceEqDiff]
    refine s_empty ?_
    simp only [oN, E_H_land, fIsA, fRt, fLen, fLit, fBool]
    generalize hτ5 : sI (sI τa 1 2 (nI P)) 1 1 0 = τ5
    have f5 : Fr [] [(1, 1), (1, 2), (1, 3)] τ τ5 := by rw [← hτ5]; exact ((fa.wk rfl).i rfl).i rfl
    have l5 : τ5.1 1 1 = 0 := by rw [← hτ5]; rfl
    refine begin τ5 _ ((f5.u1 69 14 rfl).trans hT.2.2.1) (fun j hj => ⟨by rw [f5.c1 77 rfl]; exact (hg j hj).2.1, (hg j hj).2.2⟩) (fun τ6 f6 e14 M6 e19 lx => ?_)
    have fin : ∀ τ', Fr [78] [(69, 15), (69, 19)] τ6 τ' → Inv (t + 1) τ' := fun τ' f' => by
      have F : Fr [78] [(1, 1), (1, 2), (1, 3), (69, 0), (69, 14), (69, 15), (69, 16), (69, 17), (69, 19)] τ τ' := (f5.wk rfl).tr ((f6.wk rfl).tr (f'.wk rfl))
      exact hA.inv F rfl (n := 0) ⟨by omega, by rw [f'.u1 1 1 rfl, f6.u1 1 1 rfl]; exact l5, by rw [f'.u1 69 14 rfl]; exact e14, fun j hj => absurd hj (Nat.not_lt_zero j)⟩ (hR.fr F rfl)
    by_cases z : rlF gg n 6 0 = 0
    · rw [if_pos z]
      rw [if_pos z] at hL2
      cases hL2
      rw [Rs_eq]
      have e15 : τ6.1 69 15 = nI 0 := by rw [M6.1, z]
      simp only [E_M_land, fIsA, fRt, fLen, fLit, fBool, e15]
      exact ok rfl (fin τ6 Fr.rf)
    · rw [if_neg z]
      rw [if_neg z] at hL2
      refine s_Mland_loop (d := 892) (g := gg) (n := n) (w := rlF gg n 6 0) ⟨by omega, rl.1⟩ 5 1 (rlF gg n 6 0) τ6 rfl (by omega) M6 e19 (by omega) (by omega) lx (fun _ τ' f' => ?_) (fun Y' P' hl => ?_)
      · rw [hL2]
        exact ok rfl (fin τ' f')
      · rw [hL2] at hl; cases hl
  | true =>
    obtain ⟨rfl, L⟩ := LG_of hL
    have len := LG_len L
    have ⟨⟨y1, y2⟩, ⟨w1, w2⟩, _⟩ := L
    have z : rlF gg P 6 0 ≠ 0 := by omega
    rw [if_neg z] at hL2
    simp only [oT, E_H_land, fIsA, fRt, fLen, fLit, fBool, if_true]
    generalize hτb : sI τa 1 2 (nI P) = τb
    have fb : Fr [] [(1, 2), (1, 3)] τ τb := by rw [← hτb]; exact fa.i rfl
    refine s_take L hn80 (by rw [fb.u1 1 1 rfl]; exact hT.2.1) (fun j hj => ⟨by rw [fb.c1 2 rfl]; exact (hb2 j hj).1, (hb2 j hj).2⟩) (fun τ1 f1 lf h0 h1 hk => ?_)
    generalize hw : rlF gg P 6 0 = w at *
    simp only [oN, E_H_land, fIsA, fRt, fLen, fLit, fBool]
    refine s_startAnew (fun τ2 f2 z9 z13 z63 zk => ?_)
    simp only [oN, E_H_land, fIsA, fRt, fLen, fLit, fBool]
    refine s_empty ?_
    generalize hτ3 : sI τ2 1 1 0 = τ3
    have f23 : Fr [] [(1, 1)] τ2 τ3 := by rw [← hτ3]; exact Fr.rf.i rfl
    have l3 : τ3.1 1 1 = 0 := by rw [← hτ3]; rfl
    have f13 : Fr [9, 63] [(1, 1), (13, 2), (46, 1), (48, 1), (50, 1)] τ1 τ3 := (f2.wk rfl).tr (f23.wk rfl)
    have e52 : τ3.1 5 2 = nI (Y * w) := by rw [f13.u1 5 2 rfl]; exact lf.1
    simp only [oN, E_H_land, fIsA, fRt, fLen, fLit, fBool, e52]
    have f03 : Fr [6, 7, 8, 9, 63] [(5, 0), (5, 1), (5, 2), (5, 6), (5, 7), (5, 8), (1, 1), (1, 2), (1, 3), (13, 2), (46, 1), (48, 1), (50, 1)] τ τ3 := (fb.wk rfl).tr ((f1.wk rfl).tr (f13.wk rfl))
    refine begin τ3 _ ((f03.u1 69 14 rfl).trans hT.2.2.1) (fun j hj => ⟨by rw [f03.c1 77 rfl]; exact (hg j hj).2.1, (hg j hj).2.2⟩) (fun τ6 f6 e14 M6 e19 lx => ?_)
    rw [if_neg (show ¬ w = 0 from z)]
    refine s_Mland_loop (d := 892) (g := gg) (n := P) (w := w) ⟨by omega, w2⟩ 5 1 w τ6 rfl (by omega) M6 e19 (by omega) (by omega) lx (fun hl => by rw [hL2] at hl; cases hl) (fun Y' P' hl τ7 f7 e3 e4 lx7 => ?_)
    rw [hL2] at hl
    cases hl
    refine s_Mland_fill (d := 898) (X := fun f => xF (gg (psF w f))) len.1 e3 e4 (fun f hf => ?_) (fun τ8 l8 f8 h8 => ?_)
    · have hd := Nat.div_add_mod f w
      have hm := Nat.mod_lt f (show w > 0 by omega)
      have hr : f / w < Y := Nat.div_lt_of_lt_mul (by rw [Nat.mul_comm]; exact hf)
      have q := lx7 (f / w) (f % w) hr hm
      rw [hd] at q
      exact ⟨xF_le _ (len.2.2.2 f hf).2, q⟩
    obtain ⟨ch, ch1, ch2, ch3⟩ := e
    have f38 : Fr [71, 72, 78] [(69, 0), (69, 3), (69, 4), (69, 14), (69, 15), (69, 16), (69, 17), (69, 19)] τ3 τ8 := (f6.wk rfl).tr ((f7.wk rfl).tr (f8.wk rfl))
    refine s_Mland_reset (d := 898) (ch := ch) (by rw [f8.u1 69 3 rfl]; exact e3) (by rw [f8.u1 69 4 rfl]; exact e4) (by rw [f38.u1 69 6 rfl, f03.u1 69 6 rfl]; exact ch2) (fun τ9 f9 r5 r6 r28 r45 r75 => ?_) l8
    refine ok (by rw [f2.u1 5 2 rfl]; exact lf.1) ?_
    have f39 : Fr [71, 72, 75, 78] [(69, 0), (69, 3), (69, 4), (69, 5), (69, 6), (69, 14), (69, 15), (69, 16), (69, 17), (69, 19), (69, 28), (69, 45)] τ3 τ9 := (f38.wk rfl).tr (f9.wk rfl)
    have f19 : Fr [9, 63, 71, 72, 75, 78] [(1, 1), (13, 2), (46, 1), (48, 1), (50, 1), (69, 0), (69, 3), (69, 4), (69, 5), (69, 6), (69, 14), (69, 15), (69, 16), (69, 17), (69, 19), (69, 28), (69, 45)] τ1 τ9 := (f13.wk rfl).tr (f39.wk rfl)
    have f29 : Fr [71, 72, 75, 78] [(1, 1), (69, 0), (69, 3), (69, 4), (69, 5), (69, 6), (69, 14), (69, 15), (69, 16), (69, 17), (69, 19), (69, 28), (69, 45)] τ2 τ9 := (f23.wk rfl).tr (f39.wk rfl)
    have F : Fr [6, 7, 8, 9, 63, 71, 72, 75, 78] [(5, 0), (5, 1), (5, 2), (5, 6), (5, 7), (5, 8), (1, 1), (1, 2), (1, 3), (13, 2), (46, 1), (48, 1), (50, 1), (69, 0), (69, 3), (69, 4), (69, 5), (69, 6), (69, 14), (69, 15), (69, 16), (69, 17), (69, 19), (69, 28), (69, 45)] τ τ9 := (f03.wk rfl).tr (f39.wk rfl)
    have lf9 : LF τ9 (Y * w) (fun f => gg (psF w f)) := lf.cg f19 rfl
    have GG : GI τ9 Y w (fun f => kF (gg (psF w f))) (fun f => hF (gg (psF w f))) := by
      refine ⟨⟨y1, y2, w1, w2⟩, ⟨?_, ?_, lf9.1, ?_, ?_⟩, fun f hf => ⟨⟨kF_le _, hF_le _, kF_hF⟩, ?_, ?_, (lf9.2.1 f hf).1, (lf9.2.1 f hf).2⟩, fun f h hf hh => ?_, fun k hk => lf9.2.2 k hk⟩
      · rw [f19.u1 5 0 rfl]; exact h0
      · rw [f19.u1 5 1 rfl]; exact h1
      · rw [f9.u1 69 3 rfl, f8.u1 69 3 rfl]; exact e3
      · rw [f9.u1 69 4 rfl, f8.u1 69 4 rfl]; exact e4
      · rw [f9.c1 71 rfl, (h8 f hf).1, (xkh (len.2.2.2 f hf).2).1]
      · rw [f9.c1 72 rfl, (h8 f hf).2, (xkh (len.2.2.2 f hf).2).2]
      · rw [f19.c1 8 rfl]; exact hk f h hf hh
    obtain ⟨q1, q2, q3, q4, q5, q6, q7, q8⟩ := z9
    have S' : ShI τ9 0 := ⟨by omega, r5, by rw [f29.c1 9 rfl]; exact q1, fun s hs => absurd hs (Nat.not_lt_zero s)⟩
    have M' : MoI τ9 9 0 (Y * w) (300 * (t + 1)) (fun f => kF (gg (psF w f))) (τ9.1 75) := by
      refine ⟨fun s hs => absurd hs (Nat.not_lt_zero s), ⟨?_, ?_, ?_, ?_, ?_, ?_⟩, fun f hf => ?_, fun f _ _ => ?_, ⟨0, by omega, r75 46 (by omega)⟩, ⟨0, by omega, r75 47 (by omega)⟩, ⟨0, by decide, r75 44 (by omega)⟩, ⟨0, by omega, r75 45 (by omega)⟩⟩
      · rw [f29.c1 9 rfl, r75 44 (by omega)]; exact q2
      · rw [f29.c1 9 rfl, r75 45 (by omega)]; exact q4
      · rw [f29.c1 9 rfl, r75 46 (by omega)]; exact q5
      · rw [f29.c1 9 rfl, r75 47 (by omega)]; exact q6
      · rw [f29.c1 9 rfl, r75 48 (by omega)]; exact q7
      · rw [f29.c1 9 rfl, r75 49 (by omega)]; exact q8
      · rw [f29.c2 9 rfl, q3, bL_0, r75 f (by omega)]; rfl
      · rw [f29.c2 9 rfl, q3, bL_0]
    have U' : UnI τ9 0 (Y * w) (300 * (t + 1)) (fun f => kF (gg (psF w f))) := ⟨fi, 0, u1, by omega, by rw [F.u1 13 1 rfl]; exact u3, by rw [f29.u1 13 2 rfl]; exact z13, r28, fun i hi => absurd hi (Nat.not_lt_zero i)⟩
    have K' : KeI τ9 (t + 1) 0 (Y * w) (300 * (t + 1)) (fun f => kF (gg (psF w f))) := by
      refine ⟨ch + 1, by omega, r6, fun i hi => Or.inr ⟨?_, Or.inl ?_⟩⟩
      · rw [F.c1 98 rfl, F.c1 99 rfl]
        rcases ch3 i hi with ⟨v1, v2, v3, v4⟩ | ⟨v1, v2⟩
        · exact Or.inr ⟨v1, ch, by omega, v2⟩
        · rcases v1 with v1 | ⟨v1, c0, v3, v4⟩
          · exact Or.inl v1
          · exact Or.inr ⟨v1, c0, by omega, v4⟩
      · have k1 : τ9.1 (46 + 2 * i) 1 = τ2.1 (46 + 2 * i) 1 := by rcases (show i = 0 ∨ i = 1 ∨ i = 2 by omega) with rfl | rfl | rfl <;> exact f29.u1 _ _ rfl
        rw [k1]; exact zk i hi
    have T' : TrI τ9 := ⟨0, 1, 99, by omega, by omega, by omega, by omega, by rw [f29.c1 63 rfl]; exact z63.1, r45, by rw [f29.c1 63 rfl]; exact z63.2.1, by rw [f29.c1 63 rfl]; exact z63.2.2, fun i hi => absurd hi (Nat.not_lt_zero i), fun v h1 h2 => ⟨fun _ i hi => absurd hi (Nat.not_lt_zero i), fun _ => ⟨h1, h2⟩⟩⟩
    exact ⟨Y, w, _, _, 0, 0, ⟨GG, S', M', U', K', f.fr F rfl, T', i.fr F rfl, j.fr F rfl⟩, ⟨by omega, by rw [f39.u1 1 1 rfl]; exact l3, by rw [f9.u1 69 14 rfl, f8.u1 69 14 rfl, f7.u1 69 14 rfl]; exact e14, fun j hj => absurd hj (Nat.not_lt_zero j)⟩, hR.fr F rfl⟩
