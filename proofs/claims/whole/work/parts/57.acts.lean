/-! PAIRS: hours, plank -/
theorem UnI.add {fi un ns n B B' : Nat} {kd : Nat → Nat} {τ τ' : St} {r0 : Nat → Int32} (u1 : fi < 15) (u2 : un ≤ 15) (u6 : ∀ i, i < un → τ.1 (pm fi i) 1 = nI ns ∧ MoI τ (pm fi i) ns n B kd (fun j => τ.1 84 (50 * i + j)))
    (h1 : τ'.1 13 1 = nI (if un = 15 then (fi + 1) % 15 else fi)) (h2 : τ'.1 13 2 = nI (if un = 15 then 15 else un + 1)) (h3 : τ'.1 69 28 = nI (if un = 15 then 15 else un + 1))
    (hm1 : τ'.1 (pm fi un) 1 = nI ns) (hm : MoI τ' (pm fi un) ns n B' kd r0) (ho : ∀ i, i < 15 → i ≠ (fi + un) % 15 → MoE (15 + 2 * i) (15 + 2 * i) τ τ')
    (hr0 : ∀ j, j < 50 → τ'.1 84 (50 * (if un = 15 then 14 else un) + j) = r0 j) (hr : ∀ i j, i < (if un = 15 then 14 else un) → j < 50 → τ'.1 84 (50 * i + j) = τ.1 84 (50 * (if un = 15 then i + 1 else i) + j)) (hB : B ≤ B') (hns : ns ≤ 8) : UnI τ' ns n B' kd := by
  have one : ∀ x i, x < 15 → x ≠ (fi + un) % 15 → τ.1 (15 + 2 * x) 1 = nI ns ∧ MoI τ (15 + 2 * x) ns n B kd (fun j => τ.1 84 (50 * i + j)) → ∀ i', (∀ j, j < 50 → τ'.1 84 (50 * i' + j) = τ.1 84 (50 * i + j)) → τ'.1 (15 + 2 * x) 1 = nI ns ∧ MoI τ' (15 + 2 * x) ns n B' kd (fun j => τ'.1 84 (50 * i' + j)) := fun x i hx hne v i' hi' => by
    have e := ho x hx hne
    exact ⟨by rw [e.1.1]; exact v.1, v.2.to e hi' hB hns⟩
  have new : ∀ i', (∀ j, j < 50 → τ'.1 84 (50 * i' + j) = r0 j) → τ'.1 (pm fi un) 1 = nI ns ∧ MoI τ' (pm fi un) ns n B' kd (fun j => τ'.1 84 (50 * i' + j)) := fun i' hi' => ⟨hm1, hm.same (fun _ => rfl) (fun _ => rfl) (fun _ => rfl) hi' (Nat.le_refl _) hns⟩
  by_cases c : un = 15
  · subst c
    rw [if_pos rfl] at h1 h2 h3 hr0
    refine ⟨(fi + 1) % 15, 15, Nat.mod_lt _ (by omega), by omega, h1, h2, h3, fun i hi => ?_⟩
    by_cases c2 : i = 14
    · subst c2
      have e : pm ((fi + 1) % 15) 14 = pm fi 15 := by unfold pm; omega
      rw [e]
      exact new 14 hr0
    · have e : pm ((fi + 1) % 15) i = pm fi (i + 1) := by unfold pm; omega
      have hm := Nat.mod_lt (fi + (i + 1)) (show 15 > 0 by omega)
      rw [e]
      refine one ((fi + (i + 1)) % 15) (i + 1) hm (by omega) (u6 (i + 1) (by omega)) i (fun j hj => ?_)
      have := hr i j (by rw [if_pos rfl]; omega) hj
      rw [if_pos rfl] at this
      exact this
  · rw [if_neg c] at h1 h2 h3 hr0
    refine ⟨fi, un + 1, u1, by omega, h1, h2, h3, fun i hi => ?_⟩
    by_cases c2 : i = un
    · subst c2
      exact new i hr0
    · have hm := Nat.mod_lt (fi + i) (show 15 > 0 by omega)
      refine one ((fi + i) % 15) i hm (by omega) (u6 i (by omega)) i (fun j hj => ?_)
      have := hr i j (by rw [if_neg c]; omega) hj
      rw [if_neg c] at this
      exact this
theorem MoE.tr {a b : Nat} {τ0 τ1 τ2 : St} (h : MoE a b τ1 τ2) (h1 : ∀ j, τ1.1 b j = τ0.1 b j) (h2 : ∀ j, τ1.2 b j = τ0.2 b j) (h3 : ∀ j, τ1.1 (b + 1) j = τ0.1 (b + 1) j) : MoE a b τ0 τ2 := by
  obtain ⟨⟨e1, e2, e3, e4, e5, e6, e7, e8⟩, e9⟩ := h
  exact ⟨⟨e1.trans (h1 _), e2.trans (h1 _), e3.trans (h2 _), e4.trans (h1 _), e5.trans (h1 _), e6.trans (h1 _), e7.trans (h1 _), e8.trans (h1 _)⟩, fun j hj => (e9 j hj).trans (h3 j)⟩
theorem MoE.trans {a b c : Nat} {τ0 τ1 τ2 : St} (h : MoE a b τ1 τ2) (g : MoE b c τ0 τ1) : MoE a c τ0 τ2 := by
  obtain ⟨⟨e1, e2, e3, e4, e5, e6, e7, e8⟩, e9⟩ := h
  obtain ⟨⟨g1, g2, g3, g4, g5, g6, g7, g8⟩, g9⟩ := g
  exact ⟨⟨e1.trans g1, e2.trans g2, e3.trans g3, e4.trans g4, e5.trans g5, e6.trans g6, e7.trans g7, e8.trans g8⟩, fun j hj => (e9 j hj).trans (g9 j hj)⟩
/-- the moments kept for undo, when an act was remembered: τ at first, τ2 ahead of the class's remembering and τ3 behind it, τ5 behind the reference's putting by, τ7 ahead of its remembering and τ8 behind it -/
theorem UnI.rem {fi un ns n B B' : Nat} {kd : Nat → Nat} {τ τ2 τ3 τ5 τ7 τ8 : St} (u1 : fi < 15) (u2 : un ≤ 15) (u6 : ∀ i, i < un → τ.1 (pm fi i) 1 = nI ns ∧ MoI τ (pm fi i) ns n B kd (fun j => τ.1 84 (50 * i + j)))
    (s1 : τ.1 9 1 = nI ns) (c : MoI τ 9 ns n B kd (τ.1 75)) (mB : MoE 11 9 τ τ2) (hp : ∀ k, pmL.contains k = true → ∀ j, τ2.1 k j = τ.1 k j ∧ τ2.2 k j = τ.2 k j)
    (p1 : τ3.1 13 1 = nI (if un = 15 then (fi + 1) % 15 else fi)) (p2 : τ3.1 13 2 = nI (if un = 15 then 15 else un + 1)) (p3 : MoE (pm fi un) 11 τ2 τ3) (p4 : ∀ i, i < 15 → i ≠ (fi + un) % 15 → MoE (15 + 2 * i) (15 + 2 * i) τ2 τ3)
    (hz : ∀ k, (13 :: pmL).contains k = true → ∀ j, τ8.1 k j = τ3.1 k j ∧ τ8.2 k j = τ3.2 k j) (q1 : ∀ j, j < 50 → τ5.1 84 (50 * un + j) = τ.1 75 j) (q2 : ∀ j, j < 50 * un → τ5.1 84 j = τ.1 84 j) (h84 : ∀ j, τ7.1 84 j = τ5.1 84 j)
    (a1 : τ8.1 69 28 = nI (if un = 15 then 15 else un + 1)) (a2 : ∀ i j, i ≤ (if un = 15 then 14 else un) → j < 50 → τ8.1 84 (50 * i + j) = τ7.1 84 (50 * (if un = 15 then i + 1 else i) + j)) (hB : B ≤ B') (hns : ns ≤ 8) : UnI τ8 ns n B' kd := by
  have hz' : ∀ k, pmL.contains k = true → ∀ j, τ8.1 k j = τ3.1 k j ∧ τ8.2 k j = τ3.2 k j := fun k hk => hz k (by rw [List.contains_cons, hk, Bool.or_true])
  have m0 : MoE (pm fi un) 9 τ τ8 := by
    obtain ⟨g1, g2⟩ := pmL_in ((fi + un) % 15) (Nat.mod_lt _ (by decide))
    exact (p3.trans mB).fr (fun j => (hz' _ g1 j).1) (fun j => (hz' _ g1 j).2) (fun j => (hz' _ g2 j).1)
  refine UnI.add u1 u2 u6 ((hz 13 (by decide) 1).1.trans p1) ((hz 13 (by decide) 2).1.trans p2) a1 (by rw [m0.1.1]; exact s1) (c.to m0 (fun _ _ => rfl) hB hns) (fun i hi hne => ?_) (fun j hj => ?_) (fun i j hi hj => ?_) hB hns
  · obtain ⟨g1, g2⟩ := pmL_in i hi
    exact ((p4 i hi hne).tr (fun j => (hp _ g1 j).1) (fun j => (hp _ g1 j).2) (fun j => (hp _ g2 j).1)).fr (fun j => (hz' _ g1 j).1) (fun j => (hz' _ g1 j).2) (fun j => (hz' _ g2 j).1)
  · rw [a2 _ j (Nat.le_refl _) hj, h84]
    have e : (if un = 15 then (if un = 15 then 14 else un) + 1 else (if un = 15 then 14 else un)) = un := by
      by_cases q : un = 15
      · rw [if_pos q, if_pos q]; omega
      · rw [if_neg q, if_neg q]
    rw [e]
    exact q1 j hj
  · rw [a2 i j (Nat.le_of_lt hi) hj, h84]
    refine q2 _ ?_
    by_cases q : un = 15
    · rw [if_pos q] at hi ⊢; omega
    · rw [if_neg q] at hi ⊢; omega
/-- hours: the class's loop -/
theorem s_letPass {d ns n : Nat} {kd : Nat → Nat} {e : Int32} {τ0 : St} {Q : Qt} (hns : ns ≤ 8) {k mx : Nat} (hk : k ≤ 100) : ∀ (m i : Nat), i + m = k → ∀ (r : Nat → Int32) (b : Nat) (τ : St), τ.1 0 9 = e → Fr [9] [] τ0 τ → τ.1 9 1 = τ0.1 9 1 → MoI τ 9 ns n b kd r →
    (∀ τ', Fr [9] [] τ0 τ' → τ'.1 9 1 = τ0.1 9 1 → MoI τ' 9 ns n (b + m) kd (hgN e m r) → Q (some (.int (10 * hgN e m r 46 + hgN e m r 47))) τ') → Rs M_H_letPass (d + 1) Q 14 [some (.ref 0), some (.int (nI k)), some (.int (nI mx)), some (.int (nI i))] [] τ
  | 0, i, hi, r, b, τ, he, hf, h1, mo, hQ => by
    obtain rfl : i = k := by omega
    rw [Rs_eq]
    have ⟨_, ⟨_, _, c3, c4, _, _⟩, _⟩ := mo
    simp only [E_H_letPass, fIsA, fRt, fLen, fLit, fBool, c3, c4]
    exact ⟨fun _ => hQ τ hf h1 mo, fun q => absurd (Int32.le_refl _) q⟩
  | m + 1, i, hi, r, b, τ, he, hf, h1, mo, hQ => by
    rw [Rs_eq]
    simp only [E_H_letPass, fIsA, fRt, fLen, fLit, fBool, he, nI_1]
    refine ⟨fun q => absurd q (nI_ge (by omega) (by omega)), fun _ => ?_⟩
    refine s_letHour mo hns (fun τ1 f1 s1 m1 => ?_)
    simp only [oN, E_H_letPass, fIsA, fRt, fLen, fLit, fBool, nI_1]
    refine s_letPass (e := e) hns hk m (i + 1) (by omega) (hgR e r) (b + 1) τ1 (by rw [f1.u1 0 9 rfl]; exact he) (hf.tr f1) (s1.trans h1) m1 (fun τ' f s mo' => ?_)
    rw [show b + 1 + m = b + (m + 1) by omega] at mo'
    exact hQ τ' f s mo'
theorem s_Mhours_loop {d : Nat} {e a : Int32} {τ0 : St} {Q : Qt} {k : Nat} (hk : k ≤ 100) : ∀ (m i : Nat), i + m = k → ∀ (r : Nat → Int32) (τ : St), τ.1 74 1 = e → Fr [75] [] τ0 τ → (∀ j, j < 50 → τ.1 75 j = r j) →
    (∀ τ', Fr [75] [] τ0 τ' → (∀ j, j < 50 → τ'.1 75 j = hgN e m r j) → Rs M_M_hours (d + 2) Q 33 [some (.ref 69), some (.int (nI k)), some (.int a), some (.int (nI k))] [] τ') → Rs M_M_hours (d + 2) Q 33 [some (.ref 69), some (.int (nI k)), some (.int a), some (.int (nI i))] [] τ
  | 0, i, hi, r, τ, he, hf, hr, hQ => by
    obtain rfl : i = k := by omega
    exact hQ τ hf hr
  | m + 1, i, hi, r, τ, he, hf, hr, hQ => by
    rw [Rs_eq]
    simp only [E_M_hours, fIsA, fRt, fLen, fLit, fBool]
    refine ⟨fun q => absurd q (nI_ge (by omega) (by omega)), fun _ => ?_⟩
    refine s_hourGoes hr he (fun τ1 f1 r1 => ?_)
    simp only [oN, E_M_hours, fIsA, fRt, fLen, fLit, fBool, nI_1]
    exact s_Mhours_loop (e := e) hk m (i + 1) (by omega) (hgR e r) τ1 (by rw [f1.c1 74 rfl]; exact he) (hf.tr f1) r1 hQ
theorem hgN_ship (e : Int32) : ∀ (m : Nat) (r : Nat → Int32) (j : Nat), j < 44 → hgN e m r j = r j
  | 0, r, j, _ => rfl
  | m + 1, r, j, hj => by rw [hgN, hgN_ship e m _ j hj, hgL hj]
theorem p_hours (t : Nat) (x : Int32) : PrI t m_H_hours m_M_hours [.int x] := by
  intro ht0 τ h
  obtain ⟨R, C, kd, ht, ns, n, hA, hT, hR⟩ := h
  have ⟨a, b, c, d, e, f, g, i, j⟩ := hA
  have hn := b.1
  have ⟨_, o2, _, ee, he, o4⟩ := f
  obtain ⟨fi, un, u1, u2, u3, u4, u5, u6⟩ := d
  have UU : UnI τ ns (R * C) (300 * t) kd := ⟨fi, un, u1, u2, u3, u4, u5, u6⟩
  rw [N_H_hours]
  simp only [E_H_hours, fIsA, fRt, fLen, fLit, fBool]
  refine s_copy (a := 11) (b := 9) (by decide) (by decide) (by omega) (fun τ1 f1 m1 => ?_)
  simp only [oN, E_H_hours, fIsA, fRt, fLen, fLit, fBool]
  rw [N_H_letPass]
  simp only [E_H_letPass, fIsA, fRt, fLen, fLit, fBool]
  have no : ¬ (1 ≤ x ∧ x ≤ nI 30) → Cl 900 m_M_hours [Value.ref 69, Value.int x] τ1 fun b τ2 => (∃ x, some (Value.int (-1)) = some (Value.int x) ∧ b = some (Value.int x)) ∧ Inv (t + 1) τ2 := fun q => by
    rw [N_M_hours]
    simp only [E_M_hours, fIsA, fRt, fLen, fLit, fBool, sI_1, reduceIte, Nat.reduceEqDiff]
    refine s_inI 1 rfl (nI 30) rfl (fun c1 c2 => absurd ⟨c1, c2⟩ q) (fun _ => ?_)
    simp only [oT, E_M_hours, fIsA, fRt, fLen, fLit, fBool]
    exact ok rfl (hA.inv3 hT hR ((f1.wk (cs' := [11, 12]) (fs' := [(69, 0)]) rfl).i rfl) rfl)
  refine ⟨fun z => ?_, fun z => ⟨fun z2 => ?_, fun z2 => ?_⟩⟩
  · simp only [oT, E_H_hours, fIsA, fRt, fLen, fLit, fBool]
    rw [N_H_remembered]
    simp only [E_H_remembered, oT, E_H_hours, fIsA, fRt, fLen, fLit, fBool]
    exact no (fun q => nlt q.1 z)
  · obtain ⟨k, hk, rfl⟩ := of0 (n := 30) (Int32.le_trans (by decide) (Int32.not_lt.mp z)) z2 (by omega)
    have mo1 : MoI τ1 9 ns (R * C) (300 * t) kd (τ.1 75) := c.same (fun j => f1.c1 9 rfl j) (fun j => f1.c2 9 rfl j) (fun j => f1.c1 10 rfl j) (fun _ _ => rfl) (Nat.le_refl _) hn
    refine s_letPass (e := nI ee) (mx := 30) hn (by omega) k 0 (by omega) (τ.1 75) (300 * t) τ1 (by rw [f1.u1 0 9 rfl, o2]; exact o4) Fr.rf rfl mo1 (fun τ2 f2 s2 mo2 => ?_)
    generalize hrr : hgN (nI ee) k (τ.1 75) = rr at mo2
    simp only [oT, E_H_hours, fIsA, fRt, fLen, fLit, fBool]
    obtain ⟨i', i1, i2⟩ := mo2.2.2.2.2.1
    obtain ⟨h', h1, h2⟩ := mo2.2.2.2.2.2.1
    have ea : (10 : Int32) * rr 46 + rr 47 = nI (10 * i' + h') := by rw [i2, h2, show (10 : Int32) * nI i' = nI (10 * i') from pk_mul 10 i']; exact nI_add _ _
    have npos : ¬ nI (10 * i' + h') < 0 := nI_pos (by omega)
    rw [ea, N_H_remembered]
    simp only [E_H_remembered, oT, E_H_hours, fIsA, fRt, fLen, fLit, fBool, eq_false npos]
    have f12 : Fr [9, 11, 12] [] τ τ2 := (f1.wk rfl).tr (f2.wk rfl)
    refine s_PastAdd (fi := fi) (un := un) (by rw [f12.u1 13 1 rfl]; exact u3) (by rw [f12.u1 13 2 rfl]; exact u4) u1 u2 (fun τ3 f3 p1 p2 p3 p4 => ?_)
    simp only [oN, E_H_remembered, oT, E_H_hours, fIsA, fRt, fLen, fLit, fBool, eq_false npos]
    refine s_RowOnly ?_
    simp only [oN, E_H_hours, fIsA, fRt, fLen, fLit, fBool]
    have l8 : τ3.1 9 8 = rr 49 := by rw [f3.c1 9 rfl]; exact mo2.2.1.2.2.2.2.2
    have l11 : τ3.1 11 8 = τ.1 75 49 := by rw [f3.c1 11 rfl, f2.c1 11 rfl, m1.1.2.2.2.2.2.2.2]; exact c.2.1.2.2.2.2.2
    rw [l8, l11]
    generalize hV : (rr 49 - τ.1 75 49).toInt64 = V
    generalize hτ4 : sI (sL (sI τ3 3 1 0) 4 0 V) 3 1 1 = τ4
    have f4 : Fr (9 :: 11 :: 12 :: 4 :: 13 :: pmL) [(3, 1)] τ τ4 := by
      rw [← hτ4]
      exact ((((f12.wk rfl).tr (f3.wk rfl)).i rfl).lc rfl).i rfl
    rw [N_M_hours]
    simp only [E_M_hours, fIsA, fRt, fLen, fLit, fBool, sI_1, reduceIte, Nat.reduceEqDiff]
    refine s_inI 1 rfl (nI 30) rfl (fun _ _ => ?_) (fun q => absurd ⟨Int32.not_lt.mp z, z2⟩ q)
    simp only [oT, E_M_hours, fIsA, fRt, fLen, fLit, fBool]
    refine s_MputsBy (un := un) u2 (by show τ4.1 69 28 = _; rw [f4.u1 69 28 rfl]; exact u5) (fun τ5 f5 q1 q2 => ?_)
    have r75 : ∀ j, τ5.1 75 j = τ.1 75 j := fun j => by rw [f5.c1 75 rfl]; show τ4.1 75 j = _; exact f4.c1 75 rfl j
    simp only [oN, E_M_hours, fIsA, fRt, fLen, fLit, fBool, fIx, r75]
    refine s_Mhours_loop (e := nI ee) (by omega) k 0 (by omega) (τ.1 75) τ5 (by rw [f5.c1 74 rfl]; show τ4.1 74 1 = _; rw [f4.c1 74 rfl]; exact o4) Fr.rf (fun j _ => r75 j) (fun τ6 f6 r6 => ?_)
    rw [hrr] at r6
    rw [Rs_eq]
    simp only [E_M_hours, fIsA, fRt, fLen, fLit, fBool, fIx, sI_1, reduceIte, Nat.reduceEqDiff, r6 49 (by omega)]
    refine ⟨fun _ => ?_, fun q => absurd (Int32.le_refl _) q⟩
    refine s_Menters (n := 0) rfl (by omega) ?_
    rw [hV]
    simp only [oN, E_M_hours, fIsA, fRt, fLen, fLit, fBool, fIx, sI_1, sL_1, reduceIte, Nat.reduceEqDiff, r6 46 (by omega), r6 47 (by omega), ea]
    generalize hτ7 : sI (sL (sI τ6 69 1 0) 70 0 V) 69 1 (nI (0 + 1)) = τ7
    have f57 : Fr [75, 70] [(69, 1)] τ5 τ7 := by
      rw [← hτ7]
      exact (((f6.wk rfl).i rfl).lc rfl).i rfl
    refine s_Madds (un := un) u2 (by rw [f57.u1 69 28 rfl, f5.u1 69 28 rfl]; show τ4.1 69 28 = _; rw [f4.u1 69 28 rfl]; exact u5) (fun τ8 f8 a1 a2 => ?_)
    simp only [oT, E_M_hours, fIsA, fRt, fLen, fLit, fBool]
    refine ok rfl ?_
    have F4 : Fr (70 :: 75 :: 84 :: 9 :: 11 :: 12 :: 4 :: 13 :: pmL) [(3, 1), (69, 0), (69, 1), (69, 28)] τ τ8 := ((f4.wk rfl).i rfl).tr ((f5.wk rfl).tr ((f57.wk rfl).tr (f8.wk rfl)))
    have F3 : Fr [4, 70, 75, 84] [(3, 1), (69, 0), (69, 1), (69, 28)] τ3 τ8 := by
      have z : Fr [4, 70, 75, 84] [(3, 1), (69, 0), (69, 1), (69, 28)] τ3 τ4 := by rw [← hτ4]; exact ((Fr.rf.i rfl).lc rfl).i rfl
      exact (z.i rfl).tr ((f5.wk rfl).tr ((f57.wk rfl).tr (f8.wk rfl)))
    have F2 : Fr (4 :: 70 :: 75 :: 84 :: 13 :: pmL) [(3, 1), (69, 0), (69, 1), (69, 28)] τ2 τ8 := (f3.wk rfl).tr (F3.wk rfl)
    have b' : ShI τ8 ns := by
      refine ⟨hn, by rw [F4.u1 69 5 rfl]; exact b.2.1, ?_, fun s hs => ?_⟩
      · rw [F2.c1 9 rfl, s2, f1.c1 9 rfl]; exact b.2.2.1
      · rw [F4.c1 52 rfl, F4.c1 73 rfl]; exact b.2.2.2 s hs
    have c' : MoI τ8 9 ns (R * C) (300 * (t + 1)) kd (τ8.1 75) := mo2.same (fun j => F2.c1 9 rfl j) (fun j => F2.c2 9 rfl j) (fun j => F2.c1 10 rfl j) (fun j hj => by rw [f8.c1 75 rfl, ← hτ7]; show τ6.1 75 j = _; exact r6 j hj) (by omega) hn
    have d' : UnI τ8 ns (R * C) (300 * (t + 1)) kd := by
      refine UnI.rem (τ2 := τ2) (τ3 := τ3) (τ5 := τ5) (τ7 := τ7) u1 u2 u6 b.2.2.1 c (m1.fr (fun j => f2.c1 11 rfl j) (fun j => f2.c2 11 rfl j) (fun j => f2.c1 12 rfl j)) (fun k hk j => f12.D (D := pmL) (E := []) rfl k j hk) p1 p2 p3 p4 (fun k hk j => F3.D (D := 13 :: pmL) (E := []) rfl k j hk) (fun j hj => ?_) (fun j hj => ?_) (fun j => f57.c1 84 rfl j) a1 a2 (by omega) hn
      · rw [q1 j hj]; show τ4.1 75 j = _; exact f4.c1 75 rfl j
      · rw [q2 j hj]; show τ4.1 84 j = _; exact f4.c1 84 rfl j
    have hrow : RoI τ8 := by
      have g : Fr [84] [(69, 28)] τ7 τ8 := f8
      refine RoI.one (v := V) ?_ ?_ ?_ ?_
      · rw [g.u1 3 1 rfl, f57.u1 3 1 rfl, f5.u1 3 1 rfl, ← hτ4]; rfl
      · rw [g.u1 69 1 rfl, ← hτ7]; rfl
      · rw [g.c2 4 rfl, f57.c2 4 rfl, f5.c2 4 rfl, ← hτ4]; rfl
      · rw [g.c2 70 rfl, ← hτ7]; rfl
    exact ⟨R, C, kd, ht, ns, n, ⟨a.fr F4 rfl, b', c', d', e.fr F4 rfl (by omega) (by omega) hn, f.fr F4 rfl, g.fr F4 rfl, i.fr F4 rfl, j.fr F4 rfl⟩, hT.fr F4 rfl, hrow⟩
  · simp only [oT, E_H_hours, fIsA, fRt, fLen, fLit, fBool]
    rw [N_H_remembered]
    simp only [E_H_remembered, oT, E_H_hours, fIsA, fRt, fLen, fLit, fBool]
    exact no (fun q => z2 q.2)
