/-! MOMENTS: copies, the past, keep and again -/
def mset : List Nat := [9, 11, 15, 17, 19, 21, 23, 25, 27, 29, 31, 33, 35, 37, 39, 41, 43, 46, 48, 50]
theorem mset_A {a : Nat} (h : a ∈ mset) : isA 1 a ∧ rtab a 0 = a + 1 ∧ len (a + 1) = 8 ∧ isA 14 (a + 1) := by
  simp only [mset, List.mem_cons, List.not_mem_nil, or_false] at h
  rcases h with rfl | rfl | rfl | rfl | rfl | rfl | rfl | rfl | rfl | rfl | rfl | rfl | rfl | rfl | rfl | rfl | rfl | rfl | rfl | rfl <;> simp only [Nat.reduceAdd, fIsA, fRt, fLen, and_self]
theorem mset_ne : ∀ a ∈ mset, ∀ b ∈ mset, b ≠ a + 1 := by decide
theorem pm_in {first i : Nat} : pm first i ∈ mset := by
  have h := Nat.mod_lt (first + i) (show 15 > 0 by omega)
  have : ∀ x, x < 15 → 15 + 2 * x ∈ mset := by decide
  exact this _ h
/-- the moment a of τ' is the moment b of τ -/
def MoE (a b : Nat) (τ τ' : St) : Prop := (τ'.1 a 1 = τ.1 b 1 ∧ τ'.1 a 2 = τ.1 b 2 ∧ τ'.2 a 3 = τ.2 b 3 ∧ τ'.1 a 4 = τ.1 b 4 ∧ τ'.1 a 5 = τ.1 b 5 ∧ τ'.1 a 6 = τ.1 b 6 ∧ τ'.1 a 7 = τ.1 b 7 ∧ τ'.1 a 8 = τ.1 b 8) ∧ ∀ j, j < 8 → τ'.1 (a + 1) j = τ.1 (b + 1) j
theorem s_copy {d a b : Nat} {Q : Qt} {τ : St} (ha : a ∈ mset) (hb : b ∈ mset) (hab : b ≠ a) (hQ : ∀ τ', Fr [a, a + 1] [] τ τ' → MoE a b τ τ' → Q none τ') : Cl (d + 1) m_Moment_copy [.ref a, .ref b] τ Q := by
  obtain ⟨a1, a2, a3, a4⟩ := mset_A ha
  obtain ⟨b1, b2, b3, b4⟩ := mset_A hb
  rw [N_Moment_copy]
  simp only [E_Moment_copy, fIsA, fRt, fLen, fLit, fBool, a1, a2, a3, a4, b1, b2, b3, b4]
  have n1 : (b = a) = False := eq_false hab
  have n2 : (b = a + 1) = False := eq_false (mset_ne a ha b hb)
  have n3 : (b + 1 = a) = False := eq_false (fun z => mset_ne b hb a ha z.symm)
  have n4 : (a = a + 1) = False := eq_false (by omega)
  have n5 : (b + 1 = a + 1) = False := eq_false (by omega)
  have n6 : (a + 1 = a) = False := eq_false (by omega)
  refine ⟨by decide, by decide, by decide, hQ _ ?_ ⟨⟨?_, ?_, ?_, ?_, ?_, ?_, ?_, ?_⟩, fun j hj => ?_⟩⟩
  · exact ((((((((Fr.rf.a (by simp)).ic (by simp)).ic (by simp)).lc (by simp)).ic (by simp)).ic (by simp)).ic (by simp)).ic (by simp)).ic (by simp)
  all_goals simp only [sI_1, sI_2, sL_1, sL_2, sA_1, sA_2, n1, n2, n3, n4, n5, n6, reduceIte, Nat.reduceEqDiff]
  exact (pk_cpy_in (f := τ.1 (b + 1)) (g := τ.1 (a + 1)) (sp := 0) (dp := 0) (n := 8) (j := j) (by omega) (by omega)).trans (by rw [Nat.zero_add, Nat.sub_zero])
theorem Fr.D' {a b : Nat} {τ τ' : St} (h : Fr [a, b] [] τ τ') (k j : Nat) (h1 : k ≠ a) (h2 : k ≠ b) : τ'.1 k j = τ.1 k j ∧ τ'.2 k j = τ.2 k j := h k j (by simp [h1, h2]) (by simp)
theorem MoI.to {τ τ' : St} {a b ns n B B' : Nat} {kd : Nat → Nat} {r r' : Nat → Int32} (h : MoI τ b ns n B kd r) (e : MoE a b τ τ') (hr : ∀ j, j < 50 → r' j = r j) (hB : B ≤ B') (hns : ns ≤ 8) : MoI τ' a ns n B' kd r' := by
  obtain ⟨c1, c2, c3, c4, ⟨i, i1, i2⟩, c6, c7, c8⟩ := h
  obtain ⟨⟨_, e2, e3, e4, e5, e6, e7, e8⟩, e9⟩ := e
  refine ⟨fun s q => ?_, ?_, fun f q => ?_, fun f q q2 => ?_, ⟨i, by omega, ?_⟩, ?_, ?_, ?_⟩
  · rw [e9 s (by omega), hr _ (by omega)]; exact c1 s q
  · rw [e2, e4, e5, e6, e7, e8, hr _ (by omega), hr _ (by omega), hr _ (by omega), hr _ (by omega), hr _ (by omega), hr _ (by omega)]; exact c2
  · rw [e3, hr _ (by omega)]; exact c3 f q
  · rw [e3]; exact c4 f q q2
  · rw [hr _ (by omega)]; exact i2
  · rw [hr _ (by omega)]; exact c6
  · rw [hr _ (by omega)]; exact c7
  · rw [hr _ (by omega)]; exact c8
theorem xorN {i k : Nat} (hi : i < 2 ^ 31) (hk : k < 2 ^ 31) : 0 ≤ nI i ^^^ nI k := by
  rw [← Int32.not_lt, lt0, b_xor]
  have h1 : bt (nI i) 31 = false := by
    cases z : bt (nI i) 31 with
    | false => rfl
    | true => exact absurd ((lt0 _).mpr z) (nI_pos hi)
  have h2 : bt (nI k) 31 = false := by
    cases z : bt (nI k) 31 with
    | false => rfl
    | true => exact absurd ((lt0 _).mpr z) (nI_pos hk)
  rw [h1, h2]
  decide
theorem s_floorMod {d i k : Nat} {Q : Qt} {τ : St} (hi : i < 2 ^ 31) (hk0 : 0 < k) (hk : k < 2 ^ 31) (hQ : Q (some (.int (nI (i % k)))) τ) : Cl (d + 1) m_floorMod [.int (nI i), .int (nI k)] τ Q := by
  rw [N_floorMod]
  simp only [E_floorMod, fIsA, fRt, fLen, fLit, fBool]
  rw [pk_rem hi hk0 hk]
  exact ⟨nI_ne0 hk0 hk, fun _ => hQ, fun c => absurd (xorN hi hk) c⟩
theorem s_slot {d fi un : Nat} {Q : Qt} {τ : St} (h1 : τ.1 13 1 = nI fi) (h2 : τ.1 13 2 = nI un) (hf : fi < 15) (hu : un ≤ 15) (hQ : Q (some (.int (nI ((fi + un) % 15)))) τ) : Cl (d + 2) m_Past_slot [.ref 13] τ Q := by
  rw [N_Past_slot]
  simp only [E_Past_slot, fIsA, fRt, fLen, fLit, fBool, h1, h2, nI_add]
  refine s_floorMod (k := 15) (by omega) (by omega) (by omega) ?_
  simp only [oT, E_Past_slot, fIsA, fRt, fLen, fLit, fBool]
  exact hQ
theorem s_PastAdd {d fi un : Nat} {Q : Qt} {τ : St} (h1 : τ.1 13 1 = nI fi) (h2 : τ.1 13 2 = nI un) (hf : fi < 15) (hu : un ≤ 15) (hQ : ∀ τ', Fr (13 :: pmL) [] τ τ' → τ'.1 13 1 = nI (if un = 15 then (fi + 1) % 15 else fi) → τ'.1 13 2 = nI (if un = 15 then 15 else un + 1) → MoE (pm fi un) 11 τ τ' → (∀ i, i < 15 → i ≠ (fi + un) % 15 → MoE (15 + 2 * i) (15 + 2 * i) τ τ') → Q none τ') : Cl (d + 3) m_Past_add [.ref 13, .ref 11] τ Q := by
  rw [N_Past_add]
  simp only [E_Past_add, fIsA, fRt, fLen, fLit, fBool, h1, h2, nI_add]
  refine s_slot h1 h2 hf hu ?_
  have hm := Nat.mod_lt (fi + un) (show 15 > 0 by omega)
  simp only [oT, E_Past_add, fIsA, fRt, fLen, fLit, fBool]
  rw [nI_clamp (by omega), mrf14]
  have hi : 15 + 2 * ((fi + un) % 15) ∈ mset := pm_in (first := fi) (i := un)
  refine ⟨vp_in_nI hm (by omega), (mset_A hi).1, s_copy hi (by decide) (by omega) (fun τ1 f1 m1 => ?_)⟩
  have g1 : τ1.1 13 1 = nI fi := (f1.D' 13 1 (by omega) (by omega)).1.trans h1
  have g2 : τ1.1 13 2 = nI un := (f1.D' 13 2 (by omega) (by omega)).1.trans h2
  simp only [oN, E_Past_add, fIsA, fRt, fLen, fLit, fBool, g1, g2, nI_1]
  have oth : ∀ (τ2 : St), Fr [13] [] τ1 τ2 → MoE (pm fi un) 11 τ τ2 ∧ ∀ i, i < 15 → i ≠ (fi + un) % 15 → MoE (15 + 2 * i) (15 + 2 * i) τ τ2 := fun τ2 f2 => by
    have q : ∀ k j, k ≠ 13 → τ2.1 k j = τ1.1 k j ∧ τ2.2 k j = τ1.2 k j := fun k j hk => f2 k j (by simp [hk]) (by simp)
    refine ⟨?_, fun i hi1 hi2 => ?_⟩
    · obtain ⟨⟨e1, e2, e3, e4, e5, e6, e7, e8⟩, e9⟩ := m1
      unfold pm
      refine ⟨⟨?_, ?_, ?_, ?_, ?_, ?_, ?_, ?_⟩, fun j hj => ?_⟩
      · rw [(q _ _ (by omega)).1]; exact e1
      · rw [(q _ _ (by omega)).1]; exact e2
      · rw [(q _ _ (by omega)).2]; exact e3
      · rw [(q _ _ (by omega)).1]; exact e4
      · rw [(q _ _ (by omega)).1]; exact e5
      · rw [(q _ _ (by omega)).1]; exact e6
      · rw [(q _ _ (by omega)).1]; exact e7
      · rw [(q _ _ (by omega)).1]; exact e8
      · rw [(q _ _ (by omega)).1]; exact e9 j hj
    · have p : ∀ j, (τ2.1 (15 + 2 * i) j = τ.1 (15 + 2 * i) j ∧ τ2.2 (15 + 2 * i) j = τ.2 (15 + 2 * i) j) ∧ τ2.1 (15 + 2 * i + 1) j = τ.1 (15 + 2 * i + 1) j := fun j => by
        have a1 := q (15 + 2 * i) j (by omega)
        have a2 := q (15 + 2 * i + 1) j (by omega)
        have b1 := f1.D' (15 + 2 * i) j (by omega) (by omega)
        have b2 := f1.D' (15 + 2 * i + 1) j (by omega) (by omega)
        exact ⟨⟨a1.1.trans b1.1, a1.2.trans b1.2⟩, a2.1.trans b2.1⟩
      exact ⟨⟨(p 1).1.1, (p 2).1.1, (p 3).1.2, (p 4).1.1, (p 5).1.1, (p 6).1.1, (p 7).1.1, (p 8).1.1⟩, fun j _ => (p j).2⟩
  have fr : ∀ (τ2 : St), Fr [13] [] τ1 τ2 → Fr (13 :: pmL) [] τ τ2 := fun τ2 f2 k j hk _ => by
    have hin := pmL_in ((fi + un) % 15) hm
    have k1 : k ≠ 13 := fun z => hk (by rw [z]; simp)
    have k2 : k ≠ 15 + 2 * ((fi + un) % 15) := fun z => hk (by rw [z]; exact List.mem_cons_of_mem _ (List.contains_iff_mem.mp hin.1))
    have k3 : k ≠ 15 + 2 * ((fi + un) % 15) + 1 := fun z => hk (by rw [z]; exact List.mem_cons_of_mem _ (List.contains_iff_mem.mp hin.2))
    have b1 := f1.D' k j k2 k3
    have a1 := f2 k j (by simp [k1]) (by simp)
    exact ⟨a1.1.trans b1.1, a1.2.trans b1.2⟩
  refine ⟨fun c => ?_, fun c => ?_⟩
  · have c : un = 15 := by
      have := (nI_leI (a := 15) (b := un) (by omega) (by omega)).mp c
      omega
    have e : nI (fi + 1) - nI (fi + 1) / 15 * 15 = nI ((fi + 1) % 15) := pk_rem (d := 15) (by omega) (by omega) (by omega)
    rw [e]
    have f2 : Fr [13] [] τ1 (sI τ1 13 1 (nI ((fi + 1) % 15))) := Fr.rf.ic rfl
    rw [if_pos c, if_pos c] at hQ
    refine ⟨by decide, hQ _ (fr _ f2) rfl (by rw [← c]; exact g2) (oth _ f2).1 (oth _ f2).2⟩
  · have c : un ≠ 15 := fun z => c (by rw [z]; exact Int32.le_refl _)
    have f2 : Fr [13] [] τ1 (sI τ1 13 2 (nI (un + 1))) := Fr.rf.ic rfl
    rw [if_neg c, if_neg c] at hQ
    exact hQ _ (fr _ f2) g1 rfl (oth _ f2).1 (oth _ f2).2
theorem s_stepBack {d fi un : Nat} {Q : Qt} {τ : St} (h1 : τ.1 13 1 = nI fi) (h2 : τ.1 13 2 = nI (un + 1)) (hf : fi < 15) (hu : un < 15) (hQ : ∀ τ', Fr [9, 10] [(13, 2)] τ τ' → τ'.1 13 2 = nI un → MoE 9 (pm fi un) τ τ' → Q (some (.int 1)) τ') : Cl (d + 3) m_Past_stepBack [.ref 13, .ref 9] τ Q := by
  rw [N_Past_stepBack]
  have e1 : (1 : Int32) ≤ nI (un + 1) := nI_le (a := 1) (by omega) (by omega)
  simp only [E_Past_stepBack, fIsA, fRt, fLen, fLit, fBool, h2, e1, nI_pred]
  have hm := Nat.mod_lt (fi + un) (show 15 > 0 by omega)
  refine s_slot (fi := fi) (un := un) h1 rfl hf (by omega) ?_
  simp only [oT, E_Past_stepBack, fIsA, fRt, fLen, fLit, fBool]
  rw [nI_clamp (by omega), mrf14]
  have hi : 15 + 2 * ((fi + un) % 15) ∈ mset := pm_in (first := fi) (i := un)
  refine ⟨vp_in_nI hm (by omega), s_copy (a := 9) (by decide) hi (by omega) (fun τ1 f1 m1 => ?_)⟩
  simp only [oN, E_Past_stepBack, fIsA, fRt, fLen, fLit, fBool]
  have q : ∀ k j, k ≠ 13 → (sI τ 13 2 (nI un)).1 k j = τ.1 k j := fun k j hk => by rw [sI_1, if_neg hk]
  refine hQ τ1 ((Fr.rf.i rfl).tr (f1.wk rfl)) ((f1.u1 13 2 rfl).trans rfl) ?_
  obtain ⟨⟨e1, e2, e3, e4, e5, e6, e7, e8⟩, e9⟩ := m1
  unfold pm
  refine ⟨⟨?_, ?_, e3, ?_, ?_, ?_, ?_, ?_⟩, fun j hj => ?_⟩
  · rw [e1, q _ _ (by omega)]
  · rw [e2, q _ _ (by omega)]
  · rw [e4, q _ _ (by omega)]
  · rw [e5, q _ _ (by omega)]
  · rw [e6, q _ _ (by omega)]
  · rw [e7, q _ _ (by omega)]
  · rw [e8, q _ _ (by omega)]
  · rw [e9 j hj, q _ _ (by omega)]
theorem s_Mundo_loop {d un : Nat} {Q : Qt} {τ0 : St} (hu : un < 15) (hQ : ∀ τ', Fr [75] [] τ0 τ' → (∀ k, k < 50 → τ'.1 75 k = τ0.1 84 (50 * un + k)) → Q (some (.int (nI un))) τ') : ∀ (m j : Nat), j + m = 50 → ∀ τ : St, τ.1 69 28 = nI un → Fr [75] [] τ0 τ → (∀ k, k < j → τ.1 75 k = τ0.1 84 (50 * un + k)) → Rs M_M_undo d Q 26 [some (.ref 69), some (.int (nI j))] [] τ
  | 0, j, hj, τ, h1, hf, hd => by
    obtain rfl : j = 50 := by omega
    rw [Rs_eq]
    simp only [E_M_undo, fIsA, fRt, fLen, fLit, fBool, h1]
    exact ⟨fun _ => hQ τ hf hd, fun q => absurd (Int32.le_refl _) q⟩
  | m + 1, j, hj, τ, h1, hf, hd => by
    rw [Rs_eq]
    have e : (50 : Int32) * nI un + nI j = nI (50 * un + j) := by rw [show (50 : Int32) * nI un = nI (50 * un) from pk_mul 50 un]; exact nI_add _ _
    simp only [E_M_undo, fIsA, fRt, fLen, fLit, fBool, h1, e, nI_1]
    refine ⟨fun q => absurd q (nI_ge (b := 50) (by omega) (by omega)), fun _ => ⟨vp_in_nI (by omega) (by omega), vp_in_nI (by omega) (by omega), ?_⟩⟩
    rw [nI_clamp (by omega), nI_clamp (by omega)]
    refine s_Mundo_loop hu hQ m (j + 1) (by omega) _ h1 (hf.ic rfl) (fun k hk => ?_)
    simp only [sI_1, if_true]
    by_cases c : k = j
    · subst c; rw [if_pos rfl]; exact hf.c1 84 rfl _
    · rw [if_neg c]; exact hd k (by omega)
theorem p_undo (t : Nat) : PrI t m_H_undo m_M_undo [] := by
  intro ht0 τ h
  obtain ⟨R, C, kd, ht, ns, n, hA, hT, hR⟩ := h
  have ⟨a, b, c, d, e, f, g, i, j⟩ := hA
  have hn := b.1
  obtain ⟨fi, un, u1, u2, u3, u4, u5, u6⟩ := d
  rw [N_H_undo]
  simp only [E_H_undo, fIsA, fRt, fLen, fLit, fBool]
  cases un with
  | zero =>
    rw [N_Past_stepBack]
    simp only [E_Past_stepBack, fIsA, fRt, fLen, fLit, fBool, u4, oT, E_H_undo]
    refine ⟨fun q => absurd q (by decide), fun _ => ?_⟩
    rw [N_M_undo]
    simp only [E_M_undo, fIsA, fRt, fLen, fLit, fBool, sI_1, reduceIte, Nat.reduceEqDiff, u5]
    exact ⟨fun q => absurd rfl q, fun _ => ok rfl (hA.inv3 hT hR (fr690 (v := 0)) rfl)⟩
  | succ un =>
    refine s_stepBack u3 u4 u1 (by omega) (fun τ1 f1 e1 m1 => ?_)
    simp only [oT, E_H_undo, fIsA, fRt, fLen, fLit, fBool, e1]
    rw [N_M_undo]
    have u5' : τ1.1 69 28 = nI (un + 1) := by rw [f1.u1 69 28 rfl]; exact u5
    simp only [E_M_undo, fIsA, fRt, fLen, fLit, fBool, sI_1, reduceIte, Nat.reduceEqDiff, u5', nI_pred]
    refine ⟨fun _ => ?_, fun q => absurd q (nI_ne0 (by omega) (by omega))⟩
    refine s_Mundo_loop (un := un) (by omega) (fun τ2 f2 e2 => ok rfl ?_) 50 0 rfl _ rfl Fr.rf (fun k hk => absurd hk (Nat.not_lt_zero k))
    have f3 : Fr [9, 10, 75] [(13, 2), (69, 0), (69, 28)] τ τ2 := (((f1.wk rfl).i rfl).i rfl).tr (f2.wk rfl)
    have g84 : ∀ k, τ2.1 84 k = τ.1 84 k := fun k => f3.c1 84 rfl k
    have m2 : MoE 9 (pm fi un) τ τ2 := by
      have q : Fr [75] [(69, 0), (69, 28)] τ1 τ2 := (((Fr.rf.i rfl).i rfl)).tr (f2.wk rfl)
      obtain ⟨⟨e1, e2, e3, e4, e5, e6, e7, e8⟩, e9⟩ := m1
      refine ⟨⟨?_, ?_, ?_, ?_, ?_, ?_, ?_, ?_⟩, fun j hj => ?_⟩
      · rw [q.c1 9 rfl]; exact e1
      · rw [q.c1 9 rfl]; exact e2
      · rw [q.c2 9 rfl]; exact e3
      · rw [q.c1 9 rfl]; exact e4
      · rw [q.c1 9 rfl]; exact e5
      · rw [q.c1 9 rfl]; exact e6
      · rw [q.c1 9 rfl]; exact e7
      · rw [q.c1 9 rfl]; exact e8
      · rw [q.c1 10 rfl]; exact e9 j hj
    have c' : MoI τ2 9 ns (R * C) (300 * (t + 1)) kd (τ2.1 75) := by
      refine (u6 un (by omega)).2.to m2 (fun j hj => ?_) (by omega) hn
      rw [e2 j hj]
      show (sI (sI τ1 69 0 0) 69 28 (nI un)).1 84 _ = _
      simp only [sI_1]
      rw [if_neg (by omega), if_neg (by omega), f1.c1 84 rfl]
    have d' : UnI τ2 ns (R * C) (300 * (t + 1)) kd := by
      refine ⟨fi, un, u1, by omega, ?_, ?_, ?_, fun i hi => ?_⟩
      · rw [f3.u1 13 1 rfl]; exact u3
      · rw [(f2.u1 13 2 rfl)]; exact e1
      · rw [(f2.u1 69 28 rfl)]; rfl
      · obtain ⟨v1, v2⟩ := u6 i (by omega)
        have hm := Nat.mod_lt (fi + i) (show 15 > 0 by omega)
        obtain ⟨g1, g2⟩ := pmL_in ((fi + i) % 15) hm
        have w1 : ∀ j, τ2.1 (pm fi i) j = τ.1 (pm fi i) j ∧ τ2.2 (pm fi i) j = τ.2 (pm fi i) j := fun j => f3.D (D := pmL) (E := []) rfl _ j g1
        have w2 : ∀ j, τ2.1 (pm fi i + 1) j = τ.1 (pm fi i + 1) j ∧ τ2.2 (pm fi i + 1) j = τ.2 (pm fi i + 1) j := fun j => f3.D (D := pmL) (E := []) rfl _ j g2
        exact ⟨by rw [(w1 1).1]; exact v1, v2.same (fun j => (w1 j).1) (fun j => (w1 j).2) (fun j => (w2 j).1) (fun j _ => g84 _) (by omega) hn⟩
    have b' : ShI τ2 ns := by
      refine ⟨hn, by rw [f3.u1 69 5 rfl]; exact b.2.1, ?_, fun s hs => ?_⟩
      · rw [m2.1.1]; exact (u6 un (by omega)).1
      · rw [f3.c1 52 rfl, f3.c1 73 rfl]; exact b.2.2.2 s hs
    exact ⟨R, C, kd, ht, ns, n, ⟨a.fr f3 rfl, b', c', d', e.fr f3 rfl (by omega) (by omega) hn, f.fr f3 rfl, g.fr f3 rfl, i.fr f3 rfl, j.fr f3 rfl⟩, hT.fr f3 rfl, hR.fr f3 rfl⟩
