/-! PAIRS: plank -/
theorem UnI.put {fi un ns n B B' : Nat} {kd : Nat → Nat} {τ τ' : St} (u1 : fi < 15) (u2 : un ≤ 15) (u3 : τ.1 13 1 = nI fi) (u4 : τ.1 13 2 = nI un) (u5 : τ'.1 69 28 = nI un) (u6 : ∀ i, i < un → τ.1 (pm fi i) 1 = nI ns ∧ MoI τ (pm fi i) ns n B kd (fun j => τ.1 84 (50 * i + j)))
    (hz : ∀ k, (13 :: pmL).contains k = true → ∀ j, τ'.1 k j = τ.1 k j ∧ τ'.2 k j = τ.2 k j) (q2 : ∀ j, j < 50 * un → τ'.1 84 j = τ.1 84 j) (hB : B ≤ B') (hns : ns ≤ 8) : UnI τ' ns n B' kd := by
  have hz' : ∀ k, pmL.contains k = true → ∀ j, τ'.1 k j = τ.1 k j ∧ τ'.2 k j = τ.2 k j := fun k hk => hz k (by rw [List.contains_cons, hk, Bool.or_true])
  refine ⟨fi, un, u1, u2, (hz 13 (by decide) 1).1.trans u3, (hz 13 (by decide) 2).1.trans u4, u5, fun i hi => ?_⟩
  obtain ⟨v1, v2⟩ := u6 i hi
  obtain ⟨g1, g2⟩ := pmL_in ((fi + i) % 15) (Nat.mod_lt _ (by decide))
  exact ⟨(hz' _ g1 1).1.trans v1, v2.same (fun j => (hz' _ g1 j).1) (fun j => (hz' _ g1 j).2) (fun j => (hz' _ g2 j).1) (fun j hj => q2 _ (by omega)) hB hns⟩
section PL
variable {d R C ns B : Nat} {kd ht : Nat → Nat} {Q : Qt} {τ : St} {r : Nat → Int32}
/-- planks are laid on f, or taken from it -/
def plR (f : Nat) (r : Nat → Int32) (j : Nat) : Int32 := if j = f then 1 - r f else r j
theorem plMo {f : Nat} (hf : f < 36) {τ' : St} (mo : MoI τ 9 ns (R * C) B kd r) (h9 : ∀ j, τ'.1 9 j = τ.1 9 j) (h3 : τ'.2 9 3 = τ.2 9 3 ^^^ (1 <<< ((nI f).toInt64 &&& 63))) (h10 : ∀ j, τ'.1 10 j = τ.1 10 j) : MoI τ' 9 ns (R * C) B kd (plR f r) := by
  obtain ⟨m1, m2, m3, m4, m5, m6, m7, m8⟩ := mo
  have hi : ∀ j, 36 ≤ j → plR f r j = r j := fun j hj => by unfold plR; rw [if_neg (by omega)]
  have hb : ∀ q, q < 64 → bitL (τ'.2 9 3) q = (bitL (τ.2 9 3) q ^^ decide (q = f)) := fun q hq => by rw [h3, bL_xor, bL_shl1 (by omega) hq]
  refine ⟨fun s q => ?_, ?_, fun q hq => ?_, fun q q1 q2 => ?_, ?_, ?_, ?_, ?_⟩
  · rw [h10, hi _ (by omega)]; exact m1 s q
  · rw [h9, h9, h9, h9, h9, h9, hi _ (by omega), hi _ (by omega), hi _ (by omega), hi _ (by omega), hi _ (by omega), hi _ (by omega)]; exact m2
  · rw [hb q (by omega)]
    unfold plR
    by_cases c : q = f
    · subst c
      rw [if_pos rfl, decide_eq_true rfl, m3 q hq]
      cases bitL (τ.2 9 3) q <;> rfl
    · rw [if_neg c, decide_eq_false c, m3 q hq]
      cases bitL (τ.2 9 3) q <;> rfl
  · rw [hb q q2, decide_eq_false (by omega), m4 q q1 q2]; rfl
  · rw [hi _ (by omega)]; exact m5
  · rw [hi _ (by omega)]; exact m6
  · rw [hi _ (by omega)]; exact m7
  · rw [hi _ (by omega)]; exact m8
theorem s_turnPlanks (g : GI τ R C kd ht) (mo : MoI τ 9 ns (R * C) B kd r) {v : Int32} (n1 : ¬ (0 ≤ v ∧ v < nI (R * C)) → Q (some (.int (-1))) τ) (n2 : ∀ f, f < R * C → v = nI f → kd f ≠ 0 → Q (some (.int (-2))) τ)
    (yes : ∀ f, f < R * C → v = nI f → kd f = 0 → ∀ τ', Fr [9] [] τ τ' → τ'.1 9 1 = τ.1 9 1 → MoI τ' 9 ns (R * C) B kd (plR f r) → Q (some (.int (nI (sb (τ'.2 9 3) 36 0 0)))) τ') : Cl (d + 3) m_H_turnPlanks [.ref 0, .int v] τ Q := by
  have hn := g.n36
  rw [N_H_turnPlanks]
  simp only [E_H_turnPlanks, fIsA, fRt, fLen, fLit, fBool]
  refine s_Ghas g (fun f hf e => ?_) (fun z => ?_)
  · subst e
    simp only [oT, E_H_turnPlanks, fIsA, fRt, fLen, fLit, fBool]
    refine s_Gkind g hf ?_
    have k3 := (g.2.2.1 f hf).1.1
    simp only [oT, E_H_turnPlanks, fIsA, fRt, fLen, fLit, fBool, sL_2, reduceIte]
    refine ⟨fun c => ?_, fun c => n2 f hf rfl (fun z => c (by rw [z]; rfl))⟩
    have c : kd f = 0 := (nI_eq (b := 0) (by omega) (by omega)).mp c
    have f1 : Fr [9] [] τ (sL τ 9 3 (τ.2 9 3 ^^^ (1 <<< ((nI f).toInt64 &&& 63)))) := Fr.rf.lc rfl
    have mo' := plMo (f := f) (by omega) (τ' := sL τ 9 3 (τ.2 9 3 ^^^ (1 <<< ((nI f).toInt64 &&& 63)))) mo (fun _ => rfl) rfl (fun _ => rfl)
    refine s_bitsL ?_
    simp only [oT, E_H_turnPlanks, fIsA, fRt, fLen, fLit, fBool]
    have e := (bL_is mo'.2.2.2.1).1
    have y := yes f hf rfl c _ f1 rfl mo'
    rw [← e] at y
    exact y
  · simp only [oT, E_H_turnPlanks, fIsA, fRt, fLen, fLit, fBool]
    exact n1 z
end PL
/-! acts, whichever: what they stand on, and what they do -/
def EnvI (R C : Nat) (kd ht : Nat → Nat) (ns o e m : Nat) (W : Nat → Int32) (S : Nat → Int32) (τ : St) : Prop := (GI τ R C kd ht ∧ ShI τ ns ∧ RuI τ) ∧ (o ≤ 999 ∧ e ≤ 999 ∧ τ.1 0 8 = nI o ∧ τ.1 74 0 = nI o ∧ τ.1 0 9 = nI e ∧ τ.1 74 1 = nI e) ∧ τ.1 73 = W ∧ τ.1 80 = S ∧ τ.1 69 24 = nI m ∧ m ≤ 80
theorem IA.env {t R C ns : Nat} {kd ht : Nat → Nat} {τ : St} (h : IA t R C kd ht ns τ) : ∃ o e m, EnvI R C kd ht ns o e m (τ.1 73) (τ.1 80) τ := by
  obtain ⟨a, b, c, d, e, f, g, i, j⟩ := h
  obtain ⟨f1, f2, ⟨o, o1, o2⟩, ee, e1, e2⟩ := f
  have jj := j
  obtain ⟨n, m, j1, j2, j3, j4, j5⟩ := j
  exact ⟨o, ee, m, ⟨a, b, jj⟩, ⟨o1, e1, f1.trans o2, o2, f2.trans e2, e2⟩, rfl, rfl, j4, j2⟩
theorem EnvI.fr {R C ns o e m : Nat} {kd ht : Nat → Nat} {W S : Nat → Int32} {cs : List Nat} {fs : List (Nat × Nat)} {τ τ' : St} (h : EnvI R C kd ht ns o e m W S τ) (hf : Fr cs fs τ τ') (hd : disF cs fs [5, 6, 7, 8, 71, 72, 52, 73, 54, 80, 74] [(69, 3), (69, 4), (69, 5), (53, 1), (69, 24), (0, 8), (0, 9)] = true) (h9 : τ'.1 9 1 = τ.1 9 1) : EnvI R C kd ht ns o e m W S τ' := by
  obtain ⟨⟨a, b, c⟩, ⟨o1, e1, f1, f2, f3, f4⟩, w, s, l⟩ := h
  refine ⟨⟨a.fr hf (disF_sub hd rfl), ?_, c.fr hf (disF_sub hd rfl)⟩, ⟨o1, e1, ?_, ?_, ?_, ?_⟩, ?_, ?_, ?_⟩
  · obtain ⟨b1, b2, b3, b4⟩ := b
    refine ⟨b1, by rw [(hf.E hd 69 5 rfl).1]; exact b2, h9.trans b3, fun s q => ?_⟩
    rw [(hf.D hd 52 s rfl).1, (hf.D hd 73 s rfl).1]
    exact b4 s q
  · rw [(hf.E hd 0 8 rfl).1]; exact f1
  · rw [(hf.D hd 74 0 rfl).1]; exact f2
  · rw [(hf.E hd 0 9 rfl).1]; exact f3
  · rw [(hf.D hd 74 1 rfl).1]; exact f4
  · rw [← w]; funext j; exact (hf.D hd 73 j rfl).1
  · rw [← s]; funext j; exact (hf.D hd 80 j rfl).1
  · rw [(hf.E hd 69 24 rfl).1]; exact l
/-- an act of both: from the rows r, if they are a moment's, it answers x and leaves the rows r' -/
def ActP (m1 m2 : Nat) (as1 as2 : List Value) (R C : Nat) (kd ht : Nat → Nat) (ns o e m : Nat) (W S : Nat → Int32) (r : Nat → Int32) : Prop := ∃ (x : Int32) (r' : Nat → Int32),
  (∀ (D B : Nat) (τ : St) (Q : Qt), B < 2 ^ 27 → EnvI R C kd ht ns o e m W S τ → MoI τ 9 ns (R * C) B kd r → (x < 0 → ∀ τ', Fr [55] [(53, 3)] τ τ' → Q (some (.int x)) τ') → (¬ x < 0 → ∀ τ', Fr [9, 10, 55] [(53, 3)] τ τ' → τ'.1 9 1 = τ.1 9 1 → MoI τ' 9 ns (R * C) (B + 9) kd r' → Q (some (.int x)) τ') → Cl (D + 60) m1 (.ref 0 :: as1) τ Q) ∧
  (∀ (D : Nat) (τ : St) (Q : Qt), EnvI R C kd ht ns o e m W S τ → (∀ j, j < 50 → τ.1 75 j = r j) → (x < 0 → ∀ τ', Fr [82, 83] [] τ τ' → Q (some (.int x)) τ') → (¬ x < 0 → ∀ τ', Fr [75, 82, 83] [] τ τ' → (∀ j, j < 50 → τ'.1 75 j = r' j) → Q (some (.int x)) τ') → Cl (D + 60) m2 (.ref 69 :: as2) τ Q)
/-- how many planks there are, by the reference's row -/
def cR (r : Nat → Int32) : Nat → Nat → Nat → Nat
  | 0, _, a => a
  | m + 1, i, a => cR r m (i + 1) (a + (r i).toNatClampNeg)
theorem sb_cR {x : Int64} {r : Nat → Int32} (h : ∀ f, f < 36 → r f = if bitL x f then 1 else 0) : ∀ (m i a : Nat), i + m ≤ 36 → sb x m i a = cR r m i a
  | 0, i, a, _ => rfl
  | m + 1, i, a, hi => by
    rw [sb, cR, h i (by omega), sb_cR h m (i + 1) _ (by omega)]
    congr 2
    cases bitL x i <;> rfl
theorem cR_cg {r r' : Nat → Int32} (h : ∀ f, f < 36 → r f = r' f) : ∀ (m i a : Nat), i + m ≤ 36 → cR r m i a = cR r' m i a
  | 0, i, a, _ => rfl
  | m + 1, i, a, hi => by rw [cR, cR, h i (by omega), cR_cg h m (i + 1) _ (by omega)]
theorem s_MplankC {d : Nat} {r : Nat → Int32} {Q : Qt} {τ : St} (hr : ∀ f, f < 36 → τ.1 75 f = r f) (hb : ∀ f, f < 36 → r f = 0 ∨ r f = 1) (hQ : Q (some (.int (nI (cR r 36 0 0)))) τ) : Cl (d + 1) m_M_plankMany [.ref 69, .ref 75] τ Q := by
  rw [N_M_plankMany]
  simp only [E_M_plankMany, fIsA, fRt, fLen, fLit, fBool]
  have loop : ∀ (m i a : Nat), i + m = 36 → Q (some (.int (nI (cR r m i a)))) τ → Rs M_M_plankMany d Q 4 [some (.ref 69), some (.ref 75), some (.int (nI a)), some (.int (nI i))] [] τ := by
    intro m
    induction m with
    | zero =>
      intro i a hi hq
      obtain rfl : i = 36 := by omega
      rw [Rs_eq]
      simp only [E_M_plankMany, fIsA, fRt, fLen, fLit, fBool]
      exact ⟨fun _ => hq, fun q => absurd (Int32.le_refl _) q⟩
    | succ m ih =>
      intro i a hi hq
      have e2 : nI a + τ.1 75 i = nI (a + (r i).toNatClampNeg) := by
        rw [hr i (by omega), ← nI_add]
        rcases hb i (by omega) with z | z <;> rw [z] <;> rfl
      rw [cR] at hq
      rw [Rs_eq]
      simp only [E_M_plankMany, fIsA, fRt, fLen, fLit, fBool, nI_1, nI_clamp (show i < 2 ^ 31 by omega), e2]
      exact ⟨fun q => absurd q (nI_ge (b := 36) (by omega) (by omega)), fun _ => ⟨vp_in_nI (by omega) (by omega), ih (i + 1) _ (by omega) hq⟩⟩
  exact loop 36 0 0 rfl hQ
/-- what a moment's row keeps to -/
def RowG (ns n B : Nat) (kd : Nat → Nat) (r : Nat → Int32) : Prop := (∀ s, s < ns → ∃ f, f < n ∧ kd f ≠ 3 ∧ r (36 + s) = nI f) ∧ (∀ f, f < 36 → r f = 0 ∨ r f = 1) ∧ (∃ i, i ≤ B ∧ r 46 = nI i) ∧ (∃ h, h < 10 ∧ r 47 = nI h) ∧ (∃ g, g < 2 ^ ns ∧ r 44 = nI g) ∧ ∃ u, u ≤ 999 ∧ r 45 = nI u
theorem MoI.row {τ : St} {k ns n B : Nat} {kd : Nat → Nat} {r : Nat → Int32} (h : MoI τ k ns n B kd r) : RowG ns n B kd r := by
  obtain ⟨m1, m2, m3, m4, m5, m6, m7, m8⟩ := h
  refine ⟨fun s q => (m1 s q).2, fun f q => ?_, m5, m6, m7, m8⟩
  rw [m3 f q]
  split
  · exact Or.inr rfl
  · exact Or.inl rfl
theorem cR_le {r : Nat → Int32} (h : ∀ f, f < 36 → r f = 0 ∨ r f = 1) : ∀ (m i a : Nat), i + m ≤ 36 → cR r m i a ≤ a + m
  | 0, i, a, _ => Nat.le_refl _
  | m + 1, i, a, hi => by
    rw [cR]
    have e : (r i).toNatClampNeg ≤ 1 := by
      rcases h i (by omega) with z | z
      · rw [z]; decide
      · rw [z]; decide
    have := cR_le h m (i + 1) (a + (r i).toNatClampNeg) (by omega)
    omega
theorem MoI.more {τ : St} {k ns n B B' : Nat} {kd : Nat → Nat} {r : Nat → Int32} (h : MoI τ k ns n B kd r) (hB : B ≤ B') (hns : ns ≤ 8) : MoI τ k ns n B' kd r := h.same (fun _ => rfl) (fun _ => rfl) (fun _ => rfl) (fun _ _ => rfl) hB hns
theorem a_plank {R C ns o e m : Nat} {kd ht : Nat → Nat} {W S : Nat → Int32} {r : Nat → Int32} {B0 : Nat} (row : RowG ns (R * C) B0 kd r) (hn36 : R * C ≤ 36) (h8 : ns ≤ 8) (v : Int32) : ActP m_H_turnPlanks m_M_planksAt [.int v] [.int v] R C kd ht ns o e m W S r := by
  have two : ∀ x : Int32, x < 0 → (¬ (0 ≤ v ∧ v < nI (R * C)) ∧ x = -1 ∨ (∃ f, f < R * C ∧ v = nI f ∧ kd f ≠ 0 ∧ x = -2)) → ActP m_H_turnPlanks m_M_planksAt [.int v] [.int v] R C kd ht ns o e m W S r := fun x hx hc => by
    refine ⟨x, r, fun D B τ Q _ E mo q1 q2 => ?_, fun D τ Q E hr q1 q2 => ?_⟩
    · have g := E.1.1
      have fin := q1 hx τ Fr.rf
      refine s_turnPlanks (d := D + 57) g mo (fun z => ?_) (fun f hf ev hk => ?_) (fun f hf ev hk τ' _ _ _ => ?_)
      · rcases hc with ⟨_, rfl⟩ | ⟨f', f1, f2, f3, f4⟩
        · exact fin
        · exact absurd ⟨by rw [f2]; exact nI_pos' (by omega), by rw [f2]; exact nI_lt f1 (by omega)⟩ z
      · rcases hc with ⟨z, rfl⟩ | ⟨f', f1, f2, f3, rfl⟩
        · exact absurd ⟨by rw [ev]; exact nI_pos' (by omega), by rw [ev]; exact nI_lt hf (by omega)⟩ z
        · exact fin
      · exfalso
        rcases hc with ⟨z, rfl⟩ | ⟨f', f1, f2, f3, rfl⟩
        · exact z ⟨by rw [ev]; exact nI_pos' (by omega), by rw [ev]; exact nI_lt hf (by omega)⟩
        · have : f = f' := (nI_eq (by omega) (by omega)).mp (ev.symm.trans f2)
          subst this
          exact f3 hk
    · have g := E.1.1
      have fin := q1 hx τ Fr.rf
      rw [N_M_planksAt]
      simp only [E_M_planksAt, fIsA, fRt, fLen, fLit, fBool]
      refine s_MisField g (fun f hf ev => ?_) (fun z => ?_)
      · subst ev
        simp only [oT, E_M_planksAt, fIsA, fRt, fLen, fLit, fBool, nI_clamp (show f < 2 ^ 31 by omega), (g.2.2.1 f hf).2.1]
        have k3 := (g.2.2.1 f hf).1.1
        rcases hc with ⟨z, rfl⟩ | ⟨f', f1, f2, f3, rfl⟩
        · exact absurd ⟨nI_pos' (by omega), nI_lt hf (by omega)⟩ z
        · obtain rfl : f = f' := (nI_eq (by omega) (by omega)).mp f2
          exact ⟨vp_in_nI (by omega) (by omega), fun c => absurd ((nI_eq (b := 0) (by omega) (by omega)).mp c) f3, fun _ => fin⟩
      · simp only [oT, E_M_planksAt, fIsA, fRt, fLen, fLit, fBool]
        rcases hc with ⟨_, rfl⟩ | ⟨f', f1, f2, f3, f4⟩
        · exact fin
        · exact absurd ⟨by rw [f2]; exact nI_pos' (by omega), by rw [f2]; exact nI_lt f1 (by omega)⟩ z
  by_cases c : 0 ≤ v ∧ v < nI (R * C)
  · obtain ⟨f, hf0, rfl⟩ := nI_of (Int32.not_lt.mpr c.1)
    have hf : f < R * C := (nI_ltI hf0 (by omega)).mp c.2
    by_cases hk : kd f = 0
    · have hp : ∀ q, q < 36 → plR f r q = 0 ∨ plR f r q = 1 := fun q hq => by
        unfold plR
        split
        · next z => subst z; rcases row.2.1 q hq with z | z <;> rw [z]
                    · exact Or.inr rfl
                    · exact Or.inl rfl
        · exact row.2.1 q hq
      have hle := cR_le hp 36 0 0 (by omega)
      refine ⟨nI (cR (plR f r) 36 0 0), plR f r, fun D B τ Q _ E mo q1 q2 => ?_, fun D τ Q E hr q1 q2 => ?_⟩
      · refine s_turnPlanks (d := D + 57) E.1.1 mo (fun z => absurd c z) (fun f' hf' ev hk' => ?_) (fun f' hf' ev hk' τ' g1 g2 g3 => ?_)
        · obtain rfl : f = f' := (nI_eq (by omega) (by omega)).mp ev
          exact absurd hk hk'
        · obtain rfl : f = f' := (nI_eq (by omega) (by omega)).mp ev
          rw [sb_cR g3.2.2.1 36 0 0 (by omega)]
          exact q2 (nI_pos (by omega)) τ' (g1.wk rfl) g2 (g3.more (by omega) h8)
      · have g := E.1.1
        rw [N_M_planksAt]
        simp only [E_M_planksAt, fIsA, fRt, fLen, fLit, fBool]
        refine s_MisField g (fun f' hf' ev => ?_) (fun z => absurd c z)
        obtain rfl : f = f' := (nI_eq (by omega) (by omega)).mp ev
        have k3 := (g.2.2.1 f hf).1.1
        simp only [oT, E_M_planksAt, fIsA, fRt, fLen, fLit, fBool, nI_clamp (show f < 2 ^ 31 by omega), (g.2.2.1 f hf).2.1, hr f (by omega)]
        refine ⟨vp_in_nI (by omega) (by omega), fun _ => ⟨vp_in_nI (by omega) (by omega), vp_in_nI (by omega) (by omega), ?_⟩, fun z => absurd (by rw [hk]; rfl) z⟩
        have e75 : ∀ j, j < 50 → (sI τ 75 f (1 - r f)).1 75 j = plR f r j := fun j hj => by
          unfold plR
          simp only [sI_1, reduceIte]
          by_cases q : j = f
          · rw [if_pos q, if_pos q]
          · rw [if_neg q, if_neg q]; exact hr j hj
        refine s_MplankC (r := plR f r) (fun q hq => e75 q (by omega)) hp ?_
        simp only [oT, E_M_planksAt, fIsA, fRt, fLen, fLit, fBool]
        exact q2 (nI_pos (by omega)) _ (Fr.rf.ic rfl) e75
    · exact two (-2) (by decide) (Or.inr ⟨f, hf, rfl, hk, rfl⟩)
  · exact two (-1) (by decide) (Or.inl ⟨c, rfl⟩)
theorem p_plank (t : Nat) (v : Int32) : PrI t m_H_plank m_M_plank [.int v] := by
  intro ht0 τ h
  obtain ⟨R, C, kd, ht, ns, n, hA, hT, hR⟩ := h
  have ⟨a, b, c, d, e, f, g, i, j⟩ := hA
  have hn := b.1
  obtain ⟨o, ee, m, E⟩ := hA.env
  obtain ⟨fi, un, u1, u2, u3, u4, u5, u6⟩ := d
  obtain ⟨x, r', hc, hm⟩ := a_plank (e := ee) (m := m) (o := o) (ht := ht) (W := τ.1 73) (S := τ.1 80) c.row a.n36.1 hn v
  rw [N_H_plank]
  simp only [E_H_plank, fIsA, fRt, fLen, fLit, fBool]
  refine s_copy (a := 11) (b := 9) (by decide) (by decide) (by omega) (fun τ1 f1 m1 => ?_)
  simp only [oN, E_H_plank, fIsA, fRt, fLen, fLit, fBool]
  have E1 : EnvI R C kd ht ns o ee m (τ.1 73) (τ.1 80) τ1 := E.fr f1 rfl (f1.c1 9 rfl 1)
  have mo1 : MoI τ1 9 ns (R * C) (300 * t) kd (τ.1 75) := c.same (fun j => f1.c1 9 rfl j) (fun j => f1.c2 9 rfl j) (fun j => f1.c1 10 rfl j) (fun _ _ => rfl) (Nat.le_refl _) hn
  refine hc 839 (300 * t) τ1 _ (by omega) E1 mo1 (fun hx τ2 f2 => ?_) (fun hx τ2 f2 s2 mo2 => ?_)
  · simp only [oT, E_H_plank, fIsA, fRt, fLen, fLit, fBool]
    rw [N_H_remembered]
    simp only [E_H_remembered, oT, E_H_plank, fIsA, fRt, fLen, fLit, fBool]
    refine ⟨fun _ => ?_, fun z => absurd hx z⟩
    have F2 : Fr [11, 12, 55] [(53, 3)] τ τ2 := (f1.wk rfl).tr (f2.wk rfl)
    rw [N_M_plank]
    simp only [E_M_plank, fIsA, fRt, fLen, fLit, fBool]
    refine s_MputsBy (un := un) u2 (by show τ2.1 69 28 = _; rw [F2.u1 69 28 rfl]; exact u5) (fun τ5 f5 q1 q2 => ?_)
    have F5 : Fr [11, 12, 55, 84] [(53, 3), (69, 0)] τ τ5 := ((F2.wk rfl).i rfl).tr (f5.wk rfl)
    simp only [oN, E_M_plank, fIsA, fRt, fLen, fLit, fBool]
    refine hm 839 τ5 _ (E.fr F5 rfl (F5.c1 9 rfl 1)) (fun j _ => F5.c1 75 rfl j) (fun _ τ6 f6 => ?_) (fun z => absurd hx z)
    simp only [oT, E_M_plank, fIsA, fRt, fLen, fLit, fBool]
    rw [N_M_counts]
    simp only [E_M_counts, oT, E_M_plank, fIsA, fRt, fLen, fLit, fBool]
    refine ⟨fun z => absurd hx (Int32.not_lt.mpr z), fun _ => ok rfl ?_⟩
    have F6 : Fr [11, 12, 55, 84, 82, 83] [(53, 3), (69, 0)] τ τ6 := (F5.wk rfl).tr (f6.wk rfl)
    refine ⟨R, C, kd, ht, ns, n, ⟨a.fr F6 rfl, b.fr F6 rfl, c.fr9 F6 rfl (by omega) hn, ?_, e.fr F6 rfl (by omega) (by omega) hn, f.fr F6 rfl, g.fr F6 rfl, i.fr F6 rfl, j.fr F6 rfl⟩, hT.fr F6 rfl, hR.fr F6 rfl⟩
    refine UnI.put u1 u2 u3 u4 (by rw [F6.u1 69 28 rfl]; exact u5) u6 (fun k hk j => F6.D (D := 13 :: pmL) (E := []) rfl k j hk) (fun j hj => ?_) (by omega) hn
    rw [f6.c1 84 rfl, q2 j hj]
    exact F2.c1 84 rfl j
  · simp only [oT, E_H_plank, fIsA, fRt, fLen, fLit, fBool]
    rw [N_H_remembered]
    simp only [E_H_remembered, oT, E_H_plank, fIsA, fRt, fLen, fLit, fBool]
    refine ⟨fun z => absurd z hx, fun _ => ?_⟩
    have f12 : Fr [9, 10, 11, 12, 55] [(53, 3)] τ τ2 := (f1.wk rfl).tr (f2.wk rfl)
    refine s_PastAdd (fi := fi) (un := un) (by rw [f12.u1 13 1 rfl]; exact u3) (by rw [f12.u1 13 2 rfl]; exact u4) u1 u2 (fun τ3 f3 p1 p2 p3 p4 => ?_)
    simp only [oN, E_H_remembered, oT, E_H_plank, fIsA, fRt, fLen, fLit, fBool]
    have f4 : Fr (9 :: 10 :: 11 :: 12 :: 55 :: 13 :: pmL) [(53, 3)] τ τ3 := (f12.wk rfl).tr (f3.wk rfl)
    rw [N_M_plank]
    simp only [E_M_plank, fIsA, fRt, fLen, fLit, fBool]
    refine s_MputsBy (un := un) u2 (by show τ3.1 69 28 = _; rw [f4.u1 69 28 rfl]; exact u5) (fun τ5 f5 q1 q2 => ?_)
    have F5 : Fr (9 :: 10 :: 11 :: 12 :: 55 :: 84 :: 13 :: pmL) [(53, 3), (69, 0)] τ τ5 := ((f4.wk rfl).i rfl).tr (f5.wk rfl)
    have s5 : τ5.1 9 1 = τ.1 9 1 := by
      rw [f5.c1 9 rfl]
      show τ3.1 9 1 = _
      rw [f3.c1 9 rfl, s2, f1.c1 9 rfl]
    simp only [oN, E_M_plank, fIsA, fRt, fLen, fLit, fBool]
    refine hm 839 τ5 _ (E.fr F5 rfl s5) (fun j _ => F5.c1 75 rfl j) (fun z => absurd z hx) (fun _ τ7 f57 r7 => ?_)
    simp only [oT, E_M_plank, fIsA, fRt, fLen, fLit, fBool]
    rw [N_M_counts]
    simp only [E_M_counts, oT, E_M_plank, fIsA, fRt, fLen, fLit, fBool]
    refine ⟨fun _ => ?_, fun z => absurd (Int32.not_lt.mp hx) z⟩
    refine s_Madds (un := un) u2 (by rw [f57.u1 69 28 rfl, F5.u1 69 28 rfl]; exact u5) (fun τ8 f8 a1 a2 => ?_)
    simp only [oT, E_M_counts, E_M_plank, fIsA, fRt, fLen, fLit, fBool]
    refine ok rfl ?_
    have F3 : Fr [75, 82, 83, 84] [(69, 0), (69, 28)] τ3 τ8 := (Fr.rf.i rfl).tr ((f5.wk rfl).tr ((f57.wk rfl).tr (f8.wk rfl)))
    have F2 : Fr (75 :: 82 :: 83 :: 84 :: 13 :: pmL) [(69, 0), (69, 28)] τ2 τ8 := (f3.wk rfl).tr (F3.wk rfl)
    have F4 : Fr (75 :: 82 :: 83 :: 84 :: 9 :: 10 :: 11 :: 12 :: 55 :: 13 :: pmL) [(53, 3), (69, 0), (69, 28)] τ τ8 := (f4.wk rfl).tr (F3.wk rfl)
    have b' : ShI τ8 ns := by
      refine ⟨hn, by rw [F4.u1 69 5 rfl]; exact b.2.1, ?_, fun s hs => ?_⟩
      · rw [F2.c1 9 rfl, s2, f1.c1 9 rfl]; exact b.2.2.1
      · rw [F4.c1 52 rfl, F4.c1 73 rfl]; exact b.2.2.2 s hs
    have c' : MoI τ8 9 ns (R * C) (300 * (t + 1)) kd (τ8.1 75) := mo2.same (fun j => F2.c1 9 rfl j) (fun j => F2.c2 9 rfl j) (fun j => F2.c1 10 rfl j) (fun j hj => by rw [f8.c1 75 rfl]; exact r7 j hj) (by omega) hn
    have d' : UnI τ8 ns (R * C) (300 * (t + 1)) kd := by
      refine UnI.rem (τ2 := τ2) (τ3 := τ3) (τ5 := τ5) (τ7 := τ7) u1 u2 u6 b.2.2.1 c (m1.fr (fun j => f2.c1 11 rfl j) (fun j => f2.c2 11 rfl j) (fun j => f2.c1 12 rfl j)) (fun k hk j => f12.D (D := pmL) (E := []) rfl k j hk) p1 p2 p3 p4 (fun k hk j => F3.D (D := 13 :: pmL) (E := []) rfl k j hk) (fun j hj => ?_) (fun j hj => ?_) (fun j => f57.c1 84 rfl j) a1 a2 (by omega) hn
      · rw [q1 j hj]; show τ3.1 75 j = _; exact f4.c1 75 rfl j
      · rw [q2 j hj]; show τ3.1 84 j = _; exact f4.c1 84 rfl j
    exact ⟨R, C, kd, ht, ns, n, ⟨a.fr F4 rfl, b', c', d', e.fr F4 rfl (by omega) (by omega) hn, f.fr F4 rfl, g.fr F4 rfl, i.fr F4 rfl, j.fr F4 rfl⟩, hT.fr F4 rfl, hR.fr F4 rfl⟩
