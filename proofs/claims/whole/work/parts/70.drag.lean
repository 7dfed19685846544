/-! PAIRS: drag -/
/-- an act of both over the row K, and what the new row keeps to -/
def ActG (K B0 : Nat) (m1 m2 : Nat) (as1 as2 : List Value) (R C : Nat) (kd ht : Nat → Nat) (ns o e m : Nat) (W S : Nat → Int32) (r : Nat → Int32) : Prop := ∃ (x : Int32) (r' : Nat → Int32), (¬ x < 0 → RowG ns (R * C) (B0 + 9) kd r') ∧
  (∀ (D B : Nat) (τ : St) (Q : Qt), B < 2 ^ 27 → EnvI R C kd ht ns o e m W S τ → MoI τ 9 ns (R * C) B kd r → (x < 0 → ∀ τ', Fr [55] [(53, 3)] τ τ' → Q (some (.int x)) τ') → (¬ x < 0 → ∀ τ', Fr [9, 10, 55] [(53, 3)] τ τ' → τ'.1 9 1 = τ.1 9 1 → MoI τ' 9 ns (R * C) (B + 9) kd r' → Q (some (.int x)) τ') → Cl (D + 60) m1 (.ref 0 :: as1) τ Q) ∧
  (∀ (D : Nat) (τ : St) (Q : Qt), EnvI R C kd ht ns o e m W S τ → (∀ j, j < 50 → τ.1 K j = r j) → (x < 0 → ∀ τ', Fr [82, 83] [] τ τ' → Q (some (.int x)) τ') → (¬ x < 0 → ∀ τ', Fr [K, 82, 83] [] τ τ' → (∀ j, j < 50 → τ'.1 K j = r' j) → Q (some (.int x)) τ') → Cl (D + 60) m2 (.ref 69 :: as2) τ Q)
theorem ActG.act {B0 m1 m2 : Nat} {as1 as2 : List Value} {R C : Nat} {kd ht : Nat → Nat} {ns o e m : Nat} {W S : Nat → Int32} {r : Nat → Int32} (h : ActG 75 B0 m1 m2 as1 as2 R C kd ht ns o e m W S r) : ActP m1 m2 as1 as2 R C kd ht ns o e m W S r := by
  obtain ⟨x, r', _, a, b⟩ := h
  exact ⟨x, r', a, b⟩
theorem RowG.more {ns n B B' : Nat} {kd : Nat → Nat} {r : Nat → Int32} (h : RowG ns n B kd r) (hB : B ≤ B') : RowG ns n B' kd r := by
  obtain ⟨a, b, ⟨i, i1, i2⟩, c⟩ := h
  exact ⟨a, b, ⟨i, by omega, i2⟩, c⟩
theorem or_lt {ns s g : Nat} (hs : s < ns) (h8 : ns ≤ 8) (g1 : g < 2 ^ ns) : ∃ g', g' < 2 ^ ns ∧ nI g ||| (1 <<< (nI s &&& 31)) = nI g' := by
  have hlt : ∀ j, ns ≤ j → j < 32 → bt (nI g ||| (1 <<< (nI s &&& 31))) j = false := fun j h1 h2 => by
    rw [b_or, shl1 (by omega) h2, decide_eq_false (by omega), Bool.or_false]
    show (BitVec.ofNat 32 g).getLsbD j = false
    rw [BitVec.getLsbD_ofNat, Nat.testBit_lt_two_pow (Nat.lt_of_lt_of_le g1 (Nat.pow_le_pow_right (by omega) h1)), Bool.and_false]
  refine ⟨(nI g ||| (1 <<< (nI s &&& 31))).toBitVec.toNat, Nat.lt_pow_two_of_testBit _ (fun j hj => ?_), ?_⟩
  · by_cases c : j < 32
    · exact hlt j hj c
    · exact Nat.testBit_lt_two_pow (Nat.lt_of_lt_of_le (nI g ||| (1 <<< (nI s &&& 31))).toBitVec.isLt (Nat.pow_le_pow_right (by omega) (by omega)))
  · apply Int32.toBitVec_inj.mp
    generalize nI g ||| (1 <<< (nI s &&& 31)) = X
    show X.toBitVec = BitVec.ofNat 32 X.toBitVec.toNat
    apply BitVec.eq_of_toNat_eq
    rw [BitVec.toNat_ofNat, Nat.mod_eq_of_lt X.toBitVec.isLt]
theorem dgRow {s q i ns n B k : Nat} {kd : Nat → Nat} {v : Int32} {r : Nat → Int32} (hs : s < ns) (h8 : ns ≤ 8) (hq : q < n) (hk : kd q ≠ 3) (row : RowG ns n B kd r) (hu : r 45 + v = nI k) (hk2 : k ≤ 999) : RowG ns n B kd (dgR s q i v r) := by
  obtain ⟨m1, m2, m5, m6, ⟨g, g1, g2⟩, m8⟩ := row
  have d44 : dgR s q i v r 44 = r 44 ||| (1 <<< (nI s &&& 31)) := by unfold dgR; rw [if_neg (by omega), if_pos rfl]
  have d45 : dgR s q i v r 45 = r 45 + v := by unfold dgR; rw [if_neg (by omega), if_neg (by omega), if_pos rfl]
  have d0 : ∀ j, j ≠ 36 + s → j ≠ 44 → j ≠ 45 → j ≠ 48 → dgR s q i v r j = r j := fun j a b c d => by unfold dgR; rw [if_neg a, if_neg b, if_neg c, if_neg d]
  refine ⟨fun z hz => ?_, fun f hf => ?_, ?_, ?_, ?_, ⟨k, hk2, by rw [d45]; exact hu⟩⟩
  · by_cases c : z = s
    · subst c
      exact ⟨q, hq, hk, by unfold dgR; rw [if_pos rfl]⟩
    · rw [d0 _ (by omega) (by omega) (by omega) (by omega)]
      exact m1 z hz
  · rw [d0 f (by omega) (by omega) (by omega) (by omega)]; exact m2 f hf
  · rw [d0 46 (by omega) (by omega) (by omega) (by omega)]; exact m5
  · rw [d0 47 (by omega) (by omega) (by omega) (by omega)]; exact m6
  · rw [d44, g2]
    exact or_lt hs h8 g1
theorem gl_cg {kd : Nat → Nat} {R C ns f h : Nat} {r r' : Nat → Int32} (hr : ∀ j, j < 50 → r' j = r j) (h8 : ns ≤ 8) : gl kd R C ns r' f h = gl kd R C ns r f h := by
  have e : ∀ v, occ r' ns v = occ r ns v := fun v => fb_cg ns 0 0 (fun k _ hk => by rw [hr (36 + k) (by omega)])
  unfold gl
  simp only [e]
theorem a_drag {R C ns o e m : Nat} {kd ht : Nat → Nat} {W S : Nat → Int32} {r : Nat → Int32} {B0 : Nat} (row : RowG ns (R * C) B0 kd r) (hB0 : B0 < 2 ^ 30) (ho9 : o ≤ 999) (hn36 : R * C ≤ 36) (h8 : ns ≤ 8) (x y : Int32) : ActG 75 B0 m_H_dragShip m_M_drags [.int x, .int y] [.ref 75, .int x, .int y] R C kd ht ns o e m W S r := by
  by_cases q : (0 ≤ x ∧ x < nI ns) ∧ 0 ≤ y ∧ y < nI 4
  · obtain ⟨s, s1, rfl⟩ := nI_of (Int32.not_lt.mpr q.1.1)
    obtain ⟨hd, h1, rfl⟩ := nI_of (Int32.not_lt.mpr q.2.1)
    have hs : s < ns := (nI_ltI s1 (by omega)).mp q.1.2
    have hh : hd < 4 := (nI_ltI h1 (by omega)).mp q.2.2
    obtain ⟨ff, hf, hk, hp⟩ := row.1 s hs
    obtain ⟨nn, hi2, hi⟩ := row.2.2.1
    obtain ⟨u, hu2, hu⟩ := row.2.2.2.2.2
    cases hgl : gl kd R C ns r ff hd with
    | none =>
      refine ⟨-2, r, fun w => absurd (by decide) w, fun D B τ Q hB E mo q1 q2 => ?_, fun D τ Q E hr q1 q2 => ?_⟩
      · exact s_HdragShip (d := D + 55) E mo hs hh hf hp hi (by omega) hu hu2 (fun _ => q1 (by decide) τ Fr.rf) (fun q w => by rw [hgl] at w; cases w) (fun q k w => by rw [hgl] at w; cases w) (fun q k w => by rw [hgl] at w; cases w)
      · exact s_Mdrags (d := D + 54) E row hr hs hh hf hp hi (by omega) hu hu2 (gl_cg hr h8) (fun _ => q1 (by decide) τ Fr.rf) (fun q w => by rw [hgl] at w; cases w) (fun q k w => by rw [hgl] at w; cases w) (fun q k w => by rw [hgl] at w; cases w)
    | some q' =>
      obtain ⟨k', hk', ek'⟩ := pvR_nI ht m S (W s) r nn ff q'
      have uq : ∀ {q k : Nat}, gl kd R C ns r ff hd = some q → pvR ht m S (W s) r nn ff q = nI k → k < 2 ^ 31 → q = q' ∧ k = k' := fun {q k} w1 w2 w3 => by
        rw [hgl] at w1
        cases w1
        rw [ek'] at w2
        exact ⟨rfl, ((nI_eq (by omega) w3).mp w2).symm⟩
      cases hb : bt (r 44) s with
      | true =>
        refine ⟨-3, r, fun w => absurd (by decide) w, fun D B τ Q hB E mo q1 q2 => ?_, fun D τ Q E hr q1 q2 => ?_⟩
        · exact s_HdragShip (d := D + 55) E mo hs hh hf hp hi (by omega) hu hu2 (fun w => by rw [hgl] at w; cases w) (fun q w wb τ' f => q1 (by decide) τ' f) (fun q k w w2 _ w3 => by rw [hb] at w3; cases w3) (fun q k w w2 _ w3 => by rw [hb] at w3; cases w3)
        · exact s_Mdrags (d := D + 54) E row hr hs hh hf hp hi (by omega) hu hu2 (gl_cg hr h8) (fun w => by rw [hgl] at w; cases w) (fun q w wb => q1 (by decide) τ Fr.rf) (fun q k w w2 _ w3 => by rw [hb] at w3; cases w3) (fun q k w w2 _ w3 => by rw [hb] at w3; cases w3)
      | false =>
        by_cases c : o < u + k'
        · refine ⟨-4, r, fun w => absurd (by decide) w, fun D B τ Q hB E mo q1 q2 => ?_, fun D τ Q E hr q1 q2 => ?_⟩
          · refine s_HdragShip (d := D + 55) E mo hs hh hf hp hi (by omega) hu hu2 (fun w => by rw [hgl] at w; cases w) (fun q w wb => by rw [hb] at wb; cases wb) (fun q k w w2 wk w3 w4 τ' f => q1 (by decide) τ' f) (fun q k w w2 wk w3 w4 => ?_)
            have ho := E.2.1.1
            have := (uq w w2 (by omega)).2
            omega
          · refine s_Mdrags (d := D + 54) E row hr hs hh hf hp hi (by omega) hu hu2 (gl_cg hr h8) (fun w => by rw [hgl] at w; cases w) (fun q w wb => by rw [hb] at wb; cases wb) (fun q k w w2 wk w3 w4 τ' f => q1 (by decide) τ' (f.wk rfl)) (fun q k w w2 wk w3 w4 => ?_)
            have ho := E.2.1.1
            have := (uq w w2 (by omega)).2
            omega
        · refine ⟨nI (o - (u + k')), dgR s q' nn (nI k') r, fun _ => (dgRow (k := u + k') hs h8 (gl_lt hf hh hgl) (gl_nk hgl).2 row (by rw [hu, nI_add]) (by omega)).more (by omega), fun D B τ Q hB E mo q1 q2 => ?_, fun D τ Q E hr q1 q2 => ?_⟩
          · have ho := E.2.1.1
            have np : ¬ nI (o - (u + k')) < 0 := nI_pos (by omega)
            refine s_HdragShip (d := D + 55) E mo hs hh hf hp hi (by omega) hu hu2 (fun w => by rw [hgl] at w; cases w) (fun q w wb => by rw [hb] at wb; cases wb) (fun q k w w2 wk w3 w4 => ?_) (fun q k w w2 wk w3 w4 τ' f s1 mo' => ?_)
            · have := (uq w w2 (by omega)).2
              omega
            · obtain ⟨rfl, rfl⟩ := uq w w2 (by omega)
              exact q2 np τ' f s1 (mo'.more (by omega) h8)
          · have ho := E.2.1.1
            have np : ¬ nI (o - (u + k')) < 0 := nI_pos (by omega)
            refine s_Mdrags (d := D + 54) E row hr hs hh hf hp hi (by omega) hu hu2 (gl_cg hr h8) (fun w => by rw [hgl] at w; cases w) (fun q w wb => by rw [hb] at wb; cases wb) (fun q k w w2 wk w3 w4 => ?_) (fun q k w w2 wk w3 w4 τ' f r' => ?_)
            · have := (uq w w2 (by omega)).2
              omega
            · obtain ⟨rfl, rfl⟩ := uq w w2 (by omega)
              exact q2 np τ' f r'
  · refine ⟨-1, r, fun w => absurd (by decide) w, fun D B τ Q hB E mo q1 q2 => ?_, fun D τ Q E hr q1 q2 => ?_⟩
    · have fin := q1 (by decide) τ Fr.rf
      rw [N_H_dragShip]
      simp only [E_H_dragShip, fIsA, fRt, fLen, fLit, fBool]
      rw [N_H_pullOf]
      simp only [E_H_pullOf, fIsA, fRt, fLen, fLit, fBool]
      refine s_HhasShip E.1.2.1 (fun k hk ek => ?_) (fun z => ?_)
      · simp only [oT, E_H_pullOf, E_H_dragShip, fIsA, fRt, fLen, fLit, fBool]
        exact ⟨fun _ => fin, fun z => ⟨fun z4 => absurd ⟨⟨by rw [ek]; exact nI_pos' (by omega), by rw [ek]; exact nI_lt hk (by omega)⟩, Int32.not_lt.mp z, z4⟩ q, fun _ => fin⟩⟩
      · simp only [oT, E_H_pullOf, E_H_dragShip, fIsA, fRt, fLen, fLit, fBool]
        exact fin
    · have fin := q1 (by decide) τ Fr.rf
      rw [N_M_drags]
      simp only [E_M_drags, fIsA, fRt, fLen, fLit, fBool]
      refine s_MisShip E.1.2.1 (fun k hk ek => ?_) (fun z => ?_)
      · simp only [oT, E_M_drags, fIsA, fRt, fLen, fLit, fBool]
        refine s_inI 0 rfl (nI 3) rfl (fun c1 c2 => absurd ⟨⟨by rw [ek]; exact nI_pos' (by omega), by rw [ek]; exact nI_lt hk (by omega)⟩, c1, Int32.lt_of_le_of_lt c2 (by decide)⟩ q) (fun z => ?_)
        simp only [oT, E_M_drags, fIsA, fRt, fLen, fLit, fBool]
        exact fin
      · simp only [oT, E_M_drags, fIsA, fRt, fLen, fLit, fBool]
        exact fin
theorem p_drag (t : Nat) (v w : Int32) : PrI t m_H_drag m_M_drag [.int v, .int w] := by
  intro ht0 τ h
  obtain ⟨R, C, kd, ht, ns, n, hA, hT, hR⟩ := h
  have ⟨a, b, c, d, e, f, g, i, j⟩ := hA
  have hn := b.1
  obtain ⟨o, ee, m, E⟩ := hA.env
  obtain ⟨fi, un, u1, u2, u3, u4, u5, u6⟩ := d
  obtain ⟨x, r', hc, hm⟩ := (a_drag (e := ee) (m := m) (o := o) (ht := ht) (W := τ.1 73) (S := τ.1 80) c.row (by omega) E.2.1.1 a.n36.1 hn v w).act
  rw [N_H_drag]
  simp only [E_H_drag, fIsA, fRt, fLen, fLit, fBool]
  refine s_copy (a := 11) (b := 9) (by decide) (by decide) (by omega) (fun τ1 f1 m1 => ?_)
  simp only [oN, E_H_drag, fIsA, fRt, fLen, fLit, fBool]
  have E1 : EnvI R C kd ht ns o ee m (τ.1 73) (τ.1 80) τ1 := E.fr f1 rfl (f1.c1 9 rfl 1)
  have mo1 : MoI τ1 9 ns (R * C) (300 * t) kd (τ.1 75) := c.same (fun j => f1.c1 9 rfl j) (fun j => f1.c2 9 rfl j) (fun j => f1.c1 10 rfl j) (fun _ _ => rfl) (Nat.le_refl _) hn
  refine hc 839 (300 * t) τ1 _ (by omega) E1 mo1 (fun hx τ2 f2 => ?_) (fun hx τ2 f2 s2 mo2 => ?_)
  · simp only [oT, E_H_drag, fIsA, fRt, fLen, fLit, fBool]
    rw [N_H_remembered]
    simp only [E_H_remembered, oT, E_H_drag, fIsA, fRt, fLen, fLit, fBool]
    refine ⟨fun _ => ?_, fun z => absurd hx z⟩
    have F2 : Fr [11, 12, 55] [(53, 3)] τ τ2 := (f1.wk rfl).tr (f2.wk rfl)
    rw [N_M_drag]
    simp only [E_M_drag, fIsA, fRt, fLen, fLit, fBool]
    refine s_MputsBy (un := un) u2 (by show τ2.1 69 28 = _; rw [F2.u1 69 28 rfl]; exact u5) (fun τ5 f5 q1 q2 => ?_)
    have F5 : Fr [11, 12, 55, 84] [(53, 3), (69, 0)] τ τ5 := ((F2.wk rfl).i rfl).tr (f5.wk rfl)
    simp only [oN, E_M_drag, fIsA, fRt, fLen, fLit, fBool]
    refine hm 839 τ5 _ (E.fr F5 rfl (F5.c1 9 rfl 1)) (fun j _ => F5.c1 75 rfl j) (fun _ τ6 f6 => ?_) (fun z => absurd hx z)
    simp only [oT, E_M_drag, fIsA, fRt, fLen, fLit, fBool]
    rw [N_M_counts]
    simp only [E_M_counts, oT, E_M_drag, fIsA, fRt, fLen, fLit, fBool]
    refine ⟨fun z => absurd hx (Int32.not_lt.mpr z), fun _ => ok rfl ?_⟩
    have F6 : Fr [11, 12, 55, 84, 82, 83] [(53, 3), (69, 0)] τ τ6 := (F5.wk rfl).tr (f6.wk rfl)
    refine ⟨R, C, kd, ht, ns, n, ⟨a.fr F6 rfl, b.fr F6 rfl, c.fr9 F6 rfl (by omega) hn, ?_, e.fr F6 rfl (by omega) (by omega) hn, f.fr F6 rfl, g.fr F6 rfl, i.fr F6 rfl, j.fr F6 rfl⟩, hT.fr F6 rfl, hR.fr F6 rfl⟩
    refine UnI.put u1 u2 u3 u4 (by rw [F6.u1 69 28 rfl]; exact u5) u6 (fun k hk j => F6.D (D := 13 :: pmL) (E := []) rfl k j hk) (fun j hj => ?_) (by omega) hn
    rw [f6.c1 84 rfl, q2 j hj]
    exact F2.c1 84 rfl j
  · simp only [oT, E_H_drag, fIsA, fRt, fLen, fLit, fBool]
    rw [N_H_remembered]
    simp only [E_H_remembered, oT, E_H_drag, fIsA, fRt, fLen, fLit, fBool]
    refine ⟨fun z => absurd z hx, fun _ => ?_⟩
    have f12 : Fr [9, 10, 11, 12, 55] [(53, 3)] τ τ2 := (f1.wk rfl).tr (f2.wk rfl)
    refine s_PastAdd (fi := fi) (un := un) (by rw [f12.u1 13 1 rfl]; exact u3) (by rw [f12.u1 13 2 rfl]; exact u4) u1 u2 (fun τ3 f3 p1 p2 p3 p4 => ?_)
    simp only [oN, E_H_remembered, oT, E_H_drag, fIsA, fRt, fLen, fLit, fBool]
    have f4 : Fr (9 :: 10 :: 11 :: 12 :: 55 :: 13 :: pmL) [(53, 3)] τ τ3 := (f12.wk rfl).tr (f3.wk rfl)
    rw [N_M_drag]
    simp only [E_M_drag, fIsA, fRt, fLen, fLit, fBool]
    refine s_MputsBy (un := un) u2 (by show τ3.1 69 28 = _; rw [f4.u1 69 28 rfl]; exact u5) (fun τ5 f5 q1 q2 => ?_)
    have F5 : Fr (9 :: 10 :: 11 :: 12 :: 55 :: 84 :: 13 :: pmL) [(53, 3), (69, 0)] τ τ5 := ((f4.wk rfl).i rfl).tr (f5.wk rfl)
    have s5 : τ5.1 9 1 = τ.1 9 1 := by
      rw [f5.c1 9 rfl]
      show τ3.1 9 1 = _
      rw [f3.c1 9 rfl, s2, f1.c1 9 rfl]
    simp only [oN, E_M_drag, fIsA, fRt, fLen, fLit, fBool]
    refine hm 839 τ5 _ (E.fr F5 rfl s5) (fun j _ => F5.c1 75 rfl j) (fun z => absurd z hx) (fun _ τ7 f57 r7 => ?_)
    simp only [oT, E_M_drag, fIsA, fRt, fLen, fLit, fBool]
    rw [N_M_counts]
    simp only [E_M_counts, oT, E_M_drag, fIsA, fRt, fLen, fLit, fBool]
    refine ⟨fun _ => ?_, fun z => absurd (Int32.not_lt.mp hx) z⟩
    refine s_Madds (un := un) u2 (by rw [f57.u1 69 28 rfl, F5.u1 69 28 rfl]; exact u5) (fun τ8 f8 a1 a2 => ?_)
    simp only [oT, E_M_counts, E_M_drag, fIsA, fRt, fLen, fLit, fBool]
    refine ok rfl ?_
    have F3 : Fr [75, 82, 83, 84] [(69, 0), (69, 28)] τ3 τ8 := (Fr.rf.i rfl).tr ((f5.wk rfl).tr ((f57.wk rfl).tr (f8.wk rfl)))
    have F2 : Fr (75 :: 82 :: 83 :: 84 :: 13 :: pmL) [(69, 0), (69, 28)] τ2 τ8 := (f3.wk rfl).tr (F3.wk rfl)
    have F4 : Fr (75 :: 82 :: 83 :: 84 :: 9 :: 10 :: 11 :: 12 :: 55 :: 13 :: pmL) [(53, 3), (69, 0), (69, 28)] τ τ8 := (f4.wk rfl).tr (F3.wk rfl)
    have b' : ShI τ8 ns := by
      refine ⟨hn, by rw [F4.u1 69 5 rfl]; exact b.2.1, ?_, fun s hs => ?_⟩
      · rw [F2.c1 9 rfl, s2, f1.c1 9 rfl]; exact b.2.2.1
      · rw [F4.c1 52 rfl, F4.c1 73 rfl]; exact b.2.2.2 s hs
    have c' : MoI τ8 9 ns (R * C) (300 * (t + 1)) kd (τ8.1 75) := mo2.same (fun j => F2.c1 9 rfl j) (fun j => F2.c2 9 rfl j) (fun j => F2.c1 10 rfl j) (fun j hj => by rw [f8.c1 75 rfl]; exact r7 j hj) (by omega) hn
    have d' : UnI τ8 ns (R * C) (300 * (t + 1)) kd := by
      refine UnI.rem (τ2 := τ2) (τ3 := τ3) (τ5 := τ5) (τ7 := τ7) u1 u2 u6 b.2.2.1 c (m1.fr (fun j => f2.c1 11 rfl j) (fun j => f2.c2 11 rfl j) (fun j => f2.c1 12 rfl j)) (fun k hk j => f12.D (D := pmL) (E := []) rfl k j hk) p1 p2 p3 p4 (fun k hk j => F3.D (D := 13 :: pmL) (E := []) rfl k j hk) (fun j hj => ?_) (fun j hj => ?_) (fun j => f57.c1 84 rfl j) a1 a2 (by omega) hn
      · rw [q1 j hj]; show τ3.1 75 j = _; exact f4.c1 75 rfl j
      · rw [q2 j hj]; show τ3.1 84 j = _; exact f4.c1 84 rfl j
    exact ⟨R, C, kd, ht, ns, n, ⟨a.fr F4 rfl, b', c', d', e.fr F4 rfl (by omega) (by omega) hn, f.fr F4 rfl, g.fr F4 rfl, i.fr F4 rfl, j.fr F4 rfl⟩, hT.fr F4 rfl, hR.fr F4 rfl⟩
