/-! PAIRS: sieges -/
/-- what a draw of n answers, by what was drawn -/
def drV (z n : Int32) : Int32 := (z.toUInt32 >>> ((16 : Int32).toUInt32 &&& Int32.toUInt32 31)).toInt32 - (z.toUInt32 >>> ((16 : Int32).toUInt32 &&& Int32.toUInt32 31)).toInt32 / n * n
def drN (z : Int32) : Int32 := z * 1103515245 + 12345
theorem s_drawnBehind {d : Nat} {z : Int32} {Q : Qt} {τ : St} (hQ : Q (some (.int (drN z))) τ) : Cl (d + 1) m_H_drawnBehind [.int z] τ Q := by
  rw [N_H_drawnBehind]
  simp only [E_H_drawnBehind, fIsA, fRt, fLen, fLit, fBool]
  exact hQ
theorem s_drawOf {d n : Nat} {z : Int32} {Q : Qt} {τ : St} (h1 : 1 ≤ n) (h2 : n < 2 ^ 31) (hQ : Q (some (.int (drV z (nI n)))) τ) : Cl (d + 1) m_H_drawOf [.int z, .int (nI n)] τ Q := by
  rw [N_H_drawOf]
  simp only [E_H_drawOf, fIsA, fRt, fLen, fLit, fBool]
  refine ⟨fun q => absurd q (nI_ge (a := 0) (by omega) (by omega)), fun _ => ⟨fun q => absurd ((nI_eq (b := 0) (by omega) (by omega)).mp q) (by omega), hQ⟩⟩
theorem s_Mdraws {d n : Nat} {Q : Qt} {τ : St} (h1 : 1 ≤ n) (h2 : n < 2 ^ 31) (hQ : Q (some (.int (drV (drN (τ.1 69 49)) (nI n)))) (sI τ 69 49 (drN (τ.1 69 49)))) : Cl (d + 1) m_M_draws [.ref 69, .int (nI n)] τ Q := by
  rw [N_M_draws]
  simp only [E_M_draws, fIsA, fRt, fLen, fLit, fBool, sI_1, reduceIte, Nat.reduceEqDiff]
  exact ⟨fun q => absurd ((nI_eq (b := 0) (by omega) (by omega)).mp q) (by omega), hQ⟩
theorem hgRow {ns n B : Nat} {kd : Nat → Nat} {r : Nat → Int32} {e : Int32} (h8 : ns ≤ 8) (row : RowG ns n B kd r) : RowG ns n (B + 1) kd (hgR e r) := by
  obtain ⟨m1, m2, ⟨i, i1, i2⟩, ⟨h, h1, h2⟩, ⟨g, g1, g2⟩, m8⟩ := row
  have eh : r 47 + 1 = nI (h + 1) := by rw [h2]; exact nI_add h 1
  refine ⟨fun s hs => ?_, fun f hf => by rw [hgL (by omega)]; exact m2 f hf, ?_, ?_, ⟨0, Nat.two_pow_pos _, rfl⟩, ⟨0, by omega, rfl⟩⟩
  · obtain ⟨f, a, b, c⟩ := m1 s hs
    exact ⟨f, a, b, by rw [hgL (by omega)]; exact c⟩
  · rw [hg46]
    split
    · exact ⟨i + 1, by omega, by rw [i2]; exact nI_add i 1⟩
    · exact ⟨i, by omega, i2⟩
  · rw [hg47]
    split
    · exact ⟨0, by omega, rfl⟩
    · next c => exact ⟨h + 1, by have : h + 1 ≠ 10 := fun w => c (by rw [eh, w]; rfl)
                                 omega, eh⟩
theorem a_dragT {R C ns o e m : Nat} {kd ht : Nat → Nat} {W S : Nat → Int32} {r : Nat → Int32} {B0 : Nat} (row : RowG ns (R * C) B0 kd r) (hB0 : B0 < 2 ^ 30) (ho9 : o ≤ 999) (hn36 : R * C ≤ 36) (h8 : ns ≤ 8) (x y : Int32) : ActG 76 B0 m_H_dragShip m_M_drags [.int x, .int y] [.ref 76, .int x, .int y] R C kd ht ns o e m W S r := by
  by_cases q : (0 ≤ x ∧ x < nI ns) ∧ 0 ≤ y ∧ y < nI 4
  · obtain ⟨s, s1, rfl⟩ := nI_of (Int32.not_lt.mpr q.1.1)
    obtain ⟨hd, h1, rfl⟩ := nI_of (Int32.not_lt.mpr q.2.1)
    have hs : s < ns := (nI_ltI s1 (by omega)).mp q.1.2
    have hh : hd < 4 := (nI_ltI h1 (by omega)).mp q.2.2
    obtain ⟨ff, hf, hk, hp⟩ := row.1 s hs
    obtain ⟨nn, hi2, hi⟩ := row.2.2.1
    obtain ⟨u, hu2, hu⟩ := row.2.2.2.2.2
    cases hgl : gl kd R C ns r ff hd with
    | none =>
      refine ⟨-2, r, fun w => absurd (by decide) w, fun D B τ Q hB E mo q1 q2 => ?_, fun D τ Q E hr q1 q2 => ?_⟩
      · exact s_HdragShip (d := D + 55) E mo hs hh hf hp hi (by omega) hu hu2 (fun _ => q1 (by decide) τ Fr.rf) (fun q w => by rw [hgl] at w; cases w) (fun q k w => by rw [hgl] at w; cases w) (fun q k w => by rw [hgl] at w; cases w)
      · exact s_MdragsT (d := D + 54) E row hr hs hh hf hp hi (by omega) hu hu2 (gl_cg hr h8) (fun _ => q1 (by decide) τ Fr.rf) (fun q w => by rw [hgl] at w; cases w) (fun q k w => by rw [hgl] at w; cases w) (fun q k w => by rw [hgl] at w; cases w)
    | some q' =>
      obtain ⟨k', hk', ek'⟩ := pvR_nI ht m S (W s) r nn ff q'
      have uq : ∀ {q k : Nat}, gl kd R C ns r ff hd = some q → pvR ht m S (W s) r nn ff q = nI k → k < 2 ^ 31 → q = q' ∧ k = k' := fun {q k} w1 w2 w3 => by
        rw [hgl] at w1
        cases w1
        rw [ek'] at w2
        exact ⟨rfl, ((nI_eq (by omega) w3).mp w2).symm⟩
      cases hb : bt (r 44) s with
      | true =>
        refine ⟨-3, r, fun w => absurd (by decide) w, fun D B τ Q hB E mo q1 q2 => ?_, fun D τ Q E hr q1 q2 => ?_⟩
        · exact s_HdragShip (d := D + 55) E mo hs hh hf hp hi (by omega) hu hu2 (fun w => by rw [hgl] at w; cases w) (fun q w wb τ' f => q1 (by decide) τ' f) (fun q k w w2 _ w3 => by rw [hb] at w3; cases w3) (fun q k w w2 _ w3 => by rw [hb] at w3; cases w3)
        · exact s_MdragsT (d := D + 54) E row hr hs hh hf hp hi (by omega) hu hu2 (gl_cg hr h8) (fun w => by rw [hgl] at w; cases w) (fun q w wb => q1 (by decide) τ Fr.rf) (fun q k w w2 _ w3 => by rw [hb] at w3; cases w3) (fun q k w w2 _ w3 => by rw [hb] at w3; cases w3)
      | false =>
        by_cases c : o < u + k'
        · refine ⟨-4, r, fun w => absurd (by decide) w, fun D B τ Q hB E mo q1 q2 => ?_, fun D τ Q E hr q1 q2 => ?_⟩
          · refine s_HdragShip (d := D + 55) E mo hs hh hf hp hi (by omega) hu hu2 (fun w => by rw [hgl] at w; cases w) (fun q w wb => by rw [hb] at wb; cases wb) (fun q k w w2 wk w3 w4 τ' f => q1 (by decide) τ' f) (fun q k w w2 wk w3 w4 => ?_)
            have ho := E.2.1.1
            have := (uq w w2 (by omega)).2
            omega
          · refine s_MdragsT (d := D + 54) E row hr hs hh hf hp hi (by omega) hu hu2 (gl_cg hr h8) (fun w => by rw [hgl] at w; cases w) (fun q w wb => by rw [hb] at wb; cases wb) (fun q k w w2 wk w3 w4 τ' f => q1 (by decide) τ' (f.wk rfl)) (fun q k w w2 wk w3 w4 => ?_)
            have ho := E.2.1.1
            have := (uq w w2 (by omega)).2
            omega
        · refine ⟨nI (o - (u + k')), dgR s q' nn (nI k') r, fun _ => (dgRow (k := u + k') hs h8 (gl_lt hf hh hgl) (gl_nk hgl).2 row (by rw [hu, nI_add]) (by omega)).more (by omega), fun D B τ Q hB E mo q1 q2 => ?_, fun D τ Q E hr q1 q2 => ?_⟩
          · have ho := E.2.1.1
            have np : ¬ nI (o - (u + k')) < 0 := nI_pos (by omega)
            refine s_HdragShip (d := D + 55) E mo hs hh hf hp hi (by omega) hu hu2 (fun w => by rw [hgl] at w; cases w) (fun q w wb => by rw [hb] at wb; cases wb) (fun q k w w2 wk w3 w4 => ?_) (fun q k w w2 wk w3 w4 τ' f s1 mo' => ?_)
            · have := (uq w w2 (by omega)).2
              omega
            · obtain ⟨rfl, rfl⟩ := uq w w2 (by omega)
              exact q2 np τ' f s1 (mo'.more (by omega) h8)
          · have ho := E.2.1.1
            have np : ¬ nI (o - (u + k')) < 0 := nI_pos (by omega)
            refine s_MdragsT (d := D + 54) E row hr hs hh hf hp hi (by omega) hu hu2 (gl_cg hr h8) (fun w => by rw [hgl] at w; cases w) (fun q w wb => by rw [hb] at wb; cases wb) (fun q k w w2 wk w3 w4 => ?_) (fun q k w w2 wk w3 w4 τ' f r' => ?_)
            · have := (uq w w2 (by omega)).2
              omega
            · obtain ⟨rfl, rfl⟩ := uq w w2 (by omega)
              exact q2 np τ' f r'
  · refine ⟨-1, r, fun w => absurd (by decide) w, fun D B τ Q hB E mo q1 q2 => ?_, fun D τ Q E hr q1 q2 => ?_⟩
    · have fin := q1 (by decide) τ Fr.rf
      rw [N_H_dragShip]
      simp only [E_H_dragShip, fIsA, fRt, fLen, fLit, fBool]
      rw [N_H_pullOf]
      simp only [E_H_pullOf, fIsA, fRt, fLen, fLit, fBool]
      refine s_HhasShip E.1.2.1 (fun k hk ek => ?_) (fun z => ?_)
      · simp only [oT, E_H_pullOf, E_H_dragShip, fIsA, fRt, fLen, fLit, fBool]
        exact ⟨fun _ => fin, fun z => ⟨fun z4 => absurd ⟨⟨by rw [ek]; exact nI_pos' (by omega), by rw [ek]; exact nI_lt hk (by omega)⟩, Int32.not_lt.mp z, z4⟩ q, fun _ => fin⟩⟩
      · simp only [oT, E_H_pullOf, E_H_dragShip, fIsA, fRt, fLen, fLit, fBool]
        exact fin
    · have fin := q1 (by decide) τ Fr.rf
      rw [N_M_drags]
      simp only [E_M_drags, fIsA, fRt, fLen, fLit, fBool]
      refine s_MisShip E.1.2.1 (fun k hk ek => ?_) (fun z => ?_)
      · simp only [oT, E_M_drags, fIsA, fRt, fLen, fLit, fBool]
        refine s_inI 0 rfl (nI 3) rfl (fun c1 c2 => absurd ⟨⟨by rw [ek]; exact nI_pos' (by omega), by rw [ek]; exact nI_lt hk (by omega)⟩, c1, Int32.lt_of_le_of_lt c2 (by decide)⟩ q) (fun z => ?_)
        simp only [oT, E_M_drags, fIsA, fRt, fLen, fLit, fBool]
        exact fin
      · simp only [oT, E_M_drags, fIsA, fRt, fLen, fLit, fBool]
        exact fin
theorem sieges_loop {R C ns o e m : Nat} {kd ht : Nat → Nat} {W S : Nat → Int32} (hn36 : R * C ≤ 36) (h8 : ns ≤ 8) (h1 : 1 ≤ ns) (ho9 : o ≤ 999) {k : Nat} (hk : k ≤ 99) {seed : Int32} : ∀ (u i : Nat), i + u = k + 1 → 1 ≤ i → ∀ (a z : Int32) (r : Nat → Int32) (B : Nat), B + 10 * u < 2 ^ 27 → RowG ns (R * C) B kd r →
    ∃ (x : Int32) (rr : Nat → Int32), RowG ns (R * C) (B + 10 * u) kd rr ∧
    (∀ (D : Nat) (τ : St) (l : Option Value) (Q : Qt), EnvI R C kd ht ns o e m W S τ → MoI τ 9 ns (R * C) B kd r → (∀ (τ' : St) (z' : Int32) (l' : Option Value), Fr [9, 10, 55] [(53, 3)] τ τ' → τ'.1 9 1 = τ.1 9 1 → MoI τ' 9 ns (R * C) (B + 10 * u) kd rr → Rs M_H_sieges (D + 60) Q 46 [some (.ref 0), some (.int seed), some (.int (nI k)), some (.int x), some (.int z'), some (.int (nI (k + 1))), l'] [] τ') → Rs M_H_sieges (D + 60) Q 46 [some (.ref 0), some (.int seed), some (.int (nI k)), some (.int a), some (.int z), some (.int (nI i)), l] [] τ) ∧
    (∀ (D : Nat) (τ : St) (l : Option Value) (Q : Qt), EnvI R C kd ht ns o e m W S τ → τ.1 69 49 = z → (∀ j, j < 50 → τ.1 76 j = r j) → (∀ (τ' : St) (l' : Option Value), Fr [76, 82, 83] [(69, 49)] τ τ' → (∀ j, j < 50 → τ'.1 76 j = rr j) → Rs M_M_sieges (D + 60) Q 43 [some (.ref 69), some (.int seed), some (.int (nI k)), some (.int x), some (.int (nI (k + 1))), l'] [] τ') → Rs M_M_sieges (D + 60) Q 43 [some (.ref 69), some (.int seed), some (.int (nI k)), some (.int a), some (.int (nI i)), l] [] τ)
  | 0, i, hi, h0, a, z, r, B, hB, row => by
    obtain rfl : i = k + 1 := by omega
    exact ⟨a, r, row, fun D τ l Q E mo q => q τ z l Fr.rf rfl mo, fun D τ l Q E hz hr q => q τ l Fr.rf hr⟩
  | u + 1, i, hi, h0, a, z, r, B, hB, row => by
    have ei : nI i - nI i / 3 * 3 = nI (i % 3) := pk_rem (d := 3) (by omega) (by omega) (by omega)
    have hm3 : i % 3 < 3 := Nat.mod_lt _ (by omega)
    obtain ⟨x1, r1, hw, hc, hm⟩ := a_dragT (e := e) (m := m) (o := o) (ht := ht) (W := W) (S := S) row (by omega) ho9 hn36 h8 (drV (drN z) (nI ns)) (drV (drN (drN z)) (nI 4))
    -- the row behind the drag, and the count
    have hst : ∃ (a' : Int32) (r2 : Nat → Int32), RowG ns (R * C) (B + 9) kd r2 ∧
        (∀ (D : Nat) (τ : St) (Q : Qt), EnvI R C kd ht ns o e m W S τ → MoI τ 9 ns (R * C) B kd r → (∀ (τ' : St), Fr [9, 10, 55] [(53, 3)] τ τ' → τ'.1 9 1 = τ.1 9 1 → MoI τ' 9 ns (R * C) (B + 9) kd r2 → (x1 < 0 → a' = a) → (¬ x1 < 0 → a' = a + 1) → Q (some (.int x1)) τ') → Cl (D + 60) m_H_dragShip [.ref 0, .int (drV (drN z) (nI ns)), .int (drV (drN (drN z)) (nI 4))] τ Q) ∧
        (∀ (D : Nat) (τ : St) (Q : Qt), EnvI R C kd ht ns o e m W S τ → (∀ j, j < 50 → τ.1 76 j = r j) → (∀ (τ' : St), Fr [76, 82, 83] [] τ τ' → (∀ j, j < 50 → τ'.1 76 j = r2 j) → (x1 < 0 → a' = a) → (¬ x1 < 0 → a' = a + 1) → Q (some (.int x1)) τ') → Cl (D + 60) m_M_drags [.ref 69, .ref 76, .int (drV (drN z) (nI ns)), .int (drV (drN (drN z)) (nI 4))] τ Q) := by
      by_cases c : x1 < 0
      · refine ⟨a, r, row.more (by omega), fun D τ Q E mo q => ?_, fun D τ Q E hr q => ?_⟩
        · exact hc D B τ Q (by omega) E mo (fun _ τ' f => q τ' (f.wk rfl) (f.c1 9 rfl 1) (mo.same (fun j => f.c1 9 rfl j) (fun j => f.c2 9 rfl j) (fun j => f.c1 10 rfl j) (fun _ _ => rfl) (by omega) h8) (fun _ => rfl) (fun w => absurd c w)) (fun w => absurd c w)
        · exact hm D τ Q E hr (fun _ τ' f => q τ' (f.wk rfl) (fun j hj => by rw [f.c1 76 rfl]; exact hr j hj) (fun _ => rfl) (fun w => absurd c w)) (fun w => absurd c w)
      · refine ⟨a + 1, r1, hw c, fun D τ Q E mo q => ?_, fun D τ Q E hr q => ?_⟩
        · exact hc D B τ Q (by omega) E mo (fun w => absurd w c) (fun _ τ' f s mo' => q τ' f s mo' (fun w => absurd w c) (fun _ => rfl))
        · exact hm D τ Q E hr (fun w => absurd w c) (fun _ τ' f hr' => q τ' f hr' (fun w => absurd w c) (fun _ => rfl))
    obtain ⟨a', r2, row2, hc2, hm2⟩ := hst
    -- the hour behind each third
    have hh : ∃ r3 : Nat → Int32, RowG ns (R * C) (B + 10) kd r3 ∧ (i % 3 = 0 → r3 = hgR (nI e) r2) ∧ (i % 3 ≠ 0 → r3 = r2) := by
      by_cases c : i % 3 = 0
      · exact ⟨hgR (nI e) r2, hgRow h8 row2, fun _ => rfl, fun w => absurd c w⟩
      · exact ⟨r2, row2.more (by omega), fun w => absurd w c, fun _ => rfl⟩
    obtain ⟨r3, row3, h3a, h3b⟩ := hh
    obtain ⟨x, rr, rowF, ic, im⟩ := sieges_loop hn36 h8 h1 ho9 hk (seed := seed) u (i + 1) (by omega) (by omega) a' (drN (drN z)) r3 (B + 10) (by omega) row3
    have eB : B + 10 + 10 * u = B + 10 * (u + 1) := by omega
    rw [eB] at rowF
    refine ⟨x, rr, rowF, fun D τ l Q E mo q => ?_, fun D τ l Q E hz hr q => ?_⟩
    · rw [Rs_eq]
      have e9 : τ.1 9 1 = nI ns := E.1.2.1.2.2.1
      simp only [E_H_sieges, fIsA, fRt, fLen, fLit, fBool]
      refine ⟨fun w => absurd w (nI_nlt (by omega) (by omega)), fun _ => ?_⟩
      refine s_drawnBehind ?_
      simp only [oT, E_H_sieges, fIsA, fRt, fLen, fLit, fBool, e9]
      refine s_drawOf h1 (by omega) ?_
      simp only [oT, E_H_sieges, fIsA, fRt, fLen, fLit, fBool]
      refine s_drawnBehind ?_
      simp only [oT, E_H_sieges, fIsA, fRt, fLen, fLit, fBool]
      refine s_drawOf (n := 4) (by omega) (by omega) ?_
      simp only [oT, E_H_sieges, fIsA, fRt, fLen, fLit, fBool]
      refine hc2 D τ _ E mo (fun τ1 f1 s1 mo1 a1 a2 => ?_)
      have E1 := E.fr f1 rfl s1
      have go3 : i % 3 ≠ 0 → ∀ l', Rs M_H_sieges (D + 60) Q 46 [some (.ref 0), some (.int seed), some (.int (nI k)), some (.int a'), some (.int (drN (drN z))), some (.int (nI (i + 1))), l'] [] τ1 := fun w l' => by
        have := h3b w
        subst this
        refine ic D τ1 l' Q E1 (mo1.more (by omega) h8) (fun τ' z' l'' f s mo' => ?_)
        rw [eB] at mo'
        exact q τ' z' l'' (f1.tr f) (s.trans s1) mo'
      have e0 : τ1.1 0 9 = nI e := E1.2.1.2.2.2.2.1
      have go0 : i % 3 = 0 → ∀ τ2 l', Fr [9] [] τ1 τ2 → τ2.1 9 1 = τ1.1 9 1 → MoI τ2 9 ns (R * C) (B + 9 + 1) kd (hgR (nI e) r2) → Rs M_H_sieges (D + 60) Q 46 [some (.ref 0), some (.int seed), some (.int (nI k)), some (.int a'), some (.int (drN (drN z))), some (.int (nI (i + 1))), l'] [] τ2 := fun w τ2 l' f2 s2 mo2 => by
        have f12 : Fr [9, 10, 55] [(53, 3)] τ τ2 := f1.tr (f2.wk rfl)
        refine ic D τ2 l' Q (E.fr f12 rfl (s2.trans s1)) (by rw [h3a w]; exact mo2.more (by omega) h8) (fun τ' z' l'' f s mo' => ?_)
        rw [eB] at mo'
        exact q τ' z' l'' (f12.tr f) (s.trans (s2.trans s1)) mo'
      simp only [oT, E_H_sieges, fIsA, fRt, fLen, fLit, fBool, ei, nI_1, e0]
      refine ⟨fun w => ?_, fun w => ?_⟩
      · rw [← a1 w]
        refine ⟨by decide, fun w3 => go3 (fun z => w3 (by rw [z]; rfl)) _, fun w3 => ?_⟩
        refine s_letHour mo1 h8 (fun τ2 f2 s2 mo2 => ?_)
        simp only [oN, E_H_sieges, fIsA, fRt, fLen, fLit, fBool, nI_1]
        exact go0 ((nI_eq (b := 0) (by omega) (by omega)).mp w3) τ2 _ f2 s2 mo2
      · rw [← a2 w]
        refine ⟨by decide, fun w3 => go3 (fun z => w3 (by rw [z]; rfl)) _, fun w3 => ?_⟩
        refine s_letHour mo1 h8 (fun τ2 f2 s2 mo2 => ?_)
        simp only [oN, E_H_sieges, fIsA, fRt, fLen, fLit, fBool, nI_1]
        exact go0 ((nI_eq (b := 0) (by omega) (by omega)).mp w3) τ2 _ f2 s2 mo2
    · rw [Rs_eq]
      have e5 : τ.1 69 5 = nI ns := E.1.2.1.2.1
      simp only [E_M_sieges, fIsA, fRt, fLen, fLit, fBool, e5]
      refine ⟨fun w => absurd w (nI_nlt (by omega) (by omega)), fun _ => ?_⟩
      refine s_Mdraws h1 (by omega) ?_
      rw [hz]
      simp only [oT, E_M_sieges, fIsA, fRt, fLen, fLit, fBool]
      refine s_Mdraws (n := 4) (by omega) (by omega) ?_
      simp only [oT, E_M_sieges, fIsA, fRt, fLen, fLit, fBool, sI_1, reduceIte, Nat.reduceEqDiff]
      generalize hτ1 : sI (sI τ 69 49 (drN z)) 69 49 (drN (drN z)) = τ1
      have f1 : Fr [] [(69, 49)] τ τ1 := by rw [← hτ1]; exact (Fr.rf.i rfl).i rfl
      have E1 := E.fr f1 rfl (f1.c1 9 rfl 1)
      have z1 : τ1.1 69 49 = drN (drN z) := by rw [← hτ1]; rfl
      refine hm2 D τ1 _ E1 (fun j hj => (f1.c1 76 rfl j).trans (hr j hj)) (fun τ2 f2 r22 a1 a2 => ?_)
      have f12 : Fr [76, 82, 83] [(69, 49)] τ τ2 := (f1.wk rfl).tr (f2.wk rfl)
      have E2 := E.fr f12 rfl (f12.c1 9 rfl 1)
      have z2 : τ2.1 69 49 = drN (drN z) := (f2.u1 69 49 rfl).trans z1
      have go3 : i % 3 ≠ 0 → ∀ l', Rs M_M_sieges (D + 60) Q 43 [some (.ref 69), some (.int seed), some (.int (nI k)), some (.int a'), some (.int (nI (i + 1))), l'] [] τ2 := fun w l' => by
        refine im D τ2 l' Q E2 z2 (by rw [h3b w]; exact r22) (fun τ' l'' f r' => q τ' l'' (f12.tr f) r')
      have go0 : i % 3 = 0 → ∀ τ3 l', Fr [76] [] τ2 τ3 → (∀ j, j < 50 → τ3.1 76 j = hgR (nI e) r2 j) → Rs M_M_sieges (D + 60) Q 43 [some (.ref 69), some (.int seed), some (.int (nI k)), some (.int a'), some (.int (nI (i + 1))), l'] [] τ3 := fun w τ3 l' f3 r33 => by
        have f13 : Fr [76, 82, 83] [(69, 49)] τ τ3 := f12.tr (f3.wk rfl)
        refine im D τ3 l' Q (E.fr f13 rfl (f13.c1 9 rfl 1)) ((f3.u1 69 49 rfl).trans z2) (by rw [h3a w]; exact r33) (fun τ' l'' f r' => q τ' l'' (f13.tr f) r')
      have e74 : τ2.1 74 1 = nI e := E2.2.1.2.2.2.2.2
      simp only [oT, E_M_sieges, fIsA, fRt, fLen, fLit, fBool, ei, nI_1]
      refine ⟨fun w => ?_, fun w => ?_⟩
      · refine s_flag (Or.inl rfl) ?_
        simp only [oT, E_M_sieges, fIsA, fRt, fLen, fLit, fBool, ei, nI_1, Int32.add_zero]
        rw [← a1 w]
        refine ⟨by decide, fun w3 => go3 (fun z => w3 (by rw [z]; rfl)) _, fun w3 => ?_⟩
        refine s_hourGoesT r22 e74 (fun τ3 f3 r33 => ?_)
        simp only [oN, E_M_sieges, fIsA, fRt, fLen, fLit, fBool, nI_1]
        exact go0 ((nI_eq (b := 0) (by omega) (by omega)).mp w3) τ3 _ f3 r33
      · refine s_flag (Or.inr rfl) ?_
        simp only [oT, E_M_sieges, fIsA, fRt, fLen, fLit, fBool, ei, nI_1]
        rw [← a2 w]
        refine ⟨by decide, fun w3 => go3 (fun z => w3 (by rw [z]; rfl)) _, fun w3 => ?_⟩
        refine s_hourGoesT r22 e74 (fun τ3 f3 r33 => ?_)
        simp only [oN, E_M_sieges, fIsA, fRt, fLen, fLit, fBool, nI_1]
        exact go0 ((nI_eq (b := 0) (by omega) (by omega)).mp w3) τ3 _ f3 r33
theorem p_sieges (t : Nat) (x v : Int32) : PrI t m_H_sieges m_M_sieges [.int x, .int v] := by
  intro ht0 τ h
  obtain ⟨R, C, kd, ht, ns, n, hA, hT, hR⟩ := h
  have ⟨a, b, c, d, e, f, g, i, j⟩ := hA
  have hn := b.1
  have e91 : τ.1 9 1 = nI ns := b.2.2.1
  obtain ⟨o, ee, m, E⟩ := hA.env
  rw [N_H_sieges]
  simp only [E_H_sieges, fIsA, fRt, fLen, fLit, fBool, e91]
  have e5 : (sI τ 69 0 0).1 69 5 = nI ns := b.2.1
  have fin := fun (x : Int32) => ok (x := x) rfl (hA.inv3 hT hR (fr690 (v := 0)) rfl)
  refine ⟨fun q => ?_, fun q => ?_⟩
  · have h1 : 1 ≤ ns := (nI_leI (a := 1) (by omega) (by omega)).mp q
    have nn : ¬ nI ns = 0 := fun w => by have := (nI_eq (b := 0) (by omega) (by omega)).mp w; omega
    have no : ¬ (1 ≤ v ∧ v ≤ nI 99) → Cl 900 m_M_sieges [Value.ref 69, Value.int x, Value.int v] τ fun b τ2 => (∃ x, some (Value.int (-1)) = some (Value.int x) ∧ b = some (Value.int x)) ∧ Inv (t + 1) τ2 := fun w => by
      rw [N_M_sieges]
      simp only [E_M_sieges, fIsA, fRt, fLen, fLit, fBool, e5]
      refine ⟨fun _ => ?_, fun w => absurd w nn⟩
      refine s_inI 1 rfl (nI 99) rfl (fun c1 c2 => absurd ⟨c1, c2⟩ w) (fun _ => ?_)
      simp only [oT, E_M_sieges, fIsA, fRt, fLen, fLit, fBool]
      exact fin (-1)
    refine ⟨fun z => no (fun w => nlt w.1 z), fun z => ⟨fun z2 => ?_, fun z2 => no (fun w => z2 w.2)⟩⟩
    obtain ⟨k, hk, rfl⟩ := of0 (n := 99) (Int32.le_trans (by decide) (Int32.not_lt.mp z)) z2 (by omega)
    refine s_copy (a := 11) (b := 9) (by decide) (by decide) (by omega) (fun τ1 f1 m1 => ?_)
    simp only [oN, E_H_sieges, fIsA, fRt, fLen, fLit, fBool]
    have E1 : EnvI R C kd ht ns o ee m (τ.1 73) (τ.1 80) τ1 := E.fr f1 rfl (f1.c1 9 rfl 1)
    have mo1 : MoI τ1 9 ns (R * C) (300 * t) kd (τ.1 75) := c.same (fun j => f1.c1 9 rfl j) (fun j => f1.c2 9 rfl j) (fun j => f1.c1 10 rfl j) (fun _ _ => rfl) (Nat.le_refl _) hn
    obtain ⟨y, rr, rowF, ic, im⟩ := sieges_loop (e := ee) (m := m) (o := o) (ht := ht) (W := τ.1 73) (S := τ.1 80) (kd := kd) a.n36.1 hn h1 E.2.1.1 hk (seed := x) k 1 (by omega) (by omega) 0 x (τ.1 75) (300 * t) (by omega) c.row
    refine ic 839 τ1 _ _ E1 mo1 (fun τ2 z' l' f2 s2 mo2 => ?_)
    rw [Rs_eq]
    have f12 : Fr [9, 10, 11, 12, 55] [(53, 3)] τ τ2 := (f1.wk rfl).tr (f2.wk rfl)
    have E2 : EnvI R C kd ht ns o ee m (τ.1 73) (τ.1 80) τ2 := E.fr f12 rfl (s2.trans (f1.c1 9 rfl 1))
    have l8 : τ2.1 9 8 = rr 49 := mo2.2.1.2.2.2.2.2
    have l11 : τ2.1 11 8 = τ.1 75 49 := by rw [f2.c1 11 rfl, m1.1.2.2.2.2.2.2.2]; exact c.2.1.2.2.2.2.2
    simp only [E_H_sieges, fIsA, fRt, fLen, fLit, fBool]
    refine ⟨fun _ => ?_, fun w => absurd (nI_lt (Nat.lt_succ_self k) (by omega)) w⟩
    refine s_shipsOverR E2.1.1 E2.1.2.1 mo2 ?_
    simp only [oT, E_H_sieges, fIsA, fRt, fLen, fLit, fBool]
    refine s_bitsI ?_
    simp only [oT, E_H_sieges, fIsA, fRt, fLen, fLit, fBool, l8, l11]
    generalize hV : (bI (fb (ovR kd rr) ns 0 0)).toInt64 = V
    generalize hW : (rr 49 - τ.1 75 49).toInt64 = W
    refine s_RowBoth ?_
    simp only [oN, E_H_sieges, fIsA, fRt, fLen, fLit, fBool]
    generalize hτ3 : sI (sL (sI (sL (sI τ2 3 1 0) 4 0 V) 3 1 1) 4 1 W) 3 1 2 = τ3
    have f3 : Fr [4] [(3, 1)] τ2 τ3 := by rw [← hτ3]; exact ((((Fr.rf.i rfl).lc rfl).i rfl).lc rfl).i rfl
    refine s_copy (a := 9) (b := 11) (by decide) (by decide) (by omega) (fun τ4 f4 m4 => ?_)
    simp only [oN, E_H_sieges, fIsA, fRt, fLen, fLit, fBool]
    have f14 : Fr [4, 9, 10, 11, 12, 55] [(3, 1), (53, 3)] τ τ4 := (f12.wk rfl).tr ((f3.wk rfl).tr (f4.wk rfl))
    have m9 : MoE 9 9 τ τ4 := by
      have m11 : MoE 11 9 τ τ3 := m1.fr (fun j => by rw [f3.c1 11 rfl, f2.c1 11 rfl]) (fun j => by rw [f3.c2 11 rfl, f2.c2 11 rfl]) (fun j => by rw [f3.c1 12 rfl, f2.c1 12 rfl])
      exact m4.trans m11
    have s4 : τ4.1 9 1 = τ.1 9 1 := m9.1.1
    have E4 : EnvI R C kd ht ns o ee m (τ.1 73) (τ.1 80) τ4 := E.fr f14 rfl s4
    rw [N_M_sieges]
    have e54 : (sI τ4 69 0 0).1 69 5 = nI ns := E4.1.2.1.2.1
    simp only [E_M_sieges, fIsA, fRt, fLen, fLit, fBool, e54]
    refine ⟨fun _ => ?_, fun w => absurd w nn⟩
    refine s_inI 1 rfl (nI 99) rfl (fun _ _ => ?_) (fun w => absurd ⟨Int32.not_lt.mp z, z2⟩ w)
    simp only [oT, E_M_sieges, fIsA, fRt, fLen, fLit, fBool]
    refine s_Mputs (fun τ6 f6 r6 => ?_)
    have f46 : Fr [76] [(69, 0), (69, 49)] τ4 τ6 := ((Fr.rf.i rfl).i rfl).tr (f6.wk rfl)
    have E6 : EnvI R C kd ht ns o ee m (τ.1 73) (τ.1 80) τ6 := E4.fr f46 rfl (f46.c1 9 rfl 1)
    have r75 : ∀ j, τ4.1 75 j = τ.1 75 j := fun j => f14.c1 75 rfl j
    have z6 : τ6.1 69 49 = x := by rw [f6.u1 69 49 rfl]; rfl
    simp only [oN, E_M_sieges, fIsA, fRt, fLen, fLit, fBool]
    refine im 839 τ6 _ _ E6 z6 (fun j hj => (r6 j hj).trans (r75 j)) (fun τ7 l'' f7 r7 => ?_)
    rw [Rs_eq]
    have E7 : EnvI R C kd ht ns o ee m (τ.1 73) (τ.1 80) τ7 := E6.fr f7 rfl (f7.c1 9 rfl 1)
    simp only [E_M_sieges, fIsA, fRt, fLen, fLit, fBool]
    refine ⟨fun _ => ?_, fun w => absurd (nI_lt (Nat.lt_succ_self k) (by omega)) w⟩
    have fe : Fr [] [(69, 1)] τ7 (sI τ7 69 1 0) := Fr.rf.i rfl
    have E8 := E7.fr fe rfl rfl
    refine s_MinHarbourT E8.1.1 E8.1.2.1 rowF r7 ?_
    simp only [oT, E_M_sieges, fIsA, fRt, fLen, fLit, fBool]
    refine s_bitsI ?_
    simp only [oT, E_M_sieges, fIsA, fRt, fLen, fLit, fBool, hV]
    refine s_Menters (n := 0) rfl (by omega) ?_
    have r757 : τ7.1 75 49 = τ.1 75 49 := by rw [f7.c1 75 rfl, f6.c1 75 rfl]; exact r75 49
    simp only [oN, E_M_sieges, fIsA, fRt, fLen, fLit, fBool, fIx, sI_1, sL_1, reduceIte, Nat.reduceEqDiff, r7 49 (by omega), r757, hW]
    refine s_Menters (n := 1) rfl (by omega) ?_
    simp only [oN, E_M_sieges, fIsA, fRt, fLen, fLit, fBool]
    refine ok rfl ?_
    generalize hτ9 : sI (sL (sI (sL (sI τ7 69 1 0) 70 0 V) 69 1 (nI (0 + 1))) 70 1 W) 69 1 (nI (1 + 1)) = τ9
    have f79 : Fr [70] [(69, 1)] τ7 τ9 := by rw [← hτ9]; exact ((((Fr.rf.i rfl).lc rfl).i rfl).lc rfl).i rfl
    have f49 : Fr [70, 76, 82, 83] [(69, 0), (69, 1), (69, 49)] τ4 τ9 := (f46.wk rfl).tr ((f7.wk rfl).tr (f79.wk rfl))
    have F : Fr [4, 9, 10, 11, 12, 55, 70, 76, 82, 83] [(3, 1), (53, 3), (69, 0), (69, 1), (69, 49)] τ τ9 := (f14.wk rfl).tr (f49.wk rfl)
    have b' : ShI τ9 ns := by
      refine ⟨hn, by rw [F.u1 69 5 rfl]; exact b.2.1, ?_, fun s hs => ?_⟩
      · rw [f49.c1 9 rfl, s4]; exact e91
      · rw [F.c1 52 rfl, F.c1 73 rfl]; exact b.2.2.2 s hs
    have m99 : MoE 9 9 τ τ9 := m9.fr (fun j => f49.c1 9 rfl j) (fun j => f49.c2 9 rfl j) (fun j => f49.c1 10 rfl j)
    have c' : MoI τ9 9 ns (R * C) (300 * (t + 1)) kd (τ9.1 75) := c.to m99 (fun j _ => F.c1 75 rfl j) (by omega) hn
    have hrow : RoI τ9 := by
      refine RoI.two (v := V) (w := W) ?_ ?_ ?_ ?_ ?_ ?_
      · rw [f49.u1 3 1 rfl, f4.u1 3 1 rfl, ← hτ3]; rfl
      · rw [← hτ9]; rfl
      · rw [f49.c2 4 rfl, f4.c2 4 rfl, ← hτ3]; rfl
      · rw [← hτ9]; rfl
      · rw [f49.c2 4 rfl, f4.c2 4 rfl, ← hτ3]; rfl
      · rw [← hτ9]; rfl
    exact ⟨R, C, kd, ht, ns, n, ⟨a.fr F rfl, b', c', d.fr F rfl (by omega) hn, e.fr F rfl (by omega) (by omega) hn, f.fr F rfl, g.fr F rfl, i.fr F rfl, j.fr F rfl⟩, hT.fr F rfl, hrow⟩
  · have h0 : ns = 0 := by
      have : ¬ 1 ≤ ns := fun w => q (nI_le (a := 1) w (by omega))
      omega
    rw [N_M_sieges]
    simp only [E_M_sieges, fIsA, fRt, fLen, fLit, fBool, e5]
    exact ⟨fun w => absurd (by rw [h0]; rfl) w, fun _ => fin (-2)⟩
