/-! THE SAME over the row `then` (76); ships over by a row -/
theorem s_MpullOfT {d m i f1 f2 : Nat} {kd ht : Nat → Nat} {R C : Nat} {Q : Qt} {τ : St} {S : Nat → Int32} {w p h : Int32} (g : GI τ R C kd ht) (hf1 : f1 < R * C) (hf2 : f2 < R * C) (hi : i < 2 ^ 31) (hp : τ.1 76 f2 = p) (hg : p = 0 ∨ p = 1) (hm : m ≤ 80) (h1 : τ.1 69 24 = nI m) (h2 : ∀ j, j < m → τ.1 80 j = S j) (hcd : 0 < m → ∀ i, i < m → S i < 1005 ∨ 2000 ≤ S i) (hok : 0 < m → okR (fun i => kdM (S i)) m 0 0)
    (hQ : ∀ v τ', (m = 0 → v = bas (aq w (if 0 < nI (ht f2) - nI (ht f1) then nI (ht f2) - nI (ht f1) else 0) (if 0 < nI (ht f1) - nI (ht f2) then nI (ht f1) - nI (ht f2) else 0) p h)) → (0 < m → runM S (aq w (if 0 < nI (ht f2) - nI (ht f1) then nI (ht f2) - nI (ht f1) else 0) (if 0 < nI (ht f1) - nI (ht f2) then nI (ht f1) - nI (ht f2) else 0) p h) m 0 [] = [v]) → Fr [82, 83] [] τ τ' → Q (some (.int (if i % 4 = 3 then clp v + clp v / 2 else clp v))) τ') :
    Cl (d + 4) m_M_pullOf [.ref 69, .ref 76, .int w, .int (nI f1), .int (nI f2), .int (nI i), .int h] τ Q := by
  have hn := g.n36
  have e4 : nI i - nI i / 4 * 4 = nI (i % 4) := pk_rem (d := 4) hi (by omega) (by omega)
  rw [N_M_pullOf]
  simp only [E_M_pullOf, fIsA, fRt, fLen, fLit, fBool, fIx, nI_clamp (show f1 < 2 ^ 31 by omega), nI_clamp (show f2 < 2 ^ 31 by omega), (g.2.2.1 f1 hf1).2.2.1, (g.2.2.1 f2 hf2).2.2.1, sI_1, reduceIte, Nat.reduceEqDiff, hp]
  have fr : Fr [82, 83] [] τ (sI (sI (sI (sI (sI τ 83 0 w) 83 1 (if 0 < nI (ht f2) - nI (ht f1) then nI (ht f2) - nI (ht f1) else 0)) 83 2 (if 0 < nI (ht f1) - nI (ht f2) then nI (ht f1) - nI (ht f2) else 0)) 83 3 p) 83 4 h) := ((((Fr.rf.ic rfl).ic rfl).ic rfl).ic rfl).ic rfl
  refine ⟨vp_in_nI (by omega) (by omega), vp_in_nI (by omega) (by omega), vp_in_nI (by omega) (by omega), vp_in_nI (by omega) (by omega), vp_in_nI (by omega) (by omega), ?_⟩
  generalize hU : (if 0 < nI (ht f2) - nI (ht f1) then nI (ht f2) - nI (ht f1) else 0) = U at hQ fr ⊢
  generalize hV : (if 0 < nI (ht f1) - nI (ht f2) then nI (ht f1) - nI (ht f2) else 0) = V at hQ fr ⊢
  refine s_ruled (m := m) (S := S) (a := aq w U V p h) hm ((fr.u1 69 24 rfl).trans h1) (fun j hj => (fr.c1 80 rfl j).trans (h2 j hj)) (fun k hk => ?_) hg hcd hok (fun v τ' b1 b2 f => ?_)
  · rcases (show k = 0 ∨ k = 1 ∨ k = 2 ∨ k = 3 ∨ k = 4 by omega) with rfl | rfl | rfl | rfl | rfl <;> simp only [sI_1, reduceIte, Nat.reduceEqDiff, aq]
  · have q := hQ v τ' b1 b2 (fr.tr (f.wk rfl))
    simp only [oT, E_M_pullOf, fIsA, fRt, fLen, fLit, fBool, e4]
    refine ⟨by decide, fun z => ?_, fun z => ⟨by decide, ?_⟩⟩
    · rw [if_neg (fun w => z (by rw [w]; rfl))] at q
      rw [Int32.add_zero]
      exact q
    · rw [if_pos ((nI_eq (b := 3) (by omega) (by omega)).mp z)] at q
      exact q
theorem s_MgoalOfT {d R C ns s h f : Nat} {kd ht : Nat → Nat} {Q : Qt} {τ : St} (g : GI τ R C kd ht) (sh : ShI τ ns) (hs : s < ns) (hh : h < 4) (hf : f < R * C) (hp : τ.1 76 (36 + s) = nI f) (hQ : Q (some (.int (oI (gl kd R C ns (τ.1 76) f h)))) τ) : Cl (d + 3) m_M_goalOf [.ref 69, .ref 76, .int (nI s), .int (nI h)] τ Q := by
  have hn := g.n36
  have h8 := sh.1
  have e36 : (36 : Int32) + nI s = nI (36 + s) := nI_add 36 s
  rw [N_M_goalOf]
  simp only [E_M_goalOf, fIsA, fRt, fLen, fLit, fBool, e36, nI_clamp (show 36 + s < 2 ^ 31 by omega), hp]
  refine ⟨vp_in_nI (by omega) (by omega), s_Mbeside g hf hh ?_⟩
  simp only [oT, E_M_goalOf, fIsA, fRt, fLen, fLit, fBool]
  unfold gl nk at hQ
  cases hnb : nb R C f h with
  | none =>
    rw [hnb] at hQ
    exact ⟨fun _ => hQ, fun z => absurd (show (-1 : Int32) < 0 by decide) z⟩
  | some q =>
    rw [hnb] at hQ
    have hq := nb_lt hf hh hnb
    have hQ : Q (some (.int (oI (match (if kd q = 3 then none else some q : Option Nat) with
      | some g => if kd g = 0 ∧ ¬ occ (τ.1 76) ns (nI g) = 0 then none else some g
      | none => none)))) τ := hQ
    have k3 := g.2.2.1 q hq
    have k4 := k3.1.1
    rw [show oI (some q) = nI q from rfl, nI_clamp (show q < 2 ^ 31 by omega), k3.2.1]
    refine ⟨fun z => absurd z (nI_pos (by omega)), fun _ => ⟨vp_in_nI (by omega) (by omega), fun z => ?_, fun z => ⟨vp_in_nI (by omega) (by omega), fun z0 => ?_, fun z0 => ?_⟩⟩⟩
    · rw [if_pos ((nI_eq (b := 3) (by omega) (by omega)).mp z)] at hQ
      exact hQ
    · rw [if_neg (fun w => z (by rw [w]; rfl))] at hQ
      have hQ : Q (some (.int (oI (if kd q = 0 ∧ ¬ occ (τ.1 76) ns (nI q) = 0 then none else some q)))) τ := hQ
      rw [if_neg (fun w => z0 (by rw [w.1]; rfl))] at hQ
      exact hQ
    · rw [if_neg (fun w => z (by rw [w]; rfl))] at hQ
      have hQ : Q (some (.int (oI (if kd q = 0 ∧ ¬ occ (τ.1 76) ns (nI q) = 0 then none else some q)))) τ := hQ
      have kz := (nI_eq (b := 0) (by omega) (by omega)).mp z0
      refine s_MshipsAt (Or.inr rfl) sh ?_
      rw [show fb (onM τ 76 (nI q)) ns 0 0 = occ (τ.1 76) ns (nI q) from rfl]
      simp only [oT, E_M_goalOf, fIsA, fRt, fLen, fLit, fBool]
      refine ⟨fun w => ?_, fun w => ?_⟩
      · rw [if_pos ⟨kz, w⟩] at hQ; exact hQ
      · rw [if_neg (fun v => v.2 w)] at hQ; exact hQ
theorem s_MpullByT {d R C ns o e m s f q i B : Nat} {kd ht : Nat → Nat} {W S r : Nat → Int32} {Q : Qt} {τ : St} (E : EnvI R C kd ht ns o e m W S τ) (row : RowG ns (R * C) B kd r) (hr : ∀ j, j < 50 → τ.1 76 j = r j) (hs : s < ns) (hf : f < R * C) (hq : q < R * C) (hp : r (36 + s) = nI f) (hi : r 46 = nI i) (hi2 : i < 2 ^ 30)
    (hQ : ∀ τ', Fr [82, 83] [] τ τ' → Q (some (.int (pvR ht m S (W s) r i f q))) τ') : Cl (d + 5) m_M_pullBy [.ref 69, .ref 76, .int (nI s), .int (nI q)] τ Q := by
  obtain ⟨⟨g, sh, ru⟩, ⟨o1, e1, f1, f2, f3, f4⟩, wW, sS, lm, m80⟩ := E
  obtain ⟨n', m', j1, j2, j3, j4, j5, j6⟩ := ru
  have hn := g.n36
  have h8 := sh.1
  have em : m' = m := (nI_eq (by omega) (by omega)).mp (j4.symm.trans lm)
  subst em
  have e36 : (36 : Int32) + nI s = nI (36 + s) := nI_add 36 s
  rw [N_M_pullBy]
  simp only [E_M_pullBy, fIsA, fRt, fLen, fLit, fBool, fIx, e36, nI_clamp (show 36 + s < 2 ^ 31 by omega), nI_clamp (show s < 2 ^ 31 by omega), hr (36 + s) (by omega), hr 46 (by omega), hr 47 (by omega), hp, hi, wW]
  refine ⟨vp_in_nI (by omega) (by omega), vp_in_nI (by omega) (by omega), ?_⟩
  have pos : 0 < m' → 0 < n' := fun w => by
    have := fun z => Nat.ne_of_gt w (j5.mp z)
    omega
  refine s_MpullOfT (m := m') (S := S) (p := r q) g hf hq (by omega) (hr q (by omega)) (row.2.1 q (by omega)) m80 lm (fun j _ => by rw [sS]) (fun w j hj => by rw [← sS]; exact (j6 (pos w)).1 j hj) (fun w => by rw [← sS]; exact (j6 (pos w)).2.2.1) (fun v τ' b1 b2 fr => ?_)
  simp only [oT, E_M_pullBy, fIsA, fRt, fLen, fLit, fBool]
  have hv : v = vR m' S (aq (W s) (if 0 < nI (ht q) - nI (ht f) then nI (ht q) - nI (ht f) else 0) (if 0 < nI (ht f) - nI (ht q) then nI (ht f) - nI (ht q) else 0) (r q) (r 47)) := by
    unfold vR
    by_cases c : m' = 0
    · rw [if_pos c]; exact b1 c
    · rw [if_neg c, b2 (by omega)]; rfl
  have h2 := hQ τ' fr
  unfold pvR at h2
  rw [← hv] at h2
  exact h2
theorem s_MdragsT {d R C ns o e m s h f i B u : Nat} {kd ht : Nat → Nat} {W S r : Nat → Int32} {Q : Qt} {τ : St} (E : EnvI R C kd ht ns o e m W S τ) (row : RowG ns (R * C) B kd r) (hr : ∀ j, j < 50 → τ.1 76 j = r j) (hs : s < ns) (hh : h < 4) (hf : f < R * C) (hp : r (36 + s) = nI f) (hi : r 46 = nI i) (hi2 : i < 2 ^ 30) (hu : r 45 = nI u) (hu2 : u ≤ 999)
    (hgl : gl kd R C ns (τ.1 76) f h = gl kd R C ns r f h)
    (hno : gl kd R C ns r f h = none → Q (some (.int (-2))) τ) (h3 : ∀ q, gl kd R C ns r f h = some q → bt (r 44) s = true → Q (some (.int (-3))) τ)
    (h4 : ∀ q k, gl kd R C ns r f h = some q → pvR ht m S (W s) r i f q = nI k → k ≤ 1498 → bt (r 44) s = false → o < u + k → ∀ τ', Fr [82, 83] [] τ τ' → Q (some (.int (-4))) τ')
    (yes : ∀ q k, gl kd R C ns r f h = some q → pvR ht m S (W s) r i f q = nI k → k ≤ 1498 → bt (r 44) s = false → u + k ≤ o → ∀ τ', Fr [76, 82, 83] [] τ τ' → (∀ j, j < 50 → τ'.1 76 j = dgR s q i (nI k) r j) → Q (some (.int (nI (o - (u + k))))) τ') : Cl (d + 6) m_M_drags [.ref 69, .ref 76, .int (nI s), .int (nI h)] τ Q := by
  have sh := E.1.2.1
  have h8 := sh.1
  have hn := E.1.1.n36
  rw [N_M_drags]
  simp only [E_M_drags, fIsA, fRt, fLen, fLit, fBool]
  refine s_MisShip sh (fun k hk ek => ?_) (fun z => absurd ⟨nI_pos' (by omega), nI_lt hs (by omega)⟩ z)
  simp only [oT, E_M_drags, fIsA, fRt, fLen, fLit, fBool]
  refine s_inI 0 rfl (nI 3) rfl (fun _ _ => ?_) (fun z => absurd ⟨nI_pos' (by omega), nI_le (show h ≤ 3 by omega) (by omega)⟩ z)
  simp only [oT, E_M_drags, fIsA, fRt, fLen, fLit, fBool]
  refine s_MgoalOfT E.1.1 sh hs hh hf (by rw [hr _ (by omega)]; exact hp) ?_
  rw [hgl]
  simp only [oT, E_M_drags, fIsA, fRt, fLen, fLit, fBool]
  cases hg : gl kd R C ns r f h with
  | none => exact ⟨fun z => absurd z (by show ¬ (0 : Int32) ≤ -1; decide), fun _ => hno hg⟩
  | some q =>
    have hq := gl_lt hf hh hg
    rw [show oI (some q) = nI q from rfl]
    refine ⟨fun _ => ?_, fun z => absurd (nI_pos' (by omega)) z⟩
    simp only [fIx, hr 44 (by omega)]
    obtain ⟨k, hk, ek⟩ := pvR_nI ht m S (W s) r i f q
    refine ⟨trivial, s_Mhas (by omega) ?_⟩
    cases hb : bt (r 44) s with
    | true =>
      simp only [if_true, oT, E_M_drags, fIsA, fRt, fLen, fLit, fBool]
      exact h3 q hg hb
    | false =>
      simp only [Bool.false_eq_true, if_false, oT, E_M_drags, fIsA, fRt, fLen, fLit, fBool]
      refine s_MpullByT E row hr hs hf hq hp hi hi2 (fun τ1 f1 => ?_)
      have r1 : ∀ j, j < 50 → τ1.1 76 j = r j := fun j hj => by rw [f1.c1 76 rfl]; exact hr j hj
      have eo : τ1.1 74 0 = nI o := by rw [f1.c1 74 rfl]; exact E.2.1.2.2.2.1
      rw [ek]
      simp only [oT, E_M_drags, fIsA, fRt, fLen, fLit, fBool, fIx, eo, r1 45 (by omega), hu]
      have le : (nI k ≤ nI o - nI u) ↔ u + k ≤ o := by
        have := E.2.1.1
        rw [Int32.le_iff_toInt_le, pk_sub_toInt (by omega) (by omega), nI_toInt (by omega)]
        omega
      refine ⟨fun z => ?_, fun z => h4 q k hg ek hk hb (Nat.lt_of_not_le (fun w => z (le.mpr w))) τ1 f1⟩
      have z := le.mp z
      have e36 : (36 : Int32) + nI s = nI (36 + s) := nI_add 36 s
      simp only [sI_1, reduceIte, Nat.reduceEqDiff, r1 46 (by omega), r1 48 (by omega), hi]
      refine s_Mnoi (i := i) (by omega) ?_
      simp only [oT, E_M_drags, fIsA, fRt, fLen, fLit, fBool, fIx, sI_1, reduceIte, Nat.reduceEqDiff, r1 44 (by omega), e36, nI_clamp (show 36 + s < 2 ^ 31 by omega), nI_add]
      refine ⟨vp_in_nI (by omega) (by omega), ?_⟩
      have ex : (τ1.1 74 0 - if 45 = 36 + s then nI q else nI (u + k)) = nI (o - (u + k)) := by
        rw [eo, if_neg (by omega)]
        exact pk_sub z
      rw [ex]
      refine yes q k hg ek hk hb z _ (((((f1.wk rfl).ic rfl).ic rfl).ic rfl).ic rfl) (fun j hj => ?_)
      unfold dgR
      simp only [sI_1, reduceIte, hu, nI_add]
      by_cases c : j = 36 + s
      · rw [if_pos c, if_pos c]
      · rw [if_neg c, if_neg c]
        by_cases c1 : j = 44
        · rw [if_pos c1, if_pos c1]
        · rw [if_neg c1, if_neg c1]
          by_cases c2 : j = 45
          · rw [if_neg (by omega), if_pos c2, if_pos c2]
          · rw [if_neg c2, if_neg c2]
            by_cases c3 : j = 48
            · rw [if_pos c3, if_pos c3]
            · rw [if_neg c3, if_neg c3]; exact r1 j hj
section
variable {d R C ns n B : Nat} {kd ht : Nat → Nat} {Q : Qt} {τ : St} {r : Nat → Int32} {e : Int32}
theorem s_hourGoesT (hr : ∀ j, j < 50 → τ.1 76 j = r j) (he : τ.1 74 1 = e) (hQ : ∀ τ', Fr [76] [] τ τ' → (∀ j, j < 50 → τ'.1 76 j = hgR e r j) → Q none τ') : Cl (d + 2) m_M_hourGoes [.ref 69, .ref 76] τ Q := by
  rw [N_M_hourGoes]
  simp only [E_M_hourGoes, fIsA, fRt, fLen, fLit, fBool, fIx, he, hr 48 (by omega), hr 49 (by omega)]
  have go : ∀ x : Int32, (x = 0 ∨ x = 1) → r 49 + x = hgR e r 49 → Rs M_M_hourGoes (d + 1) Q 23 [some (Value.ref 69), some (Value.ref 76)] [Value.int x, Value.int (r 49), Value.int 49, Value.ref 76] τ := fun x hx ex => by
    rw [Rs_eq]
    simp only [E_M_hourGoes, fIsA, fRt, fLen, fLit, fBool, fIx]
    refine s_flag hx ?_
    simp only [oT, E_M_hourGoes, fIsA, fRt, fLen, fLit, fBool, fIx, sI_1, reduceIte, Nat.reduceEqDiff, hr 46 (by omega), hr 47 (by omega), ex]
    have fin : ∀ (τ' : St), Fr [76] [] τ τ' → (∀ j, j < 44 → τ'.1 76 j = τ.1 76 j) → τ'.1 76 44 = 0 → τ'.1 76 45 = 0 → τ'.1 76 48 = 0 → τ'.1 76 49 = hgR e r 49 → τ'.1 76 47 = hgR e r 47 → τ'.1 76 46 = hgR e r 46 → Q none τ' := fun τ' f lo a b c dd ee ff => by
      refine hQ τ' f (fun j hj => ?_)
      rcases (show j < 44 ∨ j = 44 ∨ j = 45 ∨ j = 46 ∨ j = 47 ∨ j = 48 ∨ j = 49 by omega) with q | rfl | rfl | rfl | rfl | rfl | rfl
      · rw [lo j q, hr j hj, hgL q]
      · rw [a, hg44]
      · rw [b, hg45]
      · exact ff
      · exact ee
      · rw [c, hg48]
      · exact dd
    have lt : ∀ (j : Nat), j < 44 → (sI (sI (sI (sI (sI τ 76 49 (hgR e r 49)) 76 45 0) 76 48 0) 76 44 0) 76 47 (r 47 + 1)).1 76 j = τ.1 76 j := fun j hj => by
      simp only [sI_1, reduceIte]
      rw [if_neg (by omega), if_neg (by omega), if_neg (by omega), if_neg (by omega), if_neg (by omega)]
    refine ⟨fun c => ?_, fun c => ?_⟩
    · exact fin _ (((((Fr.rf.ic rfl).ic rfl).ic rfl).ic rfl).ic rfl) lt rfl rfl rfl rfl (by rw [hg47, if_neg c]; rfl) (by show τ.1 76 46 = _; rw [hr 46 (by omega), hg46, if_neg c])
    · refine fin _ (((((((Fr.rf.ic rfl).ic rfl).ic rfl).ic rfl).ic rfl).ic rfl).ic rfl) (fun j hj => ?_) rfl rfl rfl rfl (by rw [hg47, if_pos c]; rfl) (by rw [hg46, if_pos c]; rfl)
      rw [← lt j hj]
      simp only [sI_1, reduceIte]
      rw [if_neg (by omega), if_neg (by omega)]
  refine ⟨fun c => go 0 (Or.inl rfl) ?_, fun c => go 1 (Or.inr rfl) ?_⟩
  · rw [hg49, if_neg (nlt c), Int32.add_zero]
  · rw [hg49, if_pos (Int32.not_le.mp c)]
def ovR (kd : Nat → Nat) (r : Nat → Int32) (s : Nat) : Prop := kd (r (36 + s)).toNatClampNeg = 2
theorem s_isOverR (g : GI τ R C kd ht) (sh : ShI τ ns) (m : MoI τ 9 ns (R * C) B kd r) {s : Nat} (hs : s < ns) (y : ovR kd r s → Q (some (.int 1)) τ) (no : ¬ ovR kd r s → Q (some (.int 0)) τ) : Cl (d + 3) m_H_isOver [.ref 0, .int (nI s)] τ Q := by
  have hn := g.n36
  have h8 := sh.1
  obtain ⟨e1, f, hf, hk, e2⟩ := m.1 s hs
  rw [N_H_isOver]
  simp only [E_H_isOver, fIsA, fRt, fLen, fLit, fBool]
  refine s_placeOf (by omega) ?_
  simp only [oT, E_H_isOver, fIsA, fRt, fLen, fLit, fBool]
  rw [show (10 : Nat) = 9 + 1 from rfl, e1, e2]
  refine s_Gkind g hf ?_
  simp only [oT, E_H_isOver, fIsA, fRt, fLen, fLit, fBool]
  have e3 : ovR kd r s ↔ kd f = 2 := by unfold ovR; rw [e2, nI_clamp (by omega)]
  have k3 := (g.2.2.1 f hf).1.1
  refine ⟨fun q => no (fun z => q (by rw [e3.mp z]; rfl)), fun q => y (e3.mpr ((nI_eq (b := 2) (by omega) (by omega)).mp q))⟩
theorem s_shipsOverR (g : GI τ R C kd ht) (sh : ShI τ ns) (mo : MoI τ 9 ns (R * C) B kd r) (hQ : Q (some (.int (fb (ovR kd r) ns 0 0))) τ) : Cl (d + 4) m_H_shipsOver [.ref 0] τ Q := by
  have hn := sh.1
  rw [N_H_shipsOver]
  simp only [E_H_shipsOver, fIsA, fRt, fLen, fLit, fBool]
  have loop : ∀ (m i : Nat) (a : Int32), i + m = ns → Q (some (.int (fb (ovR kd r) m i a))) τ → Rs M_H_shipsOver (d + 3) Q 4 [some (.ref 0), some (.int a), some (.int (nI i))] [] τ := by
    intro m
    induction m with
    | zero =>
      intro i a hi hq
      obtain rfl : i = ns := by omega
      rw [Rs_eq]
      simp only [E_H_shipsOver, fIsA, fRt, fLen, fLit, fBool, sh.2.2.1]
      exact ⟨fun _ => hq, fun q => absurd (Int32.le_refl _) q⟩
    | succ m ih =>
      intro i a hi hq
      rw [fb] at hq
      rw [Rs_eq]
      simp only [E_H_shipsOver, fIsA, fRt, fLen, fLit, fBool, sh.2.2.1]
      refine ⟨fun q => absurd q (nI_ge (by omega) (by omega)), fun _ => s_isOverR g sh mo (by omega) (fun q => ?_) (fun q => ?_)⟩
      · simp only [oT, E_H_shipsOver, fIsA, fRt, fLen, fLit, fBool, nI_1]
        rw [if_pos q] at hq; exact ih (i + 1) _ (by omega) hq
      · simp only [oT, E_H_shipsOver, fIsA, fRt, fLen, fLit, fBool, nI_1]
        rw [if_neg q] at hq; exact ih (i + 1) _ (by omega) hq
  exact loop ns 0 0 (by omega) hQ
theorem s_MinHarbourR (g : GI τ R C kd ht) (sh : ShI τ ns) (row : RowG ns (R * C) B kd r) (hr : ∀ j, j < 50 → τ.1 75 j = r j) (hQ : Q (some (.int (fb (ovR kd r) ns 0 0))) τ) : Cl (d + 1) m_M_inHarbour [.ref 69, .ref 75] τ Q := by
  have hn := sh.1
  have hn2 := g.n36
  rw [N_M_inHarbour]
  simp only [E_M_inHarbour, fIsA, fRt, fLen, fLit, fBool]
  have loop : ∀ (m i : Nat) (a : Int32), i + m = ns → Q (some (.int (fb (ovR kd r) m i a))) τ → Rs M_M_inHarbour d Q 4 [some (.ref 69), some (.ref 75), some (.int a), some (.int (nI i))] [] τ := by
    intro m
    induction m with
    | zero =>
      intro i a hi hq
      obtain rfl : i = ns := by omega
      rw [Rs_eq]
      simp only [E_M_inHarbour, fIsA, fRt, fLen, fLit, fBool, sh.2.1]
      exact ⟨fun _ => hq, fun q => absurd (Int32.le_refl _) q⟩
    | succ m ih =>
      intro i a hi hq
      obtain ⟨f, hf, hk, e1⟩ := row.1 i (by omega)
      have h8 := sh.1
      have e2 : τ.1 75 (36 + i) = nI f := (hr (36 + i) (by omega)).trans e1
      have e3 : ovR kd r i ↔ kd f = 2 := by unfold ovR; rw [e1, nI_clamp (by omega)]
      have k3 := (g.2.2.1 f hf)
      have e : (36 : Int32) + nI i = nI (36 + i) := nI_add 36 i
      rw [fb] at hq
      rw [Rs_eq]
      simp only [E_M_inHarbour, fIsA, fRt, fLen, fLit, fBool, sh.2.1, nI_1, e, nI_clamp (show 36 + i < 2 ^ 31 by omega), e2, nI_clamp (show f < 2 ^ 31 by omega), k3.2.1, Int32.or_zero]
      refine ⟨fun q => absurd q (nI_ge (by omega) (by omega)), fun _ => ⟨vp_in_nI (by omega) (by omega), vp_in_nI (by omega) (by omega), fun q => ?_, fun q => ?_⟩⟩
      · rw [if_neg (show ¬ ovR kd r i from fun z => q (by rw [e3.mp z]; rfl))] at hq; exact ih (i + 1) _ (by omega) hq
      · have k4 := k3.1.1
        rw [if_pos (e3.mpr ((nI_eq (b := 2) (by omega) (by omega)).mp q))] at hq; exact ih (i + 1) _ (by omega) hq
  exact loop ns 0 0 (by omega) hQ
theorem s_MinHarbourT (g : GI τ R C kd ht) (sh : ShI τ ns) (row : RowG ns (R * C) B kd r) (hr : ∀ j, j < 50 → τ.1 76 j = r j) (hQ : Q (some (.int (fb (ovR kd r) ns 0 0))) τ) : Cl (d + 1) m_M_inHarbour [.ref 69, .ref 76] τ Q := by
  have hn := sh.1
  have hn2 := g.n36
  rw [N_M_inHarbour]
  simp only [E_M_inHarbour, fIsA, fRt, fLen, fLit, fBool]
  have loop : ∀ (m i : Nat) (a : Int32), i + m = ns → Q (some (.int (fb (ovR kd r) m i a))) τ → Rs M_M_inHarbour d Q 4 [some (.ref 69), some (.ref 76), some (.int a), some (.int (nI i))] [] τ := by
    intro m
    induction m with
    | zero =>
      intro i a hi hq
      obtain rfl : i = ns := by omega
      rw [Rs_eq]
      simp only [E_M_inHarbour, fIsA, fRt, fLen, fLit, fBool, sh.2.1]
      exact ⟨fun _ => hq, fun q => absurd (Int32.le_refl _) q⟩
    | succ m ih =>
      intro i a hi hq
      obtain ⟨f, hf, hk, e1⟩ := row.1 i (by omega)
      have h8 := sh.1
      have e2 : τ.1 76 (36 + i) = nI f := (hr (36 + i) (by omega)).trans e1
      have e3 : ovR kd r i ↔ kd f = 2 := by unfold ovR; rw [e1, nI_clamp (by omega)]
      have k3 := (g.2.2.1 f hf)
      have e : (36 : Int32) + nI i = nI (36 + i) := nI_add 36 i
      rw [fb] at hq
      rw [Rs_eq]
      simp only [E_M_inHarbour, fIsA, fRt, fLen, fLit, fBool, sh.2.1, nI_1, e, nI_clamp (show 36 + i < 2 ^ 31 by omega), e2, nI_clamp (show f < 2 ^ 31 by omega), k3.2.1, Int32.or_zero]
      refine ⟨fun q => absurd q (nI_ge (by omega) (by omega)), fun _ => ⟨vp_in_nI (by omega) (by omega), vp_in_nI (by omega) (by omega), fun q => ?_, fun q => ?_⟩⟩
      · rw [if_neg (show ¬ ovR kd r i from fun z => q (by rw [e3.mp z]; rfl))] at hq; exact ih (i + 1) _ (by omega) hq
      · have k4 := k3.1.1
        rw [if_pos (e3.mpr ((nI_eq (b := 2) (by omega) (by omega)).mp q))] at hq; exact ih (i + 1) _ (by omega) hq
  exact loop ns 0 0 (by omega) hQ
theorem s_Mputs (hQ : ∀ τ', Fr [76] [] τ τ' → (∀ j, j < 50 → τ'.1 76 j = τ.1 75 j) → Q none τ') : Cl (d + 1) m_M_puts [.ref 69] τ Q := by
  rw [N_M_puts]
  simp only [E_M_puts, fIsA, fRt, fLen, fLit, fBool]
  have loop : ∀ (m i : Nat) (τ1 : St), i + m = 50 → Fr [76] [] τ τ1 → (∀ j, j < i → τ1.1 76 j = τ.1 75 j) → Rs M_M_puts d Q 2 [some (.ref 69), some (.int (nI i))] [] τ1 := by
    intro m
    induction m with
    | zero =>
      intro i τ1 hi f h
      obtain rfl : i = 50 := by omega
      rw [Rs_eq]
      simp only [E_M_puts, fIsA, fRt, fLen, fLit, fBool]
      exact ⟨fun _ => hQ τ1 f h, fun q => absurd (Int32.le_refl _) q⟩
    | succ m ih =>
      intro i τ1 hi f h
      rw [Rs_eq]
      simp only [E_M_puts, fIsA, fRt, fLen, fLit, fBool, nI_1, nI_clamp (show i < 2 ^ 31 by omega)]
      refine ⟨fun q => absurd q (nI_ge (b := 50) (by omega) (by omega)), fun _ => ⟨vp_in_nI (by omega) (by omega), vp_in_nI (by omega) (by omega), ?_⟩⟩
      refine ih (i + 1) _ (by omega) (f.ic rfl) (fun j hj => ?_)
      simp only [sI_1, reduceIte]
      by_cases c : j = i
      · subst c; rw [if_pos rfl]; exact f.c1 75 rfl j
      · rw [if_neg c]; exact h j (by omega)
  exact loop 50 0 τ (by omega) Fr.rf (fun j hj => absurd hj (Nat.not_lt_zero j))
end
