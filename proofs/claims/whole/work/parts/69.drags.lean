/-! DRAG as an act: the reference -/
theorem s_Mdrags {d R C ns o e m s h f i B u : Nat} {kd ht : Nat → Nat} {W S r : Nat → Int32} {Q : Qt} {τ : St} (E : EnvI R C kd ht ns o e m W S τ) (row : RowG ns (R * C) B kd r) (hr : ∀ j, j < 50 → τ.1 75 j = r j) (hs : s < ns) (hh : h < 4) (hf : f < R * C) (hp : r (36 + s) = nI f) (hi : r 46 = nI i) (hi2 : i < 2 ^ 30) (hu : r 45 = nI u) (hu2 : u ≤ 999)
    (hgl : gl kd R C ns (τ.1 75) f h = gl kd R C ns r f h)
    (hno : gl kd R C ns r f h = none → Q (some (.int (-2))) τ) (h3 : ∀ q, gl kd R C ns r f h = some q → bt (r 44) s = true → Q (some (.int (-3))) τ)
    (h4 : ∀ q k, gl kd R C ns r f h = some q → pvR ht m S (W s) r i f q = nI k → k ≤ 1498 → bt (r 44) s = false → o < u + k → ∀ τ', Fr [82, 83] [] τ τ' → Q (some (.int (-4))) τ')
    (yes : ∀ q k, gl kd R C ns r f h = some q → pvR ht m S (W s) r i f q = nI k → k ≤ 1498 → bt (r 44) s = false → u + k ≤ o → ∀ τ', Fr [75, 82, 83] [] τ τ' → (∀ j, j < 50 → τ'.1 75 j = dgR s q i (nI k) r j) → Q (some (.int (nI (o - (u + k))))) τ') : Cl (d + 6) m_M_drags [.ref 69, .ref 75, .int (nI s), .int (nI h)] τ Q := by
  have sh := E.1.2.1
  have h8 := sh.1
  have hn := E.1.1.n36
  rw [N_M_drags]
  simp only [E_M_drags, fIsA, fRt, fLen, fLit, fBool]
  refine s_MisShip sh (fun k hk ek => ?_) (fun z => absurd ⟨nI_pos' (by omega), nI_lt hs (by omega)⟩ z)
  simp only [oT, E_M_drags, fIsA, fRt, fLen, fLit, fBool]
  refine s_inI 0 rfl (nI 3) rfl (fun _ _ => ?_) (fun z => absurd ⟨nI_pos' (by omega), nI_le (show h ≤ 3 by omega) (by omega)⟩ z)
  simp only [oT, E_M_drags, fIsA, fRt, fLen, fLit, fBool]
  refine s_MgoalOf E.1.1 sh hs hh hf (by rw [hr _ (by omega)]; exact hp) ?_
  rw [hgl]
  simp only [oT, E_M_drags, fIsA, fRt, fLen, fLit, fBool]
  cases hg : gl kd R C ns r f h with
  | none => exact ⟨fun z => absurd z (by show ¬ (0 : Int32) ≤ -1; decide), fun _ => hno hg⟩
  | some q =>
    have hq := gl_lt hf hh hg
    rw [show oI (some q) = nI q from rfl]
    refine ⟨fun _ => ?_, fun z => absurd (nI_pos' (by omega)) z⟩
    simp only [fIx, hr 44 (by omega)]
    obtain ⟨k, hk, ek⟩ := pvR_nI ht m S (W s) r i f q
    refine ⟨trivial, s_Mhas (by omega) ?_⟩
    cases hb : bt (r 44) s with
    | true =>
      simp only [if_true, oT, E_M_drags, fIsA, fRt, fLen, fLit, fBool]
      exact h3 q hg hb
    | false =>
      simp only [Bool.false_eq_true, if_false, oT, E_M_drags, fIsA, fRt, fLen, fLit, fBool]
      refine s_MpullBy E row hr hs hf hq hp hi hi2 (fun τ1 f1 => ?_)
      have r1 : ∀ j, j < 50 → τ1.1 75 j = r j := fun j hj => by rw [f1.c1 75 rfl]; exact hr j hj
      have eo : τ1.1 74 0 = nI o := by rw [f1.c1 74 rfl]; exact E.2.1.2.2.2.1
      rw [ek]
      simp only [oT, E_M_drags, fIsA, fRt, fLen, fLit, fBool, fIx, eo, r1 45 (by omega), hu]
      have le : (nI k ≤ nI o - nI u) ↔ u + k ≤ o := by
        have := E.2.1.1
        rw [Int32.le_iff_toInt_le, pk_sub_toInt (by omega) (by omega), nI_toInt (by omega)]
        omega
      refine ⟨fun z => ?_, fun z => h4 q k hg ek hk hb (Nat.lt_of_not_le (fun w => z (le.mpr w))) τ1 f1⟩
      have z := le.mp z
      have e36 : (36 : Int32) + nI s = nI (36 + s) := nI_add 36 s
      simp only [sI_1, reduceIte, Nat.reduceEqDiff, r1 46 (by omega), r1 48 (by omega), hi]
      refine s_Mnoi (i := i) (by omega) ?_
      simp only [oT, E_M_drags, fIsA, fRt, fLen, fLit, fBool, fIx, sI_1, reduceIte, Nat.reduceEqDiff, r1 44 (by omega), e36, nI_clamp (show 36 + s < 2 ^ 31 by omega), nI_add]
      refine ⟨vp_in_nI (by omega) (by omega), ?_⟩
      have ex : (τ1.1 74 0 - if 45 = 36 + s then nI q else nI (u + k)) = nI (o - (u + k)) := by
        rw [eo, if_neg (by omega)]
        exact pk_sub z
      rw [ex]
      refine yes q k hg ek hk hb z _ (((((f1.wk rfl).ic rfl).ic rfl).ic rfl).ic rfl) (fun j hj => ?_)
      unfold dgR
      simp only [sI_1, reduceIte, hu, nI_add]
      by_cases c : j = 36 + s
      · rw [if_pos c, if_pos c]
      · rw [if_neg c, if_neg c]
        by_cases c1 : j = 44
        · rw [if_pos c1, if_pos c1]
        · rw [if_neg c1, if_neg c1]
          by_cases c2 : j = 45
          · rw [if_neg (by omega), if_pos c2, if_pos c2]
          · rw [if_neg c2, if_neg c2]
            by_cases c3 : j = 48
            · rw [if_pos c3, if_pos c3]
            · rw [if_neg c3, if_neg c3]; exact r1 j hj
