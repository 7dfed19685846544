/-! DRAG as an act -/
theorem gl_nk {kd : Nat → Nat} {R C ns : Nat} {r : Nat → Int32} {f h q : Nat} (e : gl kd R C ns r f h = some q) : nk kd R C f h = some q ∧ kd q ≠ 3 := by
  unfold gl at e
  cases hnk : nk kd R C f h with
  | none => rw [hnk] at e; cases e
  | some q' =>
    rw [hnk] at e
    have e : (if kd q' = 0 ∧ ¬ occ r ns (nI q') = 0 then none else some q') = some q := e
    by_cases c2 : kd q' = 0 ∧ ¬ occ r ns (nI q') = 0
    · rw [if_pos c2] at e; cases e
    · rw [if_neg c2] at e
      cases e
      refine ⟨rfl, fun z => ?_⟩
      unfold nk at hnk
      cases hnb : nb R C f h with
      | none => rw [hnb] at hnk; cases hnk
      | some q2 =>
        rw [hnb] at hnk
        have hnk : (if kd q2 = 3 then none else some q2) = some q := hnk
        by_cases c3 : kd q2 = 3
        · rw [if_pos c3] at hnk; cases hnk
        · rw [if_neg c3] at hnk; cases hnk; exact c3 z
theorem s_HdragShip {d R C ns o e m s h f i B u : Nat} {kd ht : Nat → Nat} {W S r : Nat → Int32} {Q : Qt} {τ : St} (E : EnvI R C kd ht ns o e m W S τ) (mo : MoI τ 9 ns (R * C) B kd r) (hs : s < ns) (hh : h < 4) (hf : f < R * C) (hp : r (36 + s) = nI f) (hi : r 46 = nI i) (hi2 : i < 2 ^ 30) (hu : r 45 = nI u) (hu2 : u ≤ 999)
    (hno : gl kd R C ns r f h = none → Q (some (.int (-2))) τ) (h3 : ∀ q, gl kd R C ns r f h = some q → bt (r 44) s = true → ∀ τ', Fr [55] [(53, 3)] τ τ' → Q (some (.int (-3))) τ')
    (h4 : ∀ q k, gl kd R C ns r f h = some q → pvR ht m S (W s) r i f q = nI k → k ≤ 1498 → bt (r 44) s = false → o < u + k → ∀ τ', Fr [55] [(53, 3)] τ τ' → Q (some (.int (-4))) τ')
    (yes : ∀ q k, gl kd R C ns r f h = some q → pvR ht m S (W s) r i f q = nI k → k ≤ 1498 → bt (r 44) s = false → u + k ≤ o → ∀ τ', Fr [9, 10, 55] [(53, 3)] τ τ' → τ'.1 9 1 = τ.1 9 1 → MoI τ' 9 ns (R * C) B kd (dgR s q i (nI k) r) → Q (some (.int (nI (o - (u + k))))) τ') : Cl (d + 5) m_H_dragShip [.ref 0, .int (nI s), .int (nI h)] τ Q := by
  have sh := E.1.2.1
  have h8 := sh.1
  have hn := E.1.1.n36
  rw [N_H_dragShip]
  simp only [E_H_dragShip, fIsA, fRt, fLen, fLit, fBool]
  refine s_HpullOf E mo hs hh hf hp hi hi2 (fun hg => ?_) (fun q hg τ1 f1 => ?_)
  · simp only [oT, E_H_dragShip, fIsA, fRt, fLen, fLit, fBool]
    exact ⟨fun z => absurd z (by decide), fun _ => hno hg⟩
  · obtain ⟨k, hk, ek⟩ := pvR_nI ht m S (W s) r i f q
    rw [ek]
    have mo1 : MoI τ1 9 ns (R * C) B kd r := mo.same (fun j => f1.c1 9 rfl j) (fun j => f1.c2 9 rfl j) (fun j => f1.c1 10 rfl j) (fun _ _ => rfl) (Nat.le_refl _) h8
    have ⟨_, ⟨k2, k4, k5, k6, k7, k8⟩, _⟩ := mo1
    have eo : τ1.1 0 8 = nI o := (f1.u1 0 8 rfl).trans E.2.1.2.2.1
    simp only [oT, E_H_dragShip, fIsA, fRt, fLen, fLit, fBool]
    refine ⟨fun _ => ?_, fun z => absurd (nI_pos' (by omega)) z⟩
    refine s_wasDragged (by omega) (fun b1 => ?_) (fun b1 => ?_)
    · rw [k2] at b1
      simp only [oT, E_H_dragShip, fIsA, fRt, fLen, fLit, fBool]
      exact h3 q hg b1 τ1 f1
    · rw [k2] at b1
      simp only [oT, E_H_dragShip, fIsA, fRt, fLen, fLit, fBool, eo, k4, hu]
      have le : (nI k ≤ nI o - nI u) ↔ u + k ≤ o := by
        have := E.2.1.1
        rw [Int32.le_iff_toInt_le, pk_sub_toInt (by omega) (by omega), nI_toInt (by omega)]
        omega
      refine ⟨fun z => ?_, fun z => h4 q k hg ek hk b1 (Nat.lt_of_not_le (fun w => z (le.mpr w))) τ1 f1⟩
      have z := le.mp z
      have E1 := E.fr f1 rfl (f1.c1 9 rfl 1)
      have hq := gl_lt hf hh hg
      obtain ⟨hnk, hk3⟩ := gl_nk hg
      have epl : τ1.1 10 s = nI f := ((mo1.1 s hs).1).trans hp
      refine s_placeOf (by omega) ?_
      rw [epl]
      simp only [oT, E_H_dragShip, fIsA, fRt, fLen, fLit, fBool]
      refine s_Gbeside E1.1.1 hf hh ?_
      rw [hnk, show oI (some q) = nI q from rfl]
      simp only [oT, E_H_dragShip, fIsA, fRt, fLen, fLit, fBool]
      refine s_put (by omega) ?_
      have e5 : τ1.1 9 5 = nI i := k5.trans hi
      simp only [oN, E_H_dragShip, fIsA, fRt, fLen, fLit, fBool, sI_1, reduceIte, Nat.reduceEqDiff, e5]
      refine s_kindOf (by omega) ?_
      simp only [oT, E_H_dragShip, fIsA, fRt, fLen, fLit, fBool]
      refine s_Hnoi (Nat.mod_lt _ (by omega)) ?_
      simp only [oT, E_H_dragShip, fIsA, fRt, fLen, fLit, fBool, sI_1, reduceIte, Nat.reduceEqDiff]
      have ex : τ1.1 0 8 - (τ1.1 9 4 + nI k) = nI (o - (u + k)) := by
        rw [eo, k4, hu, nI_add]
        exact pk_sub z
      rw [ex]
      have ho := E.2.1.1
      refine yes q k hg ek hk b1 z _ ((((((f1.wk rfl).ic rfl).ic rfl).ic rfl).ic rfl)) ((f1.c1 9 rfl 1)) (dgMo (τ := τ1) (k := u + k) hs h8 hq hk3 mo1 (by rw [hu, nI_add]) (by omega) (fun j => ?_) ?_ ?_ ?_ ?_ ?_ ?_ ?_)
      all_goals simp only [sI_1, sI_2, reduceIte, Nat.reduceEqDiff]
