theorem s_Mplanks {d R C ns o e m i B0 : Nat} {kd ht : Nat → Nat} {W S r : Nat → Int32} {Q : Qt} {τ : St} {w k : Int32} (E : EnvI R C kd ht ns o e m W S τ) (row : RowG ns (R * C) B0 kd r) (hr : ∀ j, j < 50 → τ.1 75 j = r j) (hi : r 46 = nI i) (hi2 : i < 2 ^ 30)
    (bad : ¬ ((1 ≤ w ∧ w ≤ nI 99) ∧ 0 ≤ k ∧ k ≤ nI 2) → ∀ τ', Fr [] [(69, 0)] τ τ' → Q (some (.int (-1))) τ')
    (far : ∀ kk, kk ≤ 2 → k = nI kk → (1 ≤ w ∧ w ≤ nI 99) → stB (vN kd ht R C m S w r i) (SF (fre kd R C r) kk 0 0) 1000000 0 → ∀ τ', Fr [76, 82, 83, 88, 90] [(69, 0), (69, 38), (69, 39)] τ τ' → Q (some (.int (-2))) τ')
    (good : ∀ kk L B, kk ≤ 2 → k = nI kk → (1 ≤ w ∧ w ≤ nI 99) → L < 1000000 → stB (vN kd ht R C m S w r i) (SF (fre kd R C r) kk 0 0) L B → ∀ τ', Fr [70, 76, 82, 83, 88, 90] [(69, 0), (69, 1), (69, 38), (69, 39)] τ τ' → τ'.1 69 1 = 1 → τ'.2 70 0 = lN B → Q (some (.int (nI L))) τ') : Cl (d + 12) m_M_planks [.ref 69, .int w, .int k] τ Q := by
  rw [N_M_planks]
  simp only [E_M_planks, fIsA, fRt, fLen, fLit, fBool]
  have f0 := fr690 (τ := τ) (v := 0)
  generalize sI τ 69 0 0 = τ0 at f0 ⊢
  refine s_inI 1 rfl 99 rfl (fun h1 h2 => ?_) (fun z => ?_)
  · simp only [oT, E_M_planks, fIsA, fRt, fLen, fLit, fBool]
    refine s_inI 0 rfl 2 rfl (fun k1 k2 => ?_) (fun z => ?_)
    · obtain ⟨kk, hk, rfl⟩ := of0 (n := 2) k1 k2 (by omega)
      simp only [oT, oN, E_M_planks, fIsA, fRt, fLen, fLit, fBool]
      refine s_Mputs (fun τ1 f1 h76 => ?_)
      simp only [oT, oN, E_M_planks, fIsA, fRt, fLen, fLit, fBool]
      have F : Fr [76, 82, 83, 88, 90] [(69, 0), (69, 38), (69, 39)] τ (sL (sI τ1 69 39 1000000) 69 38 0) := (((f0.wk rfl).tr (f1.wk rfl)).i rfl).l rfl
      have G : Fr [] [(69, 38), (69, 39)] τ1 (sL (sI τ1 69 39 1000000) 69 38 0) := (Fr.rf.i rfl).l rfl
      have e1 : (sL (sI τ1 69 39 1000000) 69 38 0).1 69 39 = nI 1000000 := rfl
      have e2 : (sL (sI τ1 69 39 1000000) 69 38 0).2 69 38 = lN 0 := rfl
      generalize sL (sI τ1 69 39 1000000) 69 38 0 = τ2 at F G e1 e2 ⊢
      have r0 : ∀ j, rN 0 r j = r j := fun j => if_neg (fun w => by rw [Nat.zero_testBit] at w; exact absurd w.2 (by decide))
      have lo : (0 : Int64) = lN 0 := rfl
      rw [lo]
      have E2 := E.fr F rfl (F.u1 9 1 rfl)
      have hr2 : ∀ j, j < 50 → τ2.1 75 j = r j := fun j hj => (F.c1 75 rfl j).trans (hr j hj)
      have h762 : ∀ j, j < 50 → τ2.1 76 j = rN 0 r j := fun j hj => by rw [r0, G.c1 76 rfl, h76 j hj, f0.c1 75 rfl]; exact hr j hj
      have st0 : stB (vN kd ht R C m S w r i) (fun _ => False) 1000000 0 := Or.inl ⟨rfl, rfl, fun _ z => z.elim⟩
      have lp : ∀ Q' : Qt, (∀ τ' L' B', Fr [76, 82, 83, 88, 90] [(69, 38), (69, 39)] τ2 τ' → (∀ j, j < 50 → τ'.1 76 j = rN 0 r j) → τ'.1 69 39 = nI L' → τ'.2 69 38 = lN B' → B' < 2 ^ 36 → stB (vN kd ht R C m S w r i) (fun N' => False ∨ SF (fre kd R C r) kk 0 0 N') L' B' → Q' none τ') → Cl (d + 11) m_M_laysPlanks [.ref 69, .int w, .int (nI 0), .int (nI kk), .long (lN 0)] τ2 Q' := fun Q' hQ' => by
        rcases (show kk = 0 ∨ kk = 1 ∨ kk = 2 by omega) with rfl | rfl | rfl
        · exact s_laysPlanks (d := d + 4) row hi hi2 0 0 0 τ2 Q' (fun _ => False) 1000000 0 E2 hr2 (by omega) (by omega) (by omega) h762 e1 e2 (by omega) st0 hQ'
        · exact s_laysPlanks (d := d + 3) row hi hi2 1 0 0 τ2 Q' (fun _ => False) 1000000 0 E2 hr2 (by omega) (by omega) (by omega) h762 e1 e2 (by omega) st0 hQ'
        · exact s_laysPlanks (d := d + 2) row hi hi2 2 0 0 τ2 Q' (fun _ => False) 1000000 0 E2 hr2 (by omega) (by omega) (by omega) h762 e1 e2 (by omega) st0 hQ'
      refine lp _ (fun τ3 L B f3 _ hL hB hB2 st => ?_)
      have st1 : stB (vN kd ht R C m S w r i) (SF (fre kd R C r) kk 0 0) L B := stB_cg (fun N' => ⟨fun z => z.elim (fun w => w.elim) id, Or.inr⟩) st
      have F3 : Fr [76, 82, 83, 88, 90] [(69, 0), (69, 38), (69, 39)] τ τ3 := F.tr (f3.wk rfl)
      have hL6 : L ≤ 1000000 := by
        rcases st with ⟨a, _⟩ | ⟨a, _⟩ <;> omega
      simp only [oT, oN, E_M_planks, fIsA, fRt, fLen, fLit, fBool, hL, sI_2, hB]
      refine ⟨fun z => ?_, fun z => ?_⟩
      · have z : L < 1000000 := (nI_ltI (b := 1000000) (by omega) (by omega)).mp z
        refine s_Menters (n := 0) rfl (by omega) ?_
        simp only [oT, oN, E_M_planks, fIsA, fRt, fLen, fLit, fBool, sI_1, sL_1, reduceIte, Nat.reduceEqDiff, hL]
        exact good kk L B hk rfl ⟨h1, h2⟩ z st1 _ ((((F3.wk rfl).i rfl).lc rfl).i rfl) rfl (by simp only [sI_2, sL_2, reduceIte])
      · have z : ¬ L < 1000000 := fun w => z (nI_lt (b := 1000000) w (by omega))
        have eL : L = 1000000 := by omega
        subst eL
        have eB : B = 0 := by
          rcases st1 with ⟨_, b, _⟩ | ⟨a, _⟩
          · exact b
          · omega
        subst eB
        exact far kk hk rfl ⟨h1, h2⟩ st1 τ3 F3
    · have q := bad (fun w => z w.2) τ0 f0
      simp only [oT, E_M_planks, fIsA, fRt, fLen, fLit, fBool]
      exact q
  · have q := bad (fun w => z w.1) τ0 f0
    simp only [oT, E_M_planks, fIsA, fRt, fLen, fLit, fBool]
    exact q
