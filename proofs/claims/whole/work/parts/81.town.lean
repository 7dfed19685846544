/-! PAIRS: town, the reference's loops, and both -/
theorem pd0 : nI 0 + -1 = -1 := by decide
theorem Mtown_col {d v k t : Nat} {Q : Qt} {τ0 : St} (hv : v ≤ 60) (hk : k ≤ 20) (ht : t ≤ k) (hP : t < k → ∀ p, p ≤ v → τ0.1 92 (21 * p + (t + 1)) = nI (TW v (k - (t + 1)) p).1 ∧ τ0.1 93 (21 * p + (t + 1)) = nI (TW v (k - (t + 1)) p).2.1)
    (hQ : ∀ (τ' : St) (l5 l6 l7 : Option Value), Fr [92, 93, 94] [] τ0 τ' → TMo v k t 0 τ' → τ'.1 94 t = nI (TW v (k - t) 0).2.2 → Rs M_M_town d Q 33 [some (.ref 69), some (.int (nI v)), some (.int (nI k)), some (.int (nI t + -1)), some (.int (-1)), l5, l6, l7] [] τ') :
    ∀ (m : Nat) (τ1 : St) (l5 l6 l7 : Option Value), m ≤ v + 1 → Fr [92, 93, 94] [] τ0 τ1 → (∀ q, (∀ p, p ≤ v → q ≠ 21 * p + t) → τ1.1 92 q = τ0.1 92 q ∧ τ1.1 93 q = τ0.1 93 q) → TMo v k t m τ1 → (m = 0 → τ1.1 94 t = nI (TW v (k - t) 0).2.2) → Rs M_M_town d Q 40 [some (.ref 69), some (.int (nI v)), some (.int (nI k)), some (.int (nI t)), some (.int (nI m + -1)), l5, l6, l7] [] τ1 := by
  intro m
  induction m with
  | zero =>
    intro τ1 l5 l6 l7 hm fr hs hc h0
    rw [Rs_eq, pd0]
    simp only [E_M_town, fIsA, fRt, fLen, fLit, fBool]
    exact hQ τ1 l5 l6 l7 fr hc (h0 rfl)
  | succ o ih =>
    intro τ1 l5 l6 l7 hm fr hs hc h0
    have next : ∀ (τ' : St) (l6 l7 : Option Value), Fr [92, 93, 94] [] τ1 τ' → (∀ q, q ≠ 21 * o + t → τ'.1 92 q = τ1.1 92 q ∧ τ'.1 93 q = τ1.1 93 q ∧ τ'.1 94 q = τ1.1 94 q) → τ'.1 92 (21 * o + t) = nI (TW v (k - t) o).1 → τ'.1 93 (21 * o + t) = nI (TW v (k - t) o).2.1 → τ'.1 94 (21 * o + t) = nI (if (TW v (k - t) o).2.2 = 0 then 0 else o + (TW v (k - t) o).2.2) → Rs M_M_town d Q 40 [some (.ref 69), some (.int (nI v)), some (.int (nI k)), some (.int (nI t)), some (.int (nI o + -1)), some (.int (nI (21 * o + t))), l6, l7] [] τ' := fun τ' l6 l7 f s h92 h93 h94 => by
      refine ih τ' _ l6 l7 (by omega) (fr.tr f) (fun q hq => ?_) (fun p p1 p2 => ?_) (fun z => ?_)
      · have a1 := s q (hq o (by omega))
        have a2 := hs q hq
        exact ⟨a1.1.trans a2.1, a1.2.1.trans a2.2⟩
      · by_cases c : p = o
        · subst c; exact ⟨h92, h93⟩
        · have a1 := s (21 * p + t) (by omega)
          rw [a1.1, a1.2.1]
          exact hc p (by omega) p2
      · subst z
        rw [show 21 * 0 + t = t by omega] at h94
        rw [h94]
        congr 1
        split <;> omega
    -- the inner loop's start
    have inn : ∀ (τ2 : St), Fr [92, 93, 94] [] τ1 τ2 → (∀ q, q ≠ 21 * o + t → τ2.1 92 q = τ1.1 92 q ∧ τ2.1 93 q = τ1.1 93 q ∧ τ2.1 94 q = τ1.1 94 q) → τ2.1 92 (21 * o + t) = 0 → τ2.1 93 (21 * o + t) = nI (tnL v o) → τ2.1 94 (21 * o + t) = 0 → Rs M_M_town d Q 93 [some (.ref 69), some (.int (nI v)), some (.int (nI k)), some (.int (nI t)), some (.int (nI o)), some (.int (nI (21 * o + t))), some (.int 1), l7] [] τ2 := fun τ2 f2 s2 h92 h93 h94 => by
      by_cases c : t = k
      · subst c
        rw [Nat.sub_self] at next
        rw [Rs_eq]
        simp only [E_M_town, fIsA, fRt, fLen, fLit, fBool, nI_clamp (show 21 * o + t < 2 ^ 31 by omega), h94]
        refine ⟨fun z => absurd z (by decide), fun _ => ⟨fun _ => ⟨vp_in_nI (by omega) (by omega), ?_⟩, fun z => absurd (Int32.le_refl _) z⟩⟩
        exact next τ2 _ l7 f2 s2 h92 h93 h94
      · have e : k - t = (k - (t + 1)) + 1 := by omega
        rw [e] at next
        refine Mtown_in (τ0 := τ1) hv hk (by omega) (j := k - (t + 1)) (by omega) (fun p hp => ?_) next 3 1 (0, tnL v o, 0) τ2 l7 (by omega) (by omega) f2 s2 h92 h93 h94 ⟨Nat.zero_le _, tnL_le v o, by simp, fun _ => rfl, fun z => absurd rfl z⟩ rfl
        have a2 := hs (21 * p + (t + 1)) (fun p' _ => by omega)
        rw [a2.1, a2.2]
        exact hP (by omega) p hp
    rw [Rs_eq, pdI]
    simp only [E_M_town, fIsA, fRt, fLen, fLit, fBool, i21, nI_clamp (show 21 * o + t < 2 ^ 31 by omega)]
    have st : ∀ x : Int32, x = nI (tnL v o) → Rs M_M_town d Q 93 [some (.ref 69), some (.int (nI v)), some (.int (nI k)), some (.int (nI t)), some (.int (nI o)), some (.int (nI (21 * o + t))), some (.int 1), l7] [] (sI (sI (sI τ1 92 (21 * o + t) 0) 93 (21 * o + t) x) 94 (21 * o + t) 0) := fun x hx => by
      refine inn _ (((Fr.rf.ic rfl).ic rfl).ic rfl) (fun q hq => ?_) ?_ ?_ ?_
      · simp only [sI_1, reduceIte, Nat.reduceEqDiff]
        rw [if_neg hq, if_neg hq, if_neg hq]
        exact ⟨rfl, rfl, rfl⟩
      · simp only [sI_1, reduceIte, Nat.reduceEqDiff]
      · simp only [sI_1, reduceIte, Nat.reduceEqDiff]; exact hx
      · simp only [sI_1, reduceIte, Nat.reduceEqDiff]
    refine ⟨fun z => absurd z (nI_pos (by omega)), fun _ => ⟨vp_in_nI (by omega) (by omega), fun z => ?_, fun z => ?_⟩⟩
    · refine ⟨vp_in_nI (by omega) (by omega), vp_in_nI (by omega) (by omega), st _ ?_⟩
      unfold tnL
      rw [if_neg (fun w => z (by rw [w]; rfl))]
      exact pk_sub (by omega)
    · refine ⟨vp_in_nI (by omega) (by omega), vp_in_nI (by omega) (by omega), st _ ?_⟩
      unfold tnL
      rw [if_pos ((nI_eq (b := 0) (by omega) (by omega)).mp z)]
      rfl
theorem Mtown_all {d v k : Nat} {Q : Qt} {τ0 : St} (hv : v ≤ 60) (hk : k ≤ 20)
    (hQ : ∀ (τ' : St) (l4 l5 l6 l7 : Option Value), Fr [92, 93, 94] [] τ0 τ' → τ'.1 92 0 = nI (TW v k 0).1 → τ'.1 93 0 = nI (TW v k 0).2.1 → τ'.1 94 0 = nI (TW v k 0).2.2 → Rs M_M_town d Q 33 [some (.ref 69), some (.int (nI v)), some (.int (nI k)), some (.int (-1)), l4, l5, l6, l7] [] τ') :
    ∀ (m : Nat) (τ1 : St) (l4 l5 l6 l7 : Option Value), m ≤ k + 1 → Fr [92, 93, 94] [] τ0 τ1 → (m ≤ k → TMo v k m 0 τ1) → (m = 0 → τ1.1 94 0 = nI (TW v k 0).2.2) → Rs M_M_town d Q 33 [some (.ref 69), some (.int (nI v)), some (.int (nI k)), some (.int (nI m + -1)), l4, l5, l6, l7] [] τ1 := by
  intro m
  induction m with
  | zero =>
    intro τ1 l4 l5 l6 l7 hm fr hc h0
    rw [pd0]
    have := hc (Nat.zero_le _) 0 (by omega) (by omega)
    exact hQ τ1 l4 l5 l6 l7 fr this.1 this.2 (h0 rfl)
  | succ t ih =>
    intro τ1 l4 l5 l6 l7 hm fr hc h0
    rw [Rs_eq, pdI]
    simp only [E_M_town, fIsA, fRt, fLen, fLit, fBool]
    refine ⟨fun z => absurd z (nI_pos (by omega)), fun _ => ?_⟩
    have go := Mtown_col (d := d) (Q := Q) (τ0 := τ1) hv hk (show t ≤ k by omega) (fun h p hp => hc (by omega) p (by omega) hp) (fun τ' l5 l6 l7 f tc h94 => ?_) (v + 1) τ1 l5 l6 l7 (Nat.le_refl _) Fr.rf (fun _ _ => ⟨rfl, rfl⟩) (fun p p1 p2 => absurd p1 (by omega)) (fun z => absurd z (by omega))
    · rw [pdI] at go
      exact go
    · refine ih τ' _ l5 l6 l7 (by omega) (fr.tr f) (fun _ => tc) (fun z => ?_)
      subst z
      rw [Nat.sub_zero] at h94
      exact h94
theorem p_town (t : Nat) (x y : Int32) : PrI t m_H_town m_M_town [.int x, .int y] := by
  intro ht0 τ h
  obtain ⟨R, C, kd, ht, ns, tn, hA, hT, hR⟩ := h
  have fin := fun (x : Int32) => ok (x := x) rfl (hA.inv3 hT hR (fr690 (v := 0)) rfl)
  have no : ¬ (1 ≤ x ∧ x ≤ nI 60) ∨ ¬ (1 ≤ y ∧ y ≤ nI 20) → Cl 900 m_M_town [.ref 69, .int x, .int y] τ (fun b τ2 => (∃ z : Int32, some (Value.int (-1)) = some (.int z) ∧ b = some (.int z)) ∧ Inv (t + 1) τ2) := fun w => by
    rw [N_M_town]
    simp only [E_M_town, fIsA, fRt, fLen, fLit, fBool]
    refine s_inI 1 rfl (nI 60) rfl (fun c1 c2 => ?_) (fun z => ?_)
    · simp only [oT, E_M_town, fIsA, fRt, fLen, fLit, fBool]
      refine s_inI 1 rfl (nI 20) rfl (fun c3 c4 => ?_) (fun z => ?_)
      · rcases w with w | w
        · exact absurd ⟨c1, c2⟩ w
        · exact absurd ⟨c3, c4⟩ w
      · simp only [oT, E_M_town, fIsA, fRt, fLen, fLit, fBool]
        exact fin (-1)
    · simp only [oT, E_M_town, fIsA, fRt, fLen, fLit, fBool]
      exact fin (-1)
  rw [N_H_town]
  simp only [E_H_town, fIsA, fRt, fLen, fLit, fBool]
  refine ⟨fun z => no (Or.inl (fun w => nlt w.1 z)), fun z => ⟨fun z2 => no (Or.inl (fun w => nlt w.2 z2)), fun z2 => ⟨fun z3 => no (Or.inr (fun w => nlt w.1 z3)), fun z3 => ⟨fun z4 => ?_, fun z4 => no (Or.inr (fun w => z4 w.2))⟩⟩⟩⟩
  obtain ⟨v, hv, rfl⟩ := of0 (n := 60) (Int32.le_trans (by decide) (Int32.not_lt.mp z)) (Int32.not_lt.mp z2) (by omega)
  obtain ⟨k, hk, rfl⟩ := of0 (n := 20) (Int32.le_trans (by decide) (Int32.not_lt.mp z3)) z4 (by omega)
  have hk1 : 1 ≤ k := (nI_leI (a := 1) (by omega) (by omega)).mp (Int32.not_lt.mp z3)
  refine s_settle hv hk1 hk (fun τ1 f1 tc h66 => ?_)
  obtain ⟨c1, c2⟩ := tc 0 (by omega) (by omega) (by omega)
  simp only [oN, E_H_town, fIsA, fRt, fLen, fLit, fBool, fIx, c2, h66]
  generalize hV : (nI (TW v k 0).2.1).toInt64 = V
  generalize hW : (nI (TW v k 0).2.2).toInt64 = W
  refine s_RowBoth ?_
  simp only [oN, E_H_town, fIsA, fRt, fLen, fLit, fBool, fIx]
  generalize hτ2 : sI (sL (sI (sL (sI τ1 3 1 0) 4 0 V) 3 1 1) 4 1 W) 3 1 2 = τ2
  have f12 : Fr [4] [(3, 1)] τ1 τ2 := by rw [← hτ2]; exact ((((Fr.rf.i rfl).lc rfl).i rfl).lc rfl).i rfl
  rw [f12.c1 67 rfl, c1]
  rw [N_M_town]
  simp only [E_M_town, fIsA, fRt, fLen, fLit, fBool]
  refine s_inI 1 rfl (nI 60) rfl (fun _ _ => ?_) (fun w => absurd ⟨Int32.not_lt.mp z, Int32.not_lt.mp z2⟩ w)
  simp only [oT, E_M_town, fIsA, fRt, fLen, fLit, fBool]
  refine s_inI 1 rfl (nI 20) rfl (fun _ _ => ?_) (fun w => absurd ⟨Int32.not_lt.mp z3, z4⟩ w)
  simp only [oT, E_M_town, fIsA, fRt, fLen, fLit, fBool]
  have go := Mtown_all (d := 899) (v := v) (k := k) (τ0 := sI τ2 69 0 0) (Q := fun b τ2 => (∃ z : Int32, some (Value.int (nI (TW v k 0).1)) = some (.int z) ∧ b = some (.int z)) ∧ Inv (t + 1) τ2) hv hk (fun τ3 l4 l5 l6 l7 f3 h92 h93 h94 => ?_) (k + 1) (sI τ2 69 0 0) none none none none (Nat.le_refl _) Fr.rf (fun z => absurd z (by omega)) (fun z => absurd z (by omega))
  · rw [pdI] at go
    exact go
  · rw [Rs_eq]
    simp only [E_M_town, fIsA, fRt, fLen, fLit, fBool, fIx, sI_1, reduceIte, Nat.reduceEqDiff, h93, hV]
    refine s_Menters (n := 0) rfl (by omega) ?_
    simp only [oN, E_M_town, fIsA, fRt, fLen, fLit, fBool, fIx, sI_1, sL_1, reduceIte, Nat.reduceEqDiff, h94, hW]
    refine s_Menters (n := 1) rfl (by omega) ?_
    simp only [oN, E_M_town, fIsA, fRt, fLen, fLit, fBool, fIx, sI_1, sL_1, reduceIte, Nat.reduceEqDiff, h92]
    refine ok rfl ?_
    generalize hτ4 : sI (sL (sI (sL (sI τ3 69 1 0) 70 0 V) 69 1 (nI (0 + 1))) 70 1 W) 69 1 (nI (1 + 1)) = τ4
    have f34 : Fr [70] [(69, 1)] τ3 τ4 := by rw [← hτ4]; exact ((((Fr.rf.i rfl).lc rfl).i rfl).lc rfl).i rfl
    have f24 : Fr [70, 92, 93, 94] [(69, 0), (69, 1)] τ2 τ4 := (Fr.rf.i rfl).tr ((f3.wk rfl).tr (f34.wk rfl))
    have F : Fr [4, 67, 68, 70, 92, 93, 94] [(3, 1), (66, 2), (69, 0), (69, 1)] τ τ4 := (f1.wk rfl).tr ((f12.wk rfl).tr (f24.wk rfl))
    refine hA.inv F rfl (hT.fr F rfl) (RoI.two (v := V) (w := W) ?_ ?_ ?_ ?_ ?_ ?_)
    · rw [f24.u1 3 1 rfl, ← hτ2]; rfl
    · rw [← hτ4]; rfl
    · rw [f24.c2 4 rfl, ← hτ2]; rfl
    · rw [← hτ4]; rfl
    · rw [f24.c2 4 rfl, ← hτ2]; rfl
    · rw [← hτ4]; rfl
