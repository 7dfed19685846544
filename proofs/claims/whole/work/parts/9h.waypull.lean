/-! WAYS: start, turn, pull -/
/-- the ways are set to a rule's row, a weight, planks -/
def WyI (τ : St) (ρ n : Nat) (S : Nat → Int32) (w : Int32) (P : Int64) : Prop := τ.1 59 2 = Int32.ofNat ρ ∧ τ.1 59 3 = w ∧ τ.2 59 4 = P ∧ PuI τ n S w
/-- the ways are turned to an hour and a kind of night -/
def TnI (τ : St) (h k : Nat) : Prop := bt (τ.1 60 1) h = true ∧ τ.1 60 2 = nI (38 * h) ∧ τ.1 60 3 = nI k
theorem s_Wstart {d ρ n : Nat} {Q : Qt} {τ : St} {S : Nat → Int32} {w : Int32} {P : Int64} (hρ : ρ = 53 ∨ ρ = 56) (hQ : ∀ τ', Fr [] [(59, 2), (59, 3), (59, 4), (60, 1)] τ τ' → WyI τ' ρ n S w P → Q none τ') : Cl (d + 2) m_Ways_start [.ref 59, .ref ρ, .int w, .long P] τ Q := by
  rw [N_Ways_start]
  simp only [E_Ways_start, fIsA, fRt, fLen, fLit, fBool]
  refine ⟨?_, ?_⟩
  · rcases hρ with rfl | rfl <;> decide
  rw [N_Pulls_start]
  simp only [oT, oN, E_Pulls_start, E_Ways_start, fIsA, fRt, fLen, fLit, fBool]
  refine hQ _ ((((Fr.rf.i rfl).i rfl).l rfl).i rfl) ⟨?_, ?_, ?_, fun h b1 b2 => ?_⟩
  · simp only [sI_1, sL_1, reduceIte, Nat.reduceEqDiff]
  · simp only [sI_1, sL_1, reduceIte, Nat.reduceEqDiff]
  · simp only [sI_2, sL_2, reduceIte, Nat.reduceEqDiff]
  · simp only [sI_1, sL_1, reduceIte, Nat.reduceEqDiff] at b2
    exfalso
    unfold bt at b2
    rw [show (0 : Int32).toBitVec = 0#32 from rfl, BitVec.getLsbD_zero] at b2
    exact absurd b2 (by decide)
theorem s_Wturn {d ρ n h k : Nat} {Q : Qt} {τ : St} {S : Nat → Int32} {w : Int32} {P : Int64} (hρ : ρ = 53 ∨ ρ = 56) (hn : n ≤ 40) (h1 : τ.1 ρ 1 = nI n) (h2 : ∀ j, j < n → τ.1 (ρ + 1) j = S j) (hok : 0 < n → okR (fun i => kdC (S i)) n 0 0) (hh : h < 10) (wy : WyI τ ρ n S w P)
    (hQ : ∀ τ', Fr [55, 58, 61] [(53, 3), (56, 3), (60, 1), (60, 2), (60, 3)] τ τ' → WyI τ' ρ n S w P → TnI τ' h k → Q none τ') : Cl (d + 5) m_Ways_turnTo [.ref 59, .int (nI h), .int (nI k)] τ Q := by
  obtain ⟨w1, w2, w3, w4⟩ := wy
  rw [N_Ways_turnTo]
  have e : (if τ.1 59 2 = 0 then Value.null else .ref (τ.1 59 2).toNatClampNeg) = .ref ρ := by
    rw [w1]
    rcases hρ with rfl | rfl <;> rfl
  simp only [E_Ways_turnTo, fIsA, fRt, fLen, fLit, fBool, e, w2]
  refine s_PturnTo hρ hn h1 h2 hok hh w4 (fun τ' fr p1 p2 p3 p4 => ?_)
  simp only [oT, oN, E_Ways_turnTo, fIsA, fRt, fLen, fLit, fBool]
  exact hQ τ' fr ⟨(fr.u1 59 2 rfl).trans w1, (fr.u1 59 3 rfl).trans w2, (fr.u2 59 4 rfl).trans w3, p1⟩ ⟨p2, p3, p4⟩
theorem s_WpullTo {d R C ρ n m h i f q : Nat} {kd ht : Nat → Nat} {Q : Qt} {τ : St} {S S' r : Nat → Int32} {w : Int32} {P : Int64} (g : GI τ R C kd ht) (wy : WyI τ ρ n S w P) (tn : TnI τ h (i % 4)) (hh : h < 10) (e : ∀ a, vK n S a = vR m S' a) (hf : f < R * C) (hq : q < R * C) (hr : r q = if bitL P q then 1 else 0)
    (hQ : Q (some (.int (plF ht m S' w r (nI h) i f q))) τ) : Cl (d + 3) m_Ways_pullTo [.ref 59, .int (nI f), .int (nI q)] τ Q := by
  have hn := g.n36
  obtain ⟨w1, w2, w3, w4⟩ := wy
  obtain ⟨t1, t2, t3⟩ := tn
  have f9 := (g.2.2.1 f hf).1.2.1
  have q9 := (g.2.2.1 q hq).1.2.1
  obtain ⟨p, hp, ep, eq⟩ : ∃ p, p ≤ 1 ∧ (if bitL P q = true then (1 : Int64) else 0).toInt32 = nI p ∧ (if bitL P q then (1 : Int32) else 0) = nI p := by
    cases bitL P q with
    | true => exact ⟨1, by omega, rfl, rfl⟩
    | false => exact ⟨0, by omega, rfl, rfl⟩
  rw [N_Ways_pullTo]
  simp only [E_Ways_pullTo, fIsA, fRt, fLen, fLit, fBool]
  refine s_Gheight g hq ?_
  simp only [oT, oN, E_Ways_pullTo, fIsA, fRt, fLen, fLit, fBool]
  refine s_Gheight g hf ?_
  simp only [oT, oN, E_Ways_pullTo, fIsA, fRt, fLen, fLit, fBool, w3, ubitL (show q < 64 by omega), ep]
  have ei : (nI (ht q) - nI (ht f) + 9) * 2 + nI p = nI ((ht q + 9 - ht f) * 2 + p) := by
    rw [show nI ((ht q + 9 - ht f) * 2 + p) = nI (ht q + 9 - ht f) * 2 + nI p by rw [← nI_add, show nI ((ht q + 9 - ht f) * 2) = nI (ht q + 9 - ht f) * 2 from (pk_mul _ 2).symm], show nI (ht q + 9 - ht f) = nI (ht q + 9) - nI (ht f) from (pk_sub (by omega)).symm, ← nI_add]
    congr 2
    show _ = nI (ht q) + 9 - nI (ht f)
    rw [Int32.sub_eq_add_neg, Int32.sub_eq_add_neg, Int32.add_assoc, Int32.add_assoc, Int32.add_comm 9]
  have hx : (ht q + 9 - ht f) * 2 + p < 38 := by omega
  have tb := w4 h hh t1 ((ht q + 9 - ht f) * 2 + p) hx
  have pl := drT_pl (n := n) (S := S) (w := w) (i := i) (h := h) e f9 q9 hp (hr.trans eq)
  rw [← pl] at hQ
  rw [N_Pulls_of]
  simp only [oT, oN, E_Pulls_of, fIsA, fRt, fLen, fLit, fBool, ei, t2, t3, nI_add]
  refine ⟨fun z => absurd z (nI_pos (by omega)), fun _ => ⟨fun z => absurd z (nI_ge (b := 38) hx (by omega)), fun _ => ⟨vp_in_nI (by omega) (by omega), ?_⟩⟩⟩
  rw [nI_clamp (by omega), tb]
  refine s_pullBy (by omega) ?_
  simp only [oT, oN, E_Pulls_of, E_Ways_pullTo, fIsA, fRt, fLen, fLit, fBool]
  exact hQ
