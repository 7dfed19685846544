/-! LAND: the class takes it -/
theorem kF_le (b : Nat) : kF b ≤ 3 := by unfold kF; split <;> (try split) <;> (try split) <;> omega
theorem hF_le (b : Nat) : hF b ≤ 9 := by unfold hF; split <;> omega
theorem kF_hF {b : Nat} (h : kF b ≠ 0) : hF b = 0 := by
  unfold kF at h
  unfold hF
  split
  · rw [if_neg (by omega), if_neg (by omega), if_neg (by omega)] at h; exact absurd rfl h
  · rfl
theorem kF_dig {b : Nat} (h : isF b) : (kF b = 0 → nI b - 48 = nI (hF b)) ∧ (kF b ≠ 0 → (0 : Int32) = nI (hF b)) := by
  refine ⟨fun z => ?_, fun z => by rw [kF_hF z]; rfl⟩
  have hd : 48 ≤ b ∧ b ≤ 57 := by
    rcases h with h | rfl | rfl | rfl
    · exact h
    · exact absurd z (by decide)
    · exact absurd z (by decide)
    · exact absurd z (by decide)
  unfold hF
  rw [if_pos hd]
  exact pk_sub (b := 48) hd.1
/-- what is held of the first F fields, whose signs are B -/
def LF (τ : St) (F : Nat) (B : Nat → Nat) : Prop := τ.1 5 2 = nI F ∧ (∀ f, f < F → τ.1 6 f = nI (kF (B f)) ∧ τ.1 7 f = nI (hF (B f))) ∧
  ∀ q, q < 64 → bitL (τ.2 5 6) q = decide (q < F ∧ kF (B q) = 0) ∧ bitL (τ.2 5 7) q = decide (q < F ∧ kF (B q) = 1) ∧ bitL (τ.2 5 8) q = decide (q < F ∧ kF (B q) = 2)
theorem LF.cg {cs : List Nat} {fs : List (Nat × Nat)} {τ τ' : St} {F : Nat} {B : Nat → Nat} (h : LF τ F B) (hf : Fr cs fs τ τ') (hd : disF cs fs [6, 7] [(5, 2), (5, 6), (5, 7), (5, 8)] = true) : LF τ' F B := by
  obtain ⟨a, b, c⟩ := h
  refine ⟨by rw [(hf.E hd 5 2 rfl).1]; exact a, fun f hq => by rw [(hf.D hd 6 f rfl).1, (hf.D hd 7 f rfl).1]; exact b f hq, fun q hq => ?_⟩
  rw [(hf.E hd 5 6 rfl).2, (hf.E hd 5 7 rfl).2, (hf.E hd 5 8 rfl).2]
  exact c q hq
theorem bset {x : Int64} {F : Nat} {P : Nat → Prop} (hF : F < 64) (hx : ∀ q, q < 64 → bitL x q = @decide (q < F ∧ P q) (Classical.propDecidable _)) : (P F → ∀ q, q < 64 → bitL (x ||| (1 <<< ((nI F).toInt64 &&& 63))) q = @decide (q < F + 1 ∧ P q) (Classical.propDecidable _)) ∧ (¬ P F → ∀ q, q < 64 → bitL x q = @decide (q < F + 1 ∧ P q) (Classical.propDecidable _)) := by
  refine ⟨fun h q hq => ?_, fun h q hq => ?_⟩
  · rw [bL_or, hx q hq, bL_shl1 hF hq]
    by_cases e : q = F
    · subst e
      rw [decide_eq_true (rfl : q = q), Bool.or_true]
      exact (@decide_eq_true _ (Classical.propDecidable _) ⟨Nat.lt_succ_self q, h⟩).symm
    · rw [decide_eq_false e, Bool.or_false]
      by_cases c : q < F ∧ P q
      · rw [@decide_eq_true _ (Classical.propDecidable _) c, @decide_eq_true _ (Classical.propDecidable _) (⟨by omega, c.2⟩ : q < F + 1 ∧ P q)]
      · rw [@decide_eq_false _ (Classical.propDecidable _) c, @decide_eq_false _ (Classical.propDecidable _) (fun w : q < F + 1 ∧ P q => c ⟨by omega, w.2⟩)]
  · rw [hx q hq]
    by_cases c : q < F ∧ P q
    · rw [@decide_eq_true _ (Classical.propDecidable _) c, @decide_eq_true _ (Classical.propDecidable _) (⟨by omega, c.2⟩ : q < F + 1 ∧ P q)]
    · rw [@decide_eq_false _ (Classical.propDecidable _) c, @decide_eq_false _ (Classical.propDecidable _) (fun w : q < F + 1 ∧ P q => by
        by_cases e : q = F
        · exact h (e ▸ w.2)
        · exact c ⟨by omega, w.2⟩)]
theorem bsetN {x : Int64} {F k : Nat} {B : Nat → Nat} (hF : F < 64) (hx : ∀ q, q < 64 → bitL x q = decide (q < F ∧ kF (B q) = k)) : (kF (B F) = k → ∀ q, q < 64 → bitL (x ||| (1 <<< ((nI F).toInt64 &&& 63))) q = decide (q < F + 1 ∧ kF (B q) = k)) ∧ (kF (B F) ≠ k → ∀ q, q < 64 → bitL x q = decide (q < F + 1 ∧ kF (B q) = k)) := by
  have cv : ∀ (p : Prop) (d : Decidable p), @decide p (Classical.propDecidable _) = @decide p d := fun p d => by congr
  have h := bset (x := x) (F := F) (P := fun q => kF (B q) = k) hF (fun q hq => by rw [hx q hq, cv])
  exact ⟨fun z q hq => by rw [h.1 z q hq, cv], fun z q hq => by rw [h.2 z q hq, cv]⟩
theorem s_takeField {d F : Nat} {B : Nat → Nat} {Q : Qt} {τ : St} (h : LF τ F B) (hF36 : F < 36) (hb : B F < 256) (hi : isF (B F)) (hQ : ∀ τ', Fr [6, 7] [(5, 2), (5, 6), (5, 7), (5, 8)] τ τ' → LF τ' (F + 1) B → Q none τ') : Cl (d + 2) m_Ground_takeField [.ref 5, .int (nI (B F))] τ Q := by
  obtain ⟨a, b, c⟩ := h
  have k3 := kF_le (B F)
  have kd := kF_dig hi
  -- behind the block: cells, then the bits of one kind
  have cells : ∀ (τ1 : St), τ1.1 5 2 = nI (F + 1) → (∀ f, τ1.1 6 f = if f = F then nI (kF (B F)) else τ.1 6 f) → (∀ f, τ1.1 7 f = if f = F then nI (hF (B F)) else τ.1 7 f) → ∀ f, f < F + 1 → τ1.1 6 f = nI (kF (B f)) ∧ τ1.1 7 f = nI (hF (B f)) := fun τ1 _ h6 h7 f hf => by
    rw [h6, h7]
    by_cases e : f = F
    · subst e; rw [if_pos rfl, if_pos rfl]; exact ⟨rfl, rfl⟩
    · rw [if_neg e, if_neg e]; exact b f (by omega)
  have b0 := bsetN (B := B) (k := 0) (show F < 64 by omega) (fun q hq => (c q hq).1)
  have b1 := bsetN (B := B) (k := 1) (show F < 64 by omega) (fun q hq => (c q hq).2.1)
  have b2 := bsetN (B := B) (k := 2) (show F < 64 by omega) (fun q hq => (c q hq).2.2)
  have blk : ∀ v : Int32, v = nI (hF (B F)) → Rs M_Ground_takeField (d + 1) Q 52 [some (.ref 5), some (.int (nI (B F))), some (.int (nI (kF (B F))))] [.int v, .int (nI F), .ref 7] (sI τ 6 F (nI (kF (B F)))) := fun v hv => by
    subst hv
    rw [Rs_eq]
    simp only [E_Ground_takeField, fIsA, fRt, fLen, fLit, fBool, nI_clamp (show F < 2 ^ 31 by omega), sI_1, sI_2, sL_1, reduceIte, Nat.reduceEqDiff, a, nI_1]
    refine ⟨vp_in_nI (by omega) (by omega), fun z0 => ⟨fun z1 => ⟨fun z2 => ?_, fun z2 => ?_⟩, fun z1 => ?_⟩, fun z0 => ?_⟩
    · have z0 : kF (B F) ≠ 0 := fun w => z0 (by rw [w]; rfl)
      have z1 : kF (B F) ≠ 1 := fun w => z1 (by rw [w]; rfl)
      have z2 : kF (B F) ≠ 2 := fun w => z2 (by rw [w]; rfl)
      refine hQ _ (((Fr.rf.ic rfl).ic rfl).i rfl) ⟨rfl, cells _ rfl (fun f => ?_) (fun f => ?_), fun q hq => ⟨b0.2 z0 q hq, b1.2 z1 q hq, b2.2 z2 q hq⟩⟩
      all_goals simp only [sI_1, reduceIte, Nat.reduceEqDiff]
    · have z2 := (nI_eq (b := 2) (by omega) (by omega)).mp z2
      refine hQ _ ((((Fr.rf.ic rfl).ic rfl).l rfl).i rfl) ⟨rfl, cells _ rfl (fun f => ?_) (fun f => ?_), fun q hq => ⟨b0.2 (by omega) q hq, b1.2 (by omega) q hq, b2.1 z2 q hq⟩⟩
      all_goals simp only [sI_1, sL_1, reduceIte, Nat.reduceEqDiff]
    · have z1 := (nI_eq (b := 1) (by omega) (by omega)).mp z1
      refine hQ _ ((((Fr.rf.ic rfl).ic rfl).l rfl).i rfl) ⟨rfl, cells _ rfl (fun f => ?_) (fun f => ?_), fun q hq => ⟨b0.2 (by omega) q hq, b1.1 z1 q hq, b2.2 (by omega) q hq⟩⟩
      all_goals simp only [sI_1, sL_1, reduceIte, Nat.reduceEqDiff]
    · have z0 := (nI_eq (b := 0) (by omega) (by omega)).mp z0
      refine hQ _ ((((Fr.rf.ic rfl).ic rfl).l rfl).i rfl) ⟨rfl, cells _ rfl (fun f => ?_) (fun f => ?_), fun q hq => ⟨b0.1 z0 q hq, b1.2 (by omega) q hq, b2.2 (by omega) q hq⟩⟩
      all_goals simp only [sI_1, sL_1, reduceIte, Nat.reduceEqDiff]
  rw [N_Ground_takeField]
  simp only [E_Ground_takeField, fIsA, fRt, fLen, fLit, fBool, a]
  refine ⟨fun z => absurd z (nI_pos (by omega)), fun _ => ⟨fun _ => ?_, fun z => absurd (nI_lt (b := 36) hF36 (by omega)) z⟩⟩
  refine s_kindTold hb (fun _ => ?_) (fun w => absurd hi w)
  simp only [oT, E_Ground_takeField, fIsA, fRt, fLen, fLit, fBool, nI_clamp (show F < 2 ^ 31 by omega), sI_1, reduceIte, Nat.reduceEqDiff, a]
  refine ⟨vp_in_nI (by omega) (by omega), fun z => ?_, fun z => ?_⟩
  · exact blk 0 (kd.2 (fun w => z (by rw [w]; rfl)))
  · exact blk _ (kd.1 ((nI_eq (b := 0) (by omega) (by omega)).mp z))
