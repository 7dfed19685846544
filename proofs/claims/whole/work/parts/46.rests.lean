/-! PAIRS: rests -/
theorem s_Hwall {d : Nat} {Q : Qt} {τ : St} {x y v c : Int32} (hQ : Q (some (.int ((if y ≤ x then v else 0) - c * x))) τ) : Cl (d + 1) m_H_wallHas [.int x, .int y, .int v, .int c] τ Q := by
  rw [N_H_wallHas]
  simp only [E_H_wallHas, fIsA, fRt, fLen, fLit, fBool]
  refine ⟨fun z => ?_, fun z => ?_⟩
  · rwa [if_pos z] at hQ
  · rwa [if_neg z] at hQ
theorem s_Mwall {d : Nat} {Q : Qt} {τ : St} {x y v c : Int32} (hQ : Q (some (.int ((if y ≤ x then v else 0) - c * x))) τ) : Cl (d + 1) m_M_wallHas [.int x, .int y, .int v, .int c] τ Q := by
  rw [N_M_wallHas]
  simp only [E_M_wallHas, fIsA, fRt, fLen, fLit, fBool]
  refine ⟨fun z => ?_, fun z => ?_⟩
  · rwa [if_pos z] at hQ
  · rwa [if_neg z] at hQ
theorem s_Hstm {d : Nat} {Q : Qt} {τ : St} {x y v c : Int32} (hQ : Q (some (.int ((if y ≤ x then 0 else v) - c * y))) τ) : Cl (d + 1) m_H_stormersHave [.int x, .int y, .int v, .int c] τ Q := by
  rw [N_H_stormersHave]
  simp only [E_H_stormersHave, fIsA, fRt, fLen, fLit, fBool]
  refine ⟨fun z => ?_, fun z => ?_⟩
  · rwa [if_pos z] at hQ
  · rwa [if_neg z] at hQ
theorem s_Mstm {d : Nat} {Q : Qt} {τ : St} {x y v c : Int32} (hQ : Q (some (.int ((if y ≤ x then 0 else v) - c * y))) τ) : Cl (d + 1) m_M_stormHas [.int x, .int y, .int v, .int c] τ Q := by
  rw [N_M_stormHas]
  simp only [E_M_stormHas, fIsA, fRt, fLen, fLit, fBool]
  refine ⟨fun z => ?_, fun z => ?_⟩
  · rwa [if_pos z] at hQ
  · rwa [if_neg z] at hQ
def wl (x y v c : Int32) : Int32 := (if y ≤ x then v else 0) - c * x
def sm (x y v c : Int32) : Int32 := (if y ≤ x then 0 else v) - c * y
/-- nothing better than x and than y at z, .. at the m men from z on -/
def okZ (x y v c : Int32) (z : Nat) : Prop := ¬ wl x y v c < wl (nI z) y v c ∧ ¬ sm x y v c < sm x (nI z) v c
def arZ (x y v c : Int32) : Nat → Nat → Prop
  | 0, _ => True
  | m + 1, z => okZ x y v c z ∧ arZ x y v c m (z + 1)
theorem s_HisAt_loop {d : Nat} {Q : Qt} {τ : St} {x y v c : Int32} : ∀ (m z : Nat), z + m = 10 → (arZ x y v c m z → Q (some (.int 1)) τ) → (¬ arZ x y v c m z → Q (some (.int 0)) τ) → Rs M_H_isAtRest (d + 1) Q 21 [some (.int x), some (.int y), some (.int v), some (.int c), some (.int (wl x y v c)), some (.int (sm x y v c)), some (.int (nI z))] [] τ
  | 0, z, hz, h1, h0 => by
    rw [Rs_eq]
    simp only [E_H_isAtRest, fIsA, fRt, fLen, fLit, fBool]
    exact ⟨fun _ => h1 trivial, fun q => absurd (nI_lt (a := 9) (by omega) (by omega)) q⟩
  | m + 1, z, hz, h1, h0 => by
    rw [Rs_eq]
    simp only [E_H_isAtRest, fIsA, fRt, fLen, fLit, fBool]
    refine ⟨fun q => absurd q (nI_nlt (a := 9) (by omega) (by omega)), fun _ => ?_⟩
    refine s_Hwall ?_
    simp only [oT, E_H_isAtRest, fIsA, fRt, fLen, fLit, fBool]
    refine ⟨fun q => h0 (fun w => w.1.1 q), fun q => ?_⟩
    refine s_Hstm ?_
    simp only [oT, E_H_isAtRest, fIsA, fRt, fLen, fLit, fBool, nI_1]
    refine ⟨fun q2 => ?_, fun q2 => h0 (fun w => w.1.2 (Int32.not_le.mp q2))⟩
    have ok : okZ x y v c z := ⟨q, Int32.not_lt.mpr q2⟩
    exact s_HisAt_loop m (z + 1) (by omega) (fun w => h1 ⟨ok, w⟩) (fun w => h0 (fun w2 => w w2.2))
theorem s_HisAt {d : Nat} {Q : Qt} {τ : St} {x y v c : Int32} (h1 : arZ x y v c 10 0 → Q (some (.int 1)) τ) (h0 : ¬ arZ x y v c 10 0 → Q (some (.int 0)) τ) : Cl (d + 2) m_H_isAtRest [.int x, .int y, .int v, .int c] τ Q := by
  rw [N_H_isAtRest]
  simp only [E_H_isAtRest, fIsA, fRt, fLen, fLit, fBool]
  refine s_Hwall ?_
  simp only [oT, E_H_isAtRest, fIsA, fRt, fLen, fLit, fBool]
  refine s_Hstm ?_
  simp only [oT, E_H_isAtRest, fIsA, fRt, fLen, fLit, fBool]
  exact s_HisAt_loop 10 0 rfl h1 h0
theorem s_MisRest_no {d : Nat} {Q : Qt} {τ : St} {x y v c : Int32} (h0 : Q (some (.int 0)) τ) : ∀ (m z : Nat), z + m = 10 → Rs M_M_isRest (d + 1) Q 6 [some (.int x), some (.int y), some (.int v), some (.int c), some (.int 0), some (.int (nI z))] [] τ
  | 0, z, hz => by
    rw [Rs_eq]
    simp only [E_M_isRest, fIsA, fRt, fLen, fLit, fBool]
    exact ⟨fun _ => h0, fun q => absurd (nI_lt (a := 9) (by omega) (by omega)) q⟩
  | m + 1, z, hz => by
    rw [Rs_eq]
    simp only [E_M_isRest, fIsA, fRt, fLen, fLit, fBool, nI_1]
    exact ⟨fun q => absurd q (nI_nlt (a := 9) (by omega) (by omega)), fun _ => s_MisRest_no h0 m (z + 1) (by omega)⟩
theorem s_MisRest_loop {d : Nat} {Q : Qt} {τ : St} {x y v c : Int32} : ∀ (m z : Nat), z + m = 10 → (arZ x y v c m z → Q (some (.int 1)) τ) → (¬ arZ x y v c m z → Q (some (.int 0)) τ) → Rs M_M_isRest (d + 1) Q 6 [some (.int x), some (.int y), some (.int v), some (.int c), some (.int 1), some (.int (nI z))] [] τ
  | 0, z, hz, h1, h0 => by
    rw [Rs_eq]
    simp only [E_M_isRest, fIsA, fRt, fLen, fLit, fBool]
    exact ⟨fun _ => h1 trivial, fun q => absurd (nI_lt (a := 9) (by omega) (by omega)) q⟩
  | m + 1, z, hz, h1, h0 => by
    rw [Rs_eq]
    simp only [E_M_isRest, fIsA, fRt, fLen, fLit, fBool]
    refine ⟨fun q => absurd q (nI_nlt (a := 9) (by omega) (by omega)), fun _ => ?_⟩
    refine s_Mwall ?_
    simp only [oT, E_M_isRest, fIsA, fRt, fLen, fLit, fBool]
    refine s_Mwall ?_
    simp only [oT, E_M_isRest, fIsA, fRt, fLen, fLit, fBool, nI_1]
    refine ⟨fun q => s_MisRest_no (h0 (fun w => w.1.1 q)) m (z + 1) (by omega), fun q => ?_⟩
    refine s_Mstm ?_
    simp only [oT, E_M_isRest, fIsA, fRt, fLen, fLit, fBool]
    refine s_Mstm ?_
    simp only [oT, E_M_isRest, fIsA, fRt, fLen, fLit, fBool, nI_1]
    refine ⟨fun q2 => s_MisRest_no (h0 (fun w => w.1.2 q2)) m (z + 1) (by omega), fun q2 => ?_⟩
    exact s_MisRest_loop m (z + 1) (by omega) (fun w => h1 ⟨⟨q, q2⟩, w⟩) (fun w => h0 (fun w2 => w w2.2))
theorem s_MisRest {d : Nat} {Q : Qt} {τ : St} {x y v c : Int32} (h1 : arZ x y v c 10 0 → Q (some (.int 1)) τ) (h0 : ¬ arZ x y v c 10 0 → Q (some (.int 0)) τ) : Cl (d + 2) m_M_isRest [.int x, .int y, .int v, .int c] τ Q := by
  rw [N_M_isRest]
  simp only [E_M_isRest, fIsA, fRt, fLen, fLit, fBool]
  exact s_MisRest_loop 10 0 rfl h1 h0
/-- how many pairs at rest, and the first: p pairs so far, of which (a, b) is the first -/
noncomputable def rsS (v c : Int32) (s : Nat × Nat × Nat) (x y : Nat) : Nat × Nat × Nat := @ite _ (arZ (nI x) (nI y) v c 10 0) (Classical.propDecidable _) (s.1 + 1, if s.1 = 0 then (x, y) else s.2) s
noncomputable def rsY (v c : Int32) (x : Nat) : Nat → Nat → Nat × Nat × Nat → Nat × Nat × Nat
  | 0, _, s => s
  | m + 1, y, s => rsY v c x m (y + 1) (rsS v c s x y)
noncomputable def rsX (v c : Int32) : Nat → Nat → Nat × Nat × Nat → Nat × Nat × Nat
  | 0, _, s => s
  | m + 1, x, s => rsX v c m (x + 1) (rsY v c x 10 0 s)
theorem rsY_le (v c : Int32) (x : Nat) : ∀ m y s, (rsY v c x m y s).1 ≤ s.1 + m
  | 0, _, s => Nat.le_refl _
  | m + 1, y, s => by
    refine Nat.le_trans (rsY_le v c x m (y + 1) _) ?_
    unfold rsS
    split
    · show s.1 + 1 + m ≤ _; omega
    · omega
/-- the row of a state -/
def roS (k r z : Nat) (τ : St) (s : Nat × Nat × Nat) : Prop := τ.1 k z = nI (if s.1 = 0 then 0 else 2) ∧ (s.1 ≠ 0 → τ.2 r 0 = (nI s.2.1).toInt64 ∧ τ.2 r 1 = (nI s.2.2).toInt64)
theorem s_HrestsY {d : Nat} {Q : Qt} {v c : Int32} {x : Nat} {τ0 : St} : ∀ (m y : Nat), y + m = 10 → ∀ (s : Nat × Nat × Nat) (τ : St), s.1 + m ≤ 1000 → Fr [4] [(3, 1)] τ0 τ → roS 3 4 1 τ s →
    (∀ τ', Fr [4] [(3, 1)] τ0 τ' → roS 3 4 1 τ' (rsY v c x m y s) → Rs M_H_rests (d + 2) Q 35 [some (.ref 0), some (.int v), some (.int c), some (.int (nI (rsY v c x m y s).1)), some (.int (nI (x + 1))), some (.int 10)] [] τ') →
    Rs M_H_rests (d + 2) Q 45 [some (.ref 0), some (.int v), some (.int c), some (.int (nI s.1)), some (.int (nI x)), some (.int (nI y))] [] τ
  | 0, y, hy, s, τ, hs, hf, hr, hQ => by
    obtain rfl : y = 10 := by omega
    rw [Rs_eq]
    simp only [E_H_rests, fIsA, fRt, fLen, fLit, fBool, nI_1]
    exact ⟨fun _ => hQ τ hf hr, fun q => absurd (by decide) q⟩
  | m + 1, y, hy, s, τ, hs, hf, hr, hQ => by
    rw [Rs_eq]
    simp only [E_H_rests, fIsA, fRt, fLen, fLit, fBool, nI_1]
    refine ⟨fun q => absurd q (nI_nlt (a := 9) (by omega) (by omega)), fun _ => ?_⟩
    refine s_HisAt (fun w => ?_) (fun w => ?_)
    · simp only [oT, E_H_rests, fIsA, fRt, fLen, fLit, fBool, nI_1]
      have e : rsS v c s x y = (s.1 + 1, if s.1 = 0 then (x, y) else s.2) := if_pos w
      rw [rsY, e] at hQ
      refine ⟨fun q => ?_, fun q => ?_⟩
      · have hs0 : s.1 ≠ 0 := fun z => q (by rw [z]; rfl)
        rw [if_neg hs0] at hQ
        refine s_HrestsY m (y + 1) (by omega) (s.1 + 1, s.2) τ (by show s.1 + 1 + m ≤ 1000; omega) hf ?_ hQ
        exact ⟨by rw [hr.1, if_neg hs0, if_neg (Nat.succ_ne_zero _)], fun _ => hr.2 hs0⟩
      · have hs0 : s.1 = 0 := (nI_eq (b := 0) (by omega) (by omega)).mp q
        rw [if_pos hs0] at hQ
        refine s_RowBoth ?_
        simp only [oN, E_H_rests, fIsA, fRt, fLen, fLit, fBool, nI_1]
        refine s_HrestsY m (y + 1) (by omega) (s.1 + 1, x, y) _ (by show s.1 + 1 + m ≤ 1000; omega) (((((hf.i rfl).lc rfl).i rfl).lc rfl).i rfl) ?_ hQ
        exact ⟨by rw [if_neg (Nat.succ_ne_zero _)]; rfl, fun _ => ⟨rfl, rfl⟩⟩
    · simp only [oT, E_H_rests, fIsA, fRt, fLen, fLit, fBool, nI_1]
      have e : rsS v c s x y = s := if_neg w
      rw [rsY, e] at hQ
      exact s_HrestsY m (y + 1) (by omega) s τ (by omega) hf hr hQ
theorem s_MrestsY {d : Nat} {Q : Qt} {v c : Int32} {x : Nat} {τ0 : St} : ∀ (m y : Nat), y + m = 10 → ∀ (s : Nat × Nat × Nat) (τ : St), s.1 + m ≤ 1000 → Fr [70] [(69, 1)] τ0 τ → roS 69 70 1 τ s →
    (∀ τ', Fr [70] [(69, 1)] τ0 τ' → roS 69 70 1 τ' (rsY v c x m y s) → Rs M_M_rests (d + 2) Q 41 [some (.ref 69), some (.int v), some (.int c), some (.int (nI (rsY v c x m y s).1)), some (.int (nI (x + 1))), some (.int 10)] [] τ') →
    Rs M_M_rests (d + 2) Q 51 [some (.ref 69), some (.int v), some (.int c), some (.int (nI s.1)), some (.int (nI x)), some (.int (nI y))] [] τ
  | 0, y, hy, s, τ, hs, hf, hr, hQ => by
    obtain rfl : y = 10 := by omega
    rw [Rs_eq]
    simp only [E_M_rests, fIsA, fRt, fLen, fLit, fBool, nI_1]
    exact ⟨fun _ => hQ τ hf hr, fun q => absurd (by decide) q⟩
  | m + 1, y, hy, s, τ, hs, hf, hr, hQ => by
    rw [Rs_eq]
    simp only [E_M_rests, fIsA, fRt, fLen, fLit, fBool, nI_1]
    refine ⟨fun q => absurd q (nI_nlt (a := 9) (by omega) (by omega)), fun _ => ?_⟩
    refine s_MisRest (fun w => ?_) (fun w => ?_)
    · simp only [oT, E_M_rests, fIsA, fRt, fLen, fLit, fBool, nI_1]
      have e : rsS v c s x y = (s.1 + 1, if s.1 = 0 then (x, y) else s.2) := if_pos w
      rw [rsY, e] at hQ
      refine ⟨fun q => ?_, fun q => ?_⟩
      · have hs0 : s.1 ≠ 0 := fun z => q (by rw [z]; rfl)
        rw [if_neg hs0] at hQ
        refine s_MrestsY m (y + 1) (by omega) (s.1 + 1, s.2) τ (by show s.1 + 1 + m ≤ 1000; omega) hf ?_ hQ
        exact ⟨by rw [hr.1, if_neg hs0, if_neg (Nat.succ_ne_zero _)], fun _ => hr.2 hs0⟩
      · have hs0 : s.1 = 0 := (nI_eq (b := 0) (by omega) (by omega)).mp q
        rw [if_pos hs0] at hQ
        have h0 : τ.1 69 1 = nI 0 := by rw [hr.1, if_pos hs0]
        refine s_Menters h0 (by omega) ?_
        simp only [oN, E_M_rests, fIsA, fRt, fLen, fLit, fBool, nI_1]
        refine s_Menters (n := 1) rfl (by omega) ?_
        simp only [oN, E_M_rests, fIsA, fRt, fLen, fLit, fBool, nI_1]
        refine s_MrestsY m (y + 1) (by omega) (s.1 + 1, x, y) _ (by show s.1 + 1 + m ≤ 1000; omega) ((((hf.lc rfl).i rfl).lc rfl).i rfl) ?_ hQ
        exact ⟨by rw [if_neg (Nat.succ_ne_zero _)]; rfl, fun _ => ⟨rfl, rfl⟩⟩
    · simp only [oT, E_M_rests, fIsA, fRt, fLen, fLit, fBool, nI_1]
      have e : rsS v c s x y = s := if_neg w
      rw [rsY, e] at hQ
      exact s_MrestsY m (y + 1) (by omega) s τ (by omega) hf hr hQ
theorem s_HrestsX {d : Nat} {Q : Qt} {v c : Int32} {τ0 : St} : ∀ (m x : Nat), x + m = 10 → ∀ (s : Nat × Nat × Nat) (τ : St) (u : Option Value), s.1 + 10 * m ≤ 1000 → Fr [4] [(3, 1)] τ0 τ → roS 3 4 1 τ s →
    (∀ τ', Fr [4] [(3, 1)] τ0 τ' → roS 3 4 1 τ' (rsX v c m x s) → Q (some (.int (nI (rsX v c m x s).1))) τ') →
    Rs M_H_rests (d + 2) Q 35 [some (.ref 0), some (.int v), some (.int c), some (.int (nI s.1)), some (.int (nI x)), u] [] τ
  | 0, x, hx, s, τ, u, hs, hf, hr, hQ => by
    obtain rfl : x = 10 := by omega
    rw [Rs_eq]
    simp only [E_H_rests, fIsA, fRt, fLen, fLit, fBool, nI_1]
    exact ⟨fun _ => hQ τ hf hr, fun q => absurd (by decide) q⟩
  | m + 1, x, hx, s, τ, u, hs, hf, hr, hQ => by
    rw [Rs_eq]
    simp only [E_H_rests, fIsA, fRt, fLen, fLit, fBool, nI_1]
    refine ⟨fun q => absurd q (nI_nlt (a := 9) (by omega) (by omega)), fun _ => ?_⟩
    refine s_HrestsY 10 0 rfl s τ (by omega) hf hr (fun τ' hf' hr' => ?_)
    have l := rsY_le v c x 10 0 s
    exact s_HrestsX m (x + 1) (by omega) _ τ' _ (by omega) hf' hr' hQ
theorem s_MrestsX {d : Nat} {Q : Qt} {v c : Int32} {τ0 : St} : ∀ (m x : Nat), x + m = 10 → ∀ (s : Nat × Nat × Nat) (τ : St) (u : Option Value), s.1 + 10 * m ≤ 1000 → Fr [70] [(69, 1)] τ0 τ → roS 69 70 1 τ s →
    (∀ τ', Fr [70] [(69, 1)] τ0 τ' → roS 69 70 1 τ' (rsX v c m x s) → Q (some (.int (nI (rsX v c m x s).1))) τ') →
    Rs M_M_rests (d + 2) Q 41 [some (.ref 69), some (.int v), some (.int c), some (.int (nI s.1)), some (.int (nI x)), u] [] τ
  | 0, x, hx, s, τ, u, hs, hf, hr, hQ => by
    obtain rfl : x = 10 := by omega
    rw [Rs_eq]
    simp only [E_M_rests, fIsA, fRt, fLen, fLit, fBool, nI_1]
    exact ⟨fun _ => hQ τ hf hr, fun q => absurd (by decide) q⟩
  | m + 1, x, hx, s, τ, u, hs, hf, hr, hQ => by
    rw [Rs_eq]
    simp only [E_M_rests, fIsA, fRt, fLen, fLit, fBool, nI_1]
    refine ⟨fun q => absurd q (nI_nlt (a := 9) (by omega) (by omega)), fun _ => ?_⟩
    refine s_MrestsY 10 0 rfl s τ (by omega) hf hr (fun τ' hf' hr' => ?_)
    have l := rsY_le v c x 10 0 s
    exact s_MrestsX m (x + 1) (by omega) _ τ' _ (by omega) hf' hr' hQ
theorem p_rests (t : Nat) (v c : Int32) : PrI t m_H_rests m_M_rests [.int v, .int c] := by
  intro ht0 τ h
  obtain ⟨R, C, kd, ht, ns, n, hA, hT, hR⟩ := h
  rw [N_H_rests]
  simp only [E_H_rests, fIsA, fRt, fLen, fLit, fBool]
  have fin := ok rfl (hA.inv3 hT hR (fr690 (v := 0)) rfl) (x := -1)
  have no : ¬ ((1 ≤ v ∧ v ≤ nI 99) ∧ 0 ≤ c ∧ c ≤ nI 20) → Cl 900 m_M_rests [Value.ref 69, Value.int v, Value.int c] τ fun b τ2 => (∃ x, some (Value.int (-1)) = some (Value.int x) ∧ b = some (Value.int x)) ∧ Inv (t + 1) τ2 := fun q => by
    rw [N_M_rests]
    simp only [E_M_rests, fIsA, fRt, fLen, fLit, fBool, sI_1, reduceIte, Nat.reduceEqDiff]
    refine s_inI 1 rfl (nI 99) rfl (fun c1 c2 => ?_) (fun _ => ?_)
    · simp only [oT, E_M_rests, fIsA, fRt, fLen, fLit, fBool]
      refine s_inI 0 rfl (nI 20) rfl (fun c3 c4 => absurd ⟨⟨c1, c2⟩, c3, c4⟩ q) (fun _ => ?_)
      simp only [oT, E_M_rests, fIsA, fRt, fLen, fLit, fBool]
      exact fin
    · simp only [oT, E_M_rests, fIsA, fRt, fLen, fLit, fBool]
      exact fin
  by_cases q : (1 ≤ v ∧ v ≤ nI 99) ∧ 0 ≤ c ∧ c ≤ nI 20
  · refine ⟨fun z => absurd z (nlt q.1.1), fun _ => ⟨fun z => absurd z (nlt q.1.2), fun _ => ⟨fun z => absurd z (nlt q.2.1), fun _ => ⟨fun _ => ?_, fun z => absurd q.2.2 z⟩⟩⟩⟩
    rw [N_Row_clear]
    simp only [E_Row_clear, oN, E_H_rests, fIsA, fRt, fLen, fLit, fBool]
    refine s_HrestsX 10 0 rfl (0, 0, 0) _ _ (by decide) ((Fr.rf (τ := τ)).i rfl) ⟨rfl, fun z => absurd rfl z⟩ (fun τ1 f1 r1 => ?_)
    rw [N_M_rests]
    simp only [E_M_rests, fIsA, fRt, fLen, fLit, fBool, sI_1, reduceIte, Nat.reduceEqDiff]
    refine s_inI 1 rfl (nI 99) rfl (fun c1 c2 => ?_) (fun z => absurd q.1 z)
    simp only [oT, E_M_rests, fIsA, fRt, fLen, fLit, fBool]
    refine s_inI 0 rfl (nI 20) rfl (fun c3 c4 => ?_) (fun z => absurd q.2 z)
    simp only [oT, E_M_rests, fIsA, fRt, fLen, fLit, fBool]
    refine s_MrestsX 10 0 rfl (0, 0, 0) _ _ (by decide) ((Fr.rf (τ := sI τ1 69 0 0)).i rfl) ⟨rfl, fun z => absurd rfl z⟩ (fun τ2 f2 r2 => ?_)
    have f3 : Fr [4, 70] [(3, 1), (69, 0), (69, 1)] τ τ2 := ((f1.wk rfl).i rfl).tr (f2.wk rfl)
    refine ok rfl (hA.inv f3 rfl (hT.fr f3 rfl) ?_)
    generalize rsX v c 10 0 (0, 0, 0) = s at r1 r2 ⊢
    have g1 : τ2.1 3 1 = τ1.1 3 1 := (f2.u1 3 1 rfl).trans rfl
    have g2 : ∀ j, τ2.2 4 j = τ1.2 4 j := fun j => by rw [f2.c2 4 rfl]; rfl
    by_cases z : s.1 = 0
    · refine ⟨0, by omega, ?_, ?_, fun j hj => absurd hj (Nat.not_lt_zero j)⟩
      · rw [g1, r1.1, if_pos z]
      · rw [r2.1, if_pos z]
    · refine RoI.two ?_ ?_ ?_ (r2.2 z).1 ?_ (r2.2 z).2
      · rw [g1, r1.1, if_neg z]; rfl
      · rw [r2.1, if_neg z]; rfl
      · rw [g2]; exact (r1.2 z).1
      · rw [g2]; exact (r1.2 z).2
  · have no := no q
    exact ⟨fun _ => no, fun z1 => ⟨fun _ => no, fun z2 => ⟨fun _ => no, fun z3 => ⟨fun z4 => absurd ⟨⟨Int32.not_lt.mp z1, Int32.not_lt.mp z2⟩, Int32.not_lt.mp z3, z4⟩ q, fun _ => no⟩⟩⟩⟩
