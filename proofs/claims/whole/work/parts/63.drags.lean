/-! DRAGS of a rule -/
def clp (v : Int32) : Int32 := if 0 < (if v < 999 then v else 999) then (if v < 999 then v else 999) else 0
def bas (a : Nat → Int32) : Int32 := a 0 * (1 + a 1) / (if a 3 = 1 then 3 else 1) + 1
theorem s_dragOf {d ρ n : Nat} {Q : Qt} {τ : St} (hρ : ρ = 53 ∨ ρ = 56) {S a : Nat → Int32} {rise : Int32} (hu : (if 0 < rise then rise else 0) = a 1) (hv : (if 0 < -rise then -rise else 0) = a 2) (hn : n ≤ 40) (h1 : τ.1 ρ 1 = nI n) (h2 : ∀ j, j < n → τ.1 (ρ + 1) j = S j) (hok : 0 < n → okR (fun i => kdC (S i)) n 0 0)
    (hQ : ∀ v τ', (n = 0 → v = bas a) → (0 < n → runC S a n 0 [] = [v]) → Fr [ρ + 2] [(ρ, 3)] τ τ' → Q (some (.int (clp v))) τ') : Cl (d + 3) m_Rule_dragOf [.ref ρ, .int (a 0), .int rise, .int (a 3), .int (a 4)] τ Q := by
  obtain ⟨r1, r2, r3, r4, r5, r6, r7⟩ := rho hρ
  rw [N_Rule_dragOf]
  simp only [E_Rule_dragOf, fIsA, fRt, fLen, fLit, fBool, r1, r2, r3, r4, r5, r6, r7, h1, hu]
  refine ⟨fun z => ?_, fun z => ?_⟩
  · have hn0 : 0 < n := Nat.pos_of_ne_zero (fun q => z (by rw [q]; rfl))
    rw [N_Rule_worked]
    simp only [E_Rule_worked, fIsA, fRt, fLen, fLit, fBool, r1, r2, r3, r4, r5, r6, r7]
    have e2 : (ρ + 1 = ρ) = False := eq_false (by omega)
    refine s_worked_loop (τ0 := τ) hρ hu hv hn (fun x τ' hx f => ?_) n 0 (by omega) [] _ _ ⟨?_, fun j hj => ?_, ?_, trivial, Fr.rf.i (by simp [subF])⟩ (Nat.le_refl _) (hok hn0) rfl
    · simp only [oT, E_Rule_dragOf, fIsA, fRt, fLen, fLit, fBool]
      exact hQ x τ' (fun q => absurd q (by omega)) (fun _ => hx) f
    · simp only [sI_1, reduceIte, Nat.reduceEqDiff]; exact h1
    · simp only [sI_1, e2, reduceIte]; exact h2 j hj
    · simp only [sI_1, reduceIte]; rfl
  · have hn0 : n = 0 := (nI_eq (b := 0) (by omega) (by omega)).mp z
    have q := hQ (bas a) τ (fun _ => rfl) (fun w => absurd w (by omega)) Fr.rf
    unfold bas clp at q
    refine ⟨fun z3 => ?_, fun z3 => ⟨by decide, ?_⟩⟩
    · rw [if_neg z3] at q; exact q
    · rw [if_pos z3] at q; exact q
theorem s_ruled {d m : Nat} {Q : Qt} {τ : St} {S a : Nat → Int32} (hm : m ≤ 80) (h1 : τ.1 69 24 = nI m) (h2 : ∀ j, j < m → τ.1 80 j = S j) (h3 : ∀ k, k < 5 → τ.1 83 k = a k) (hg : a 3 = 0 ∨ a 3 = 1) (hcd : 0 < m → ∀ i, i < m → S i < 1005 ∨ 2000 ≤ S i) (hok : 0 < m → okR (fun i => kdM (S i)) m 0 0)
    (hQ : ∀ v τ', (m = 0 → v = bas a) → (0 < m → runM S a m 0 [] = [v]) → Fr [82] [] τ τ' → Q (some (.int v)) τ') : Cl (d + 3) m_M_ruled [.ref 69] τ Q := by
  rw [N_M_ruled]
  simp only [E_M_ruled, fIsA, fRt, fLen, fLit, fBool]
  by_cases c : 0 < m
  · exact s_ruled_loop (τ0 := τ) hm c (hcd c) (fun x τ' hx f => hQ x τ' (fun q => absurd q (by omega)) (fun _ => hx) f) m 0 (by omega) [] τ _ ⟨h1, h2, h3, trivial, Fr.rf⟩ (Nat.le_refl _) (hok c) rfl
  · obtain rfl : m = 0 := by omega
    have q := hQ (bas a) τ (fun _ => rfl) (fun w => absurd w (by omega)) Fr.rf
    rw [Rs_eq]
    simp only [E_M_ruled, fIsA, fRt, fLen, fLit, fBool, fIx, h1, h3 0 (by omega), h3 1 (by omega), h3 3 (by omega)]
    unfold bas at q
    refine ⟨fun _ => ⟨fun z => absurd rfl z, fun _ => ?_⟩, fun z => absurd (by decide) z⟩
    rcases hg with g | g
    · rw [g, if_neg (by decide)] at q
      rw [g, show (1 : Int32) + 2 * 0 = 1 by decide]
      exact ⟨by decide, q⟩
    · rw [g, if_pos rfl] at q
      rw [g, show (1 : Int32) + 2 * 1 = 3 by decide]
      exact ⟨by decide, q⟩
theorem s_pullBy {d k : Nat} {v : Int32} {Q : Qt} {τ : St} (hk : k < 2 ^ 31) (hQ : Q (some (.int (if k = 3 then v + v / 2 else v))) τ) : Cl (d + 1) m_H_pullBy [.int v, .int (nI k)] τ Q := by
  rw [N_H_pullBy]
  simp only [E_H_pullBy, fIsA, fRt, fLen, fLit, fBool]
  refine ⟨fun z => ?_, fun z => ⟨by decide, ?_⟩⟩
  · rwa [if_neg (fun q => z (by rw [q]; rfl))] at hQ
  · rwa [if_pos ((nI_eq (b := 3) hk (by omega)).mp z)] at hQ
/-- what the reference is asked: a weight, up, down, planks, hour -/
def aq (w u v p h : Int32) (k : Nat) : Int32 := if k = 0 then w else if k = 1 then u else if k = 2 then v else if k = 3 then p else h
theorem s_MpullOf {d m i f1 f2 : Nat} {kd ht : Nat → Nat} {R C : Nat} {Q : Qt} {τ : St} {S : Nat → Int32} {w p h : Int32} (g : GI τ R C kd ht) (hf1 : f1 < R * C) (hf2 : f2 < R * C) (hi : i < 2 ^ 31) (hp : τ.1 75 f2 = p) (hg : p = 0 ∨ p = 1) (hm : m ≤ 80) (h1 : τ.1 69 24 = nI m) (h2 : ∀ j, j < m → τ.1 80 j = S j) (hcd : 0 < m → ∀ i, i < m → S i < 1005 ∨ 2000 ≤ S i) (hok : 0 < m → okR (fun i => kdM (S i)) m 0 0)
    (hQ : ∀ v τ', (m = 0 → v = bas (aq w (if 0 < nI (ht f2) - nI (ht f1) then nI (ht f2) - nI (ht f1) else 0) (if 0 < nI (ht f1) - nI (ht f2) then nI (ht f1) - nI (ht f2) else 0) p h)) → (0 < m → runM S (aq w (if 0 < nI (ht f2) - nI (ht f1) then nI (ht f2) - nI (ht f1) else 0) (if 0 < nI (ht f1) - nI (ht f2) then nI (ht f1) - nI (ht f2) else 0) p h) m 0 [] = [v]) → Fr [82, 83] [] τ τ' → Q (some (.int (if i % 4 = 3 then clp v + clp v / 2 else clp v))) τ') :
    Cl (d + 4) m_M_pullOf [.ref 69, .ref 75, .int w, .int (nI f1), .int (nI f2), .int (nI i), .int h] τ Q := by
  have hn := g.n36
  have e4 : nI i - nI i / 4 * 4 = nI (i % 4) := pk_rem (d := 4) hi (by omega) (by omega)
  rw [N_M_pullOf]
  simp only [E_M_pullOf, fIsA, fRt, fLen, fLit, fBool, fIx, nI_clamp (show f1 < 2 ^ 31 by omega), nI_clamp (show f2 < 2 ^ 31 by omega), (g.2.2.1 f1 hf1).2.2.1, (g.2.2.1 f2 hf2).2.2.1, sI_1, reduceIte, Nat.reduceEqDiff, hp]
  have fr : Fr [82, 83] [] τ (sI (sI (sI (sI (sI τ 83 0 w) 83 1 (if 0 < nI (ht f2) - nI (ht f1) then nI (ht f2) - nI (ht f1) else 0)) 83 2 (if 0 < nI (ht f1) - nI (ht f2) then nI (ht f1) - nI (ht f2) else 0)) 83 3 p) 83 4 h) := ((((Fr.rf.ic rfl).ic rfl).ic rfl).ic rfl).ic rfl
  refine ⟨vp_in_nI (by omega) (by omega), vp_in_nI (by omega) (by omega), vp_in_nI (by omega) (by omega), vp_in_nI (by omega) (by omega), vp_in_nI (by omega) (by omega), ?_⟩
  generalize hU : (if 0 < nI (ht f2) - nI (ht f1) then nI (ht f2) - nI (ht f1) else 0) = U at hQ fr ⊢
  generalize hV : (if 0 < nI (ht f1) - nI (ht f2) then nI (ht f1) - nI (ht f2) else 0) = V at hQ fr ⊢
  refine s_ruled (m := m) (S := S) (a := aq w U V p h) hm ((fr.u1 69 24 rfl).trans h1) (fun j hj => (fr.c1 80 rfl j).trans (h2 j hj)) (fun k hk => ?_) hg hcd hok (fun v τ' b1 b2 f => ?_)
  · rcases (show k = 0 ∨ k = 1 ∨ k = 2 ∨ k = 3 ∨ k = 4 by omega) with rfl | rfl | rfl | rfl | rfl <;> simp only [sI_1, reduceIte, Nat.reduceEqDiff, aq]
  · have q := hQ v τ' b1 b2 (fr.tr (f.wk rfl))
    simp only [oT, E_M_pullOf, fIsA, fRt, fLen, fLit, fBool, e4]
    refine ⟨by decide, fun z => ?_, fun z => ⟨by decide, ?_⟩⟩
    · rw [if_neg (fun w => z (by rw [w]; rfl))] at q
      rw [Int32.add_zero]
      exact q
    · rw [if_pos ((nI_eq (b := 3) (by omega) (by omega)).mp z)] at q
      exact q
