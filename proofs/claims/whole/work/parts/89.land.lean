/-! LAND told: the reference; what good land looks like -/
theorem laR_str {g : Nat → Nat} {n w : Nat} : ∀ (f y p Y P : Nat), laR g n w f y p = (true, Y, P) → p ≤ n → p + 1 = y * (w + 1) → (∀ r c, r < y → c < w → isF (g (r * (w + 1) + c))) → (∀ r, r + 1 < y → g (r * (w + 1) + w) = 47) →
    (y ≤ Y ∧ Y ≤ y + f) ∧ P = n ∧ n + 1 = Y * (w + 1) ∧ (∀ r c, r < Y → c < w → isF (g (r * (w + 1) + c))) ∧ ∀ r, r + 1 < Y → g (r * (w + 1) + w) = 47
  | f, y, p, Y, P, h, hp, hy, h1, h2 => by
    by_cases e : p = n
    · rw [laR_end e] at h
      cases h
      exact ⟨⟨Nat.le_refl _, Nat.le_add_right _ _⟩, e, by rw [← e]; exact hy, h1, h2⟩
    · cases f with
      | zero => rw [laR_no e (Or.inl rfl)] at h; cases h
      | succ f =>
        by_cases c : p < n ∧ g p = 47
        · by_cases c3 : rlF g n w (p + 1) < w
          · rw [laR_bad e c c3] at h; cases h
          · rw [laR_go e c c3] at h
            have rl := rl_le (g := g) (m := n) w (p + 1) c.1
            have ey : (y + 1) * (w + 1) = y * (w + 1) + (w + 1) := Nat.succ_mul y (w + 1)
            have ih := laR_str f (y + 1) (p + 1 + w) Y P h (by omega) (by omega) (fun r c' hr hc => ?_) (fun r hr => ?_)
            · exact ⟨⟨by omega, by omega⟩, ih.2⟩
            · by_cases q : r = y
              · subst q
                exact rl.2.2 _ (by omega) (by omega)
              · exact h1 r c' (by omega) hc
            · by_cases q : r + 1 = y
              · subst q
                have er : (r + 1) * (w + 1) = r * (w + 1) + (w + 1) := Nat.succ_mul r (w + 1)
                rw [show r * (w + 1) + w = p by omega]
                exact c.2
              · exact h2 r (by omega)
        · rw [laR_no e (Or.inr c)] at h; cases h
theorem laR_n {g : Nat → Nat} {n w : Nat} : ∀ (f y p : Nat), p ≤ n → (laR g n w f y p).2.2 ≤ n
  | f, y, p, hp => by
    by_cases e : p = n
    · rw [laR_end e]; exact hp
    · cases f with
      | zero => rw [laR_no e (Or.inl rfl)]; exact hp
      | succ f =>
        by_cases c : p < n ∧ g p = 47
        · have rl := rl_le (g := g) (m := n) w (p + 1) c.1
          by_cases c3 : rlF g n w (p + 1) < w
          · rw [laR_bad e c c3]; exact rl.2.1
          · rw [laR_go e c c3]
            exact laR_n f (y + 1) (p + 1 + w) (by omega)
        · rw [laR_no e (Or.inr c)]; exact hp
theorem amF {g : Nat → Nat} {p m : Nat} (hg : p < m → g p < 256) : (p < m ∧ isF (g p) → amO 0 g p m = nI (xF (g p))) ∧ (¬ (p < m ∧ isF (g p)) → amO 0 g p m = -1) := by
  refine ⟨fun h => ?_, fun h => ?_⟩
  · unfold amO
    rw [if_pos h.1, am0 _ (hg h.1), if_pos h.2]
  · unfold amO
    by_cases c : p < m
    · rw [if_pos c, am0 _ (hg c), if_neg (fun z => h ⟨c, z⟩)]
    · rw [if_neg c]
theorem xF_le (b : Nat) (h : isF b) : xF b ≤ 12 := by
  unfold xF
  split
  · omega
  · split
    · omega
    · split <;> omega
section LR
variable {d n p : Nat} {Q : Qt} {g : Nat → Nat}
theorem s_readsRow {y W : Nat} {τ : St} (M : MR τ g n p n) (h19 : τ.1 69 19 = nI W) (hy : y ≤ 5) (hW : W ≤ 6) (hp : p ≤ n) (k : Nat) (hk0 : y = 0 → k = 6) (hk1 : y ≠ 0 → k = W)
    (hQ : ∀ τ', Fr [78] [(69, 15), (69, 19)] τ τ' → τ'.1 69 15 = nI (p + rlF g n k p) → τ'.1 69 19 = nI (if y = 0 then rlF g n k p else W) → (∀ j, j < rlF g n k p → τ'.1 78 (W * y + j) = nI (xF (g (p + j)))) → (∀ j, j < W * y → τ'.1 78 j = τ.1 78 j) → Q (some (.int (if 0 < rlF g n k p ∧ (y = 0 ∨ rlF g n k p = W) then 1 else 0))) τ') : Cl (d + 6) m_M_readsRow [.ref 69, .int (nI y)] τ Q := by
  have hn80 : n ≤ 80 := M.2.2.2.2.1
  have hk6 : k ≤ 6 := by
    by_cases c : y = 0
    · rw [hk0 c]; omega
    · rw [hk1 c]; exact hW
  have hWy : W * y ≤ 30 := Nat.mul_le_mul hW hy
  -- the end of a row
  have fin : ∀ (x : Nat) (τ1 : St), x = rlF g n k p → MR τ1 g n (p + x) n → Fr [78] [(69, 15)] τ τ1 → (∀ j, j < x → τ1.1 78 (W * y + j) = nI (xF (g (p + j)))) → (∀ j, j < W * y → τ1.1 78 j = τ.1 78 j) →
      (¬ nI y = 0 → (nI x ≤ 0 → Q (some (.int 0)) (sI τ1 69 19 (nI W))) ∧ (¬ nI x ≤ 0 → (¬ nI x = nI W → Q (some (.int 0)) (sI τ1 69 19 (nI W))) ∧ (nI x = nI W → Q (some (.int 1)) (sI τ1 69 19 (nI W))))) ∧ (nI y = 0 → (nI x ≤ 0 → Q (some (.int 0)) (sI τ1 69 19 (nI x))) ∧ (¬ nI x ≤ 0 → Q (some (.int 1)) (sI τ1 69 19 (nI x)))) := fun x τ1 hx M1 fr hr ho => by
    have rl := rl_le (g := g) (m := n) k p hp
    subst hx
    refine ⟨fun hy0 => ?_, fun hy0 => ?_⟩
    · have hy0 : y ≠ 0 := fun z => hy0 (by rw [z]; rfl)
      have q := hQ (sI τ1 69 19 (nI W)) ((fr.wk rfl).i rfl) M1.1 (by rw [if_neg hy0]; rfl) hr ho
      refine ⟨fun z => ?_, fun z => ⟨fun z2 => ?_, fun z2 => ?_⟩⟩
      · have z := (nI_leI (b := 0) (by omega) (by omega)).mp z
        rw [if_neg (by omega)] at q; exact q
      · rw [if_neg (fun w => by rcases w.2 with w | w
                                · exact hy0 w
                                · exact z2 (by rw [w]))] at q
        exact q
      · have z2 := (nI_eq (by omega) (by omega)).mp z2
        have z : rlF g n k p ≠ 0 := fun w => z (by rw [w]; exact Int32.le_refl _)
        rw [if_pos ⟨by omega, Or.inr z2⟩] at q; exact q
    · have hy0 := (nI_eq (b := 0) (by omega) (by omega)).mp hy0
      have q := hQ (sI τ1 69 19 (nI (rlF g n k p))) ((fr.wk rfl).i rfl) M1.1 (by rw [if_pos hy0]; rfl) hr ho
      refine ⟨fun z => ?_, fun z => ?_⟩
      · have z := (nI_leI (b := 0) (by omega) (by omega)).mp z
        rw [if_neg (by omega)] at q; exact q
      · have z : rlF g n k p ≠ 0 := fun w => z (by rw [w]; exact Int32.le_refl _)
        rw [if_pos ⟨by omega, Or.inl hy0⟩] at q; exact q
  have loop : ∀ (f x : Nat) (τ1 : St), x + f = k → p + x ≤ n → MR τ1 g n (p + x) n → Fr [78] [(69, 15)] τ τ1 → (∀ j, j < x → τ1.1 78 (W * y + j) = nI (xF (g (p + j)))) → (∀ j, j < W * y → τ1.1 78 j = τ.1 78 j) → x + rlF g n f (p + x) = rlF g n k p → Rs M_M_readsRow (d + 5) Q 24 [some (.ref 69), some (.int (nI y)), some (.int (nI k)), some (.int (nI x)), some (.int (amO 0 g (p + x) n))] [] τ1 := by
    intro f
    induction f with
    | zero =>
      intro x τ1 hx hpx M1 fr hr ho hrl
      have hrl : x = rlF g n k p := hrl
      have e19 : τ1.1 69 19 = nI W := (fr.u1 69 19 rfl).trans h19
      have F := fin x τ1 hrl M1 fr hr ho
      rw [Rs_eq]
      simp only [E_M_readsRow, fIsA, fRt, fLen, fLit, fBool, e19, sI_1, reduceIte, Nat.reduceEqDiff]
      exact ⟨fun _ => F, fun z => absurd (nI_le (by omega) (by omega)) z⟩
    | succ f ih =>
      intro x τ1 hx hpx M1 fr hr ho hrl
      have e19 : τ1.1 69 19 = nI W := (fr.u1 69 19 rfl).trans h19
      have am := amF (g := g) (p := p + x) (m := n) (fun h => (M.2.2.2.2.2 _ h).2)
      rw [Rs_eq]
      simp only [E_M_readsRow, fIsA, fRt, fLen, fLit, fBool, e19, sI_1, reduceIte, Nat.reduceEqDiff]
      refine ⟨fun z => absurd z (nI_ge (by omega) (by omega)), fun _ => ⟨fun z => ?_, fun z => ?_⟩⟩
      · have c : ¬ (p + x < n ∧ isF (g (p + x))) := fun w => by
          rw [am.1 w] at z
          have := xF_le _ w.2
          exact nI_pos (by omega) z
        rw [rl_n c] at hrl
        exact fin x τ1 hrl M1 fr hr ho
      · have c : p + x < n ∧ isF (g (p + x)) := by
          refine Classical.byContradiction (fun w => z ?_)
          rw [am.2 w]
          decide
        rw [rl_y c] at hrl
        rw [am.1 c]
        have ix : nI W * nI y + nI x = nI (W * y + x) := by rw [pk_mul]; exact nI_add _ _
        simp only [M1.1, nI_1, ix, nI_clamp (show W * y + x < 2 ^ 31 by omega)]
        refine ⟨vp_in_nI (by omega) (by omega), ?_⟩
        have e19' : (sI τ1 69 15 (nI (p + x + 1))).1 69 19 = nI W := e19
        generalize hA : sI (sI τ1 69 15 (nI (p + x + 1))) 78 (W * y + x) (nI (xF (g (p + x)))) = A
        have fA : Fr [78] [(69, 15)] τ1 A := by rw [← hA]; exact (Fr.rf.i rfl).ic rfl
        have MA : MR A g n (p + (x + 1)) n := M1.fr fA rfl (by rw [← hA]; rfl) (by omega)
        refine s_among MA (by omega) ?_
        simp only [oT, E_M_readsRow, fIsA, fRt, fLen, fLit, fBool, nI_1]
        refine ih (x + 1) A (by omega) (by omega) MA (fr.tr fA) (fun j hj => ?_) (fun j hj => ?_) (by rw [← Nat.add_assoc]; omega)
        · rw [← hA]
          simp only [sI_1, reduceIte, Nat.reduceEqDiff]
          by_cases e : j = x
          · subst e; rw [if_pos rfl]
          · rw [if_neg (by omega)]; exact hr j (by omega)
        · rw [← hA]
          simp only [sI_1, reduceIte, Nat.reduceEqDiff]
          rw [if_neg (by omega)]
          exact ho j hj
  have start := loop k 0 τ (by omega) hp M Fr.rf (fun j hj => absurd hj (Nat.not_lt_zero j)) (fun _ _ => rfl) (Nat.zero_add _)
  rw [N_M_readsRow]
  simp only [E_M_readsRow, fIsA, fRt, fLen, fLit, fBool]
  refine ⟨fun z => ?_, fun z => ?_⟩
  · rw [hk1 (fun w => z (by rw [w]; rfl))] at start
    refine s_among M (by omega) ?_
    simp only [oT, E_M_readsRow, fIsA, fRt, fLen, fLit, fBool, h19]
    exact start
  · rw [hk0 ((nI_eq (b := 0) (by omega) (by omega)).mp z)] at start
    refine s_among M (by omega) ?_
    simp only [oT, E_M_readsRow, fIsA, fRt, fLen, fLit, fBool]
    exact start
end LR
