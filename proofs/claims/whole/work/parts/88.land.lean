/-! LAND told: rows of fields, read by both -/
abbrev isF (b : Nat) : Prop := (48 ≤ b ∧ b ≤ 57) ∨ b = 126 ∨ b = 42 ∨ b = 35
def kF (b : Nat) : Nat := if b = 126 then 1 else if b = 42 then 2 else if b = 35 then 3 else 0
def hF (b : Nat) : Nat := if 48 ≤ b ∧ b ≤ 57 then b - 48 else 0
def xF (b : Nat) : Nat := if 48 ≤ b ∧ b ≤ 57 then b - 48 else if b = 126 then 10 else if b = 42 then 11 else 12
theorem am0 : ∀ b, b < 256 → ixO (sBy.getD 0 []) 0 (nI b) = if isF b then nI (xF b) else -1 := by decide +kernel
/-- how many fields stand at p, of k at most -/
def rlF (g : Nat → Nat) (m : Nat) : Nat → Nat → Nat
  | 0, _ => 0
  | k + 1, p => if p < m ∧ isF (g p) then rlF g m k (p + 1) + 1 else 0
theorem rl_y {g : Nat → Nat} {m k p : Nat} (h : p < m ∧ isF (g p)) : rlF g m (k + 1) p = rlF g m k (p + 1) + 1 := by rw [rlF, if_pos h]
theorem rl_n {g : Nat → Nat} {m k p : Nat} (h : ¬ (p < m ∧ isF (g p))) : rlF g m (k + 1) p = 0 := by rw [rlF, if_neg h]
theorem rl_le {g : Nat → Nat} {m : Nat} : ∀ (k p : Nat), p ≤ m → rlF g m k p ≤ k ∧ p + rlF g m k p ≤ m ∧ ∀ j, p ≤ j → j < p + rlF g m k p → isF (g j)
  | 0, p, h => ⟨Nat.le_refl _, h, fun j h1 h2 => by have h2 : j < p + 0 := h2; omega⟩
  | k + 1, p, h => by
    by_cases c : p < m ∧ isF (g p)
    · rw [rl_y c]
      have ih := rl_le (g := g) k (p + 1) c.1
      refine ⟨by omega, by omega, fun j h1 h2 => ?_⟩
      by_cases e : j = p
      · rw [e]; exact c.2
      · exact ih.2.2 j (by omega) (by omega)
    · rw [rl_n c]
      exact ⟨by omega, h, fun j h1 h2 => by omega⟩
/-- rows of w behind y of them, at place p, f more at most -/
def laR (g : Nat → Nat) (n w : Nat) : Nat → Nat → Nat → Bool × Nat × Nat
  | 0, y, p => if p = n then (true, y, p) else (false, y, p)
  | f + 1, y, p => if p = n then (true, y, p) else if p < n ∧ g p = 47 then (if rlF g n w (p + 1) < w then (false, y, p + 1 + rlF g n w (p + 1)) else laR g n w f (y + 1) (p + 1 + w)) else (false, y, p)
theorem laR_end {g : Nat → Nat} {n w f y p : Nat} (h : p = n) : laR g n w f y p = (true, y, p) := by
  cases f <;> rw [laR, if_pos h]
theorem laR_no {g : Nat → Nat} {n w f y p : Nat} (h : p ≠ n) (h2 : f = 0 ∨ ¬ (p < n ∧ g p = 47)) : laR g n w f y p = (false, y, p) := by
  cases f with
  | zero => rw [laR, if_neg h]
  | succ f =>
    rw [laR, if_neg h, if_neg]
    rcases h2 with h2 | h2
    · cases h2
    · exact h2
theorem laR_bad {g : Nat → Nat} {n w f y p : Nat} (h : p ≠ n) (h2 : p < n ∧ g p = 47) (h3 : rlF g n w (p + 1) < w) : laR g n w (f + 1) y p = (false, y, p + 1 + rlF g n w (p + 1)) := by rw [laR, if_neg h, if_pos h2, if_pos h3]
theorem laR_go {g : Nat → Nat} {n w f y p : Nat} (h : p ≠ n) (h2 : p < n ∧ g p = 47) (h3 : ¬ rlF g n w (p + 1) < w) : laR g n w (f + 1) y p = laR g n w f (y + 1) (p + 1 + w) := by rw [laR, if_neg h, if_pos h2, if_neg h3]
/-- land told by n signs: whether it is good, how many rows, the place of the fault -/
def laT (g : Nat → Nat) (n : Nat) : Bool × Nat × Nat := if rlF g n 6 0 = 0 then (false, 0, 0) else laR g n (rlF g n 6 0) 5 1 (rlF g n 6 0)
def swK : List (Int32 × Nat) := [(35, 40), (42, 38), (126, 36)]
section LA
variable {d n p m : Nat} {Q : Qt} {τ : St} {g : Nat → Nat}
theorem s_kindTold {b : Nat} (hb : b < 256) (h1 : isF b → Q (some (.int (nI (kF b)))) τ) (h0 : ¬ isF b → Q (some (.int (-1))) τ) : Cl (d + 1) m_Ground_kindTold [.int (nI b)] τ Q := by
  rw [N_Ground_kindTold]
  simp only [E_Ground_kindTold, fIsA, fRt, fLen, fLit, fBool]
  refine ⟨fun q hq hx => ?_, fun hx => ?_⟩
  · simp only [List.mem_cons, List.not_mem_nil, or_false] at hq
    rcases hq with rfl | rfl | rfl
    · have e : b = 35 := (nI_eq (b := 35) (by omega) (by omega)).mp hx
      subst e
      simp only [E_Ground_kindTold, fIsA, fRt, fLen, fLit, fBool]
      exact h1 (by decide)
    · have e : b = 42 := (nI_eq (b := 42) (by omega) (by omega)).mp hx
      subst e
      simp only [E_Ground_kindTold, fIsA, fRt, fLen, fLit, fBool]
      exact h1 (by decide)
    · have e : b = 126 := (nI_eq (b := 126) (by omega) (by omega)).mp hx
      subst e
      simp only [E_Ground_kindTold, fIsA, fRt, fLen, fLit, fBool]
      exact h1 (by decide)
  · have n35 : b ≠ 35 := fun z => hx (35, 40) (by decide) (by rw [z]; rfl)
    have n42 : b ≠ 42 := fun z => hx (42, 38) (by decide) (by rw [z]; rfl)
    have n126 : b ≠ 126 := fun z => hx (126, 36) (by decide) (by rw [z]; rfl)
    refine ⟨fun z => h0 ?_, fun z => ⟨fun z2 => h0 ?_, fun z2 => ?_⟩⟩
    · have := (nI_ltI (b := 48) (by omega) (by omega)).mp z
      omega
    · have := (nI_ltI (a := 57) (by omega) (by omega)).mp z2
      omega
    · have z : ¬ b < 48 := fun w => z (nI_lt (b := 48) w (by omega))
      have z2 : ¬ 57 < b := fun w => z2 (nI_lt (a := 57) w (by omega))
      have := h1 (by omega)
      unfold kF at this
      rw [if_neg n126, if_neg n42, if_neg n35] at this
      exact this
theorem s_kindToldE (h0 : Q (some (.int (-1))) τ) : Cl (d + 1) m_Ground_kindTold [.int (-1)] τ Q := by
  rw [N_Ground_kindTold]
  simp only [E_Ground_kindTold, fIsA, fRt, fLen, fLit, fBool]
  refine ⟨fun q hq hx => absurd hx ((by decide : ∀ q ∈ swK, ¬ (-1 : Int32) = q.1) q hq), fun _ => ?_⟩
  exact ⟨fun _ => h0, fun z => absurd (by decide) z⟩
theorem s_fieldsAhead {k : Nat} (T : TT τ g n p m) (hk : k ≤ 6) (hp : p ≤ m) (hQ : Q (some (.int (nI (rlF g m k p)))) (sI τ 1 2 (nI (p + rlF g m k p)))) : Cl (d + 2) m_Ground_fieldsAhead [.ref 1, .int (nI k)] τ Q := by
  have hm : m ≤ n ∧ n ≤ 80 := ⟨T.2.2.2.2.1, T.2.2.2.2.2.1⟩
  have loop : ∀ (f i : Nat), i + f = k → p + i ≤ m → i + rlF g m f (p + i) = rlF g m k p → Rs M_Ground_fieldsAhead (d + 1) Q 2 [some (.ref 1), some (.int (nI k)), some (.int (nI i))] [] (sI τ 1 2 (nI (p + i))) := by
    intro f
    induction f with
    | zero =>
      intro i hi hpi hr
      have hr : i = rlF g m k p := hr
      obtain rfl : i = k := by omega
      rw [← hr] at hQ
      rw [Rs_eq]
      simp only [E_Ground_fieldsAhead, fIsA, fRt, fLen, fLit, fBool]
      exact ⟨fun _ => hQ, fun z => absurd (Int32.le_refl _) z⟩
    | succ f ih =>
      intro i hi hpi hr
      have T1 := T.go (q := p + i) (by omega)
      rw [Rs_eq]
      simp only [E_Ground_fieldsAhead, fIsA, fRt, fLen, fLit, fBool]
      refine ⟨fun z => absurd z (nI_ge (by omega) (by omega)), fun _ => s_peek T1 ?_⟩
      have out : ¬ (p + i < m ∧ isF (g (p + i))) → Q (some (.int (nI i))) (sI τ 1 2 (nI (p + i))) := fun c => by
        rw [rl_n c] at hr
        have hr : i = rlF g m k p := hr
        rw [← hr] at hQ
        exact hQ
      by_cases c : p + i < m
      · rw [if_pos c]
        have hb := (T.2.2.2.2.2.2 (p + i) (by omega)).2
        simp only [oT, E_Ground_fieldsAhead, fIsA, fRt, fLen, fLit, fBool]
        refine s_kindTold hb (fun c1 => ?_) (fun c1 => ?_)
        · have k3 : kF (g (p + i)) ≤ 3 := by unfold kF; split <;> (try split) <;> (try split) <;> omega
          rw [rl_y ⟨c, c1⟩] at hr
          simp only [oT, E_Ground_fieldsAhead, fIsA, fRt, fLen, fLit, fBool]
          refine ⟨fun _ => s_step (p := p + i) rfl ?_, fun z => absurd z (nIm (by omega))⟩
          simp only [oN, E_Ground_fieldsAhead, fIsA, fRt, fLen, fLit, fBool, sI_sI, nI_1]
          exact ih (i + 1) (by omega) (by omega) (by rw [← Nat.add_assoc]; omega)
        · simp only [oT, E_Ground_fieldsAhead, fIsA, fRt, fLen, fLit, fBool]
          exact out (fun z => c1 z.2)
      · rw [if_neg c]
        simp only [oT, E_Ground_fieldsAhead, fIsA, fRt, fLen, fLit, fBool]
        refine s_kindToldE ?_
        simp only [oT, E_Ground_fieldsAhead, fIsA, fRt, fLen, fLit, fBool]
        exact out (fun z => c z.1)
  rw [N_Ground_fieldsAhead]
  simp only [E_Ground_fieldsAhead, fIsA, fRt, fLen, fLit, fBool]
  have := loop k 0 (by omega) hp (Nat.zero_add _)
  rw [show p + 0 = p from rfl, T.can] at this
  exact this
theorem s_cr_loop {w : Nat} (T : TT τ g n p n) (hw : 1 ≤ w ∧ w ≤ 6) : ∀ (f y q : Nat) (l : Option Value), y + f = 5 → 1 ≤ y → q ≤ n → Q (some (.int (if (if rlF g n w q < w then (false, y, q + rlF g n w q) else laR g n w f (y + 1) (q + w)).1 = true then 1 else 0))) (sI τ 1 2 (nI (if rlF g n w q < w then (false, y, q + rlF g n w q) else laR g n w f (y + 1) (q + w)).2.2)) → Rs M_Ground_canRead (d + 3) Q 4 [some (.ref 5), some (.ref 1), some (.int (nI w)), some (.int (nI y)), l] [] (sI τ 1 2 (nI q)) := by
  have hn80 : n ≤ 80 := T.2.2.2.2.2.1
  intro f
  induction f with
  | zero =>
    intro y q l hy hy1 hq hQ
    have rl := rl_le (g := g) (m := n) w q hq
    rw [Rs_eq]
    simp only [E_Ground_canRead, fIsA, fRt, fLen, fLit, fBool]
    refine ⟨fun z => absurd z (nI_ge (b := 6) (by omega) (by omega)), fun _ => ⟨fun _ => ?_, fun z => absurd ((nI_eq (b := 0) (by omega) (by omega)).mp z) (by omega)⟩⟩
    rw [Rs_eq]
    simp only [E_Ground_canRead, fIsA, fRt, fLen, fLit, fBool]
    refine s_fieldsAhead (k := w) (T.go (q := q) (by omega)) hw.2 hq ?_
    simp only [oT, E_Ground_canRead, fIsA, fRt, fLen, fLit, fBool, sI_sI]
    refine ⟨fun z => ?_, fun z => ⟨fun z2 => absurd ((nI_leI (b := 0) (by omega) (by omega)).mp z2) (by omega), fun _ => ⟨fun z2 => ?_, fun z2 => ?_⟩⟩⟩
    · have z := (nI_eq (b := 0) (by omega) (by omega)).mp z
      rw [if_pos (show rlF g n w q < w by omega)] at hQ
      exact hQ
    · have z2 := (nI_leI (by omega) (by omega)).mp z2
      have ew : rlF g n w q = w := by omega
      rw [if_neg (show ¬ rlF g n w q < w by omega)] at hQ
      rw [ew] at rl ⊢
      have T1 := T.go (q := q + w) (by omega)
      refine s_finished (n := n) (p := q + w) T1.1 rfl hn80 (by omega) ?_
      by_cases e : q + w = n
      · rw [if_pos e]
        simp only [oT, E_Ground_canRead, fIsA, fRt, fLen, fLit, fBool]
        rw [laR_end e] at hQ
        exact hQ
      · rw [if_neg e]
        simp only [oT, E_Ground_canRead, fIsA, fRt, fLen, fLit, fBool]
        rw [laR_no e (Or.inl rfl)] at hQ
        exact ⟨fun _ => hQ, fun v => absurd (by rw [show y = 5 by omega]; rfl) v⟩
    · rw [if_pos (show rlF g n w q < w from Nat.lt_of_not_le (fun v => z2 (nI_le v (by omega))))] at hQ
      exact hQ
  | succ f ih =>
    intro y q l hy hy1 hq hQ
    have rl := rl_le (g := g) (m := n) w q hq
    rw [Rs_eq]
    simp only [E_Ground_canRead, fIsA, fRt, fLen, fLit, fBool]
    refine ⟨fun z => absurd z (nI_ge (b := 6) (by omega) (by omega)), fun _ => ⟨fun _ => ?_, fun z => absurd ((nI_eq (b := 0) (by omega) (by omega)).mp z) (by omega)⟩⟩
    rw [Rs_eq]
    simp only [E_Ground_canRead, fIsA, fRt, fLen, fLit, fBool]
    refine s_fieldsAhead (k := w) (T.go (q := q) (by omega)) hw.2 hq ?_
    simp only [oT, E_Ground_canRead, fIsA, fRt, fLen, fLit, fBool, sI_sI]
    refine ⟨fun z => ?_, fun z => ⟨fun z2 => absurd ((nI_leI (b := 0) (by omega) (by omega)).mp z2) (by omega), fun _ => ⟨fun z2 => ?_, fun z2 => ?_⟩⟩⟩
    · have z := (nI_eq (b := 0) (by omega) (by omega)).mp z
      rw [if_pos (show rlF g n w q < w by omega)] at hQ
      exact hQ
    · have z2 := (nI_leI (by omega) (by omega)).mp z2
      have ew : rlF g n w q = w := by omega
      rw [if_neg (show ¬ rlF g n w q < w by omega)] at hQ
      rw [ew] at rl ⊢
      have T1 := T.go (q := q + w) (by omega)
      refine s_finished (n := n) (p := q + w) T1.1 rfl hn80 (by omega) ?_
      by_cases e : q + w = n
      · rw [if_pos e]
        simp only [oT, E_Ground_canRead, fIsA, fRt, fLen, fLit, fBool]
        rw [laR_end e] at hQ
        exact hQ
      · rw [if_neg e]
        simp only [oT, E_Ground_canRead, fIsA, fRt, fLen, fLit, fBool]
        refine ⟨fun v => absurd ((nI_eq (b := 5) (by omega) (by omega)).mp v) (by omega), fun _ => ?_⟩
        refine s_takeSign (c := 47) T1 (by omega) (fun c1 c2 => ?_) (fun c => ?_)
        · simp only [oT, E_Ground_canRead, fIsA, fRt, fLen, fLit, fBool, sI_sI, nI_1]
          refine ih (y + 1) (q + w + 1) _ (by omega) (by omega) c1 ?_
          by_cases c3 : rlF g n w (q + w + 1) < w
          · rw [laR_bad e ⟨c1, c2⟩ c3] at hQ
            rw [if_pos c3]
            exact hQ
          · rw [laR_go e ⟨c1, c2⟩ c3] at hQ
            rw [if_neg c3]
            exact hQ
        · rw [laR_no e (Or.inr c)] at hQ
          simp only [oT, E_Ground_canRead, fIsA, fRt, fLen, fLit, fBool, sI_sI]
          exact hQ
    · rw [if_pos (show rlF g n w q < w from Nat.lt_of_not_le (fun v => z2 (nI_le v (by omega))))] at hQ
      exact hQ
theorem s_canRead (T : TT τ g n 0 n) (hQ : Q (some (.int (if (laT g n).1 = true then 1 else 0))) (sI τ 1 2 (nI (laT g n).2.2))) : Cl (d + 4) m_Ground_canRead [.ref 5, .ref 1] τ Q := by
  have hn80 : n ≤ 80 := T.2.2.2.2.2.1
  have rl := rl_le (g := g) (m := n) 6 0 (Nat.zero_le _)
  rw [N_Ground_canRead]
  simp only [E_Ground_canRead, fIsA, fRt, fLen, fLit, fBool]
  rw [Rs_eq]
  simp only [E_Ground_canRead, fIsA, fRt, fLen, fLit, fBool]
  refine ⟨fun z => absurd z (by decide), fun _ => ?_⟩
  rw [Rs_eq]
  simp only [E_Ground_canRead, fIsA, fRt, fLen, fLit, fBool]
  refine s_fieldsAhead (k := 6) T (by omega) (Nat.zero_le _) ?_
  unfold laT at hQ
  simp only [oT, E_Ground_canRead, fIsA, fRt, fLen, fLit, fBool]
  generalize hw : rlF g n 6 0 = w at hQ rl ⊢
  rw [Nat.zero_add] at rl ⊢
  refine ⟨fun z => ?_, fun z => ?_⟩
  · have z := (nI_eq (b := 0) (by omega) (by omega)).mp z
    subst z
    rw [if_pos rfl] at hQ
    exact hQ
  · have z : w ≠ 0 := fun v => z (by rw [v]; rfl)
    rw [if_neg z] at hQ
    have T1 := T.go (q := w) (by omega)
    refine s_finished (n := n) (p := w) T1.1 rfl hn80 (by omega) ?_
    by_cases e : w = n
    · rw [if_pos e]
      simp only [oT, E_Ground_canRead, fIsA, fRt, fLen, fLit, fBool]
      rw [laR_end e] at hQ
      exact hQ
    · rw [if_neg e]
      simp only [oT, E_Ground_canRead, fIsA, fRt, fLen, fLit, fBool]
      refine ⟨fun v => absurd v (by decide), fun _ => ?_⟩
      refine s_takeSign (c := 47) T1 (by omega) (fun c1 c2 => ?_) (fun c => ?_)
      · simp only [oT, E_Ground_canRead, fIsA, fRt, fLen, fLit, fBool, sI_sI]
        refine s_cr_loop T (w := w) ⟨by omega, rl.1⟩ 4 1 (w + 1) _ (by omega) (by omega) c1 ?_
        by_cases c3 : rlF g n w (w + 1) < w
        · rw [laR_bad (f := 4) e ⟨c1, c2⟩ c3] at hQ
          rw [if_pos c3]
          exact hQ
        · rw [laR_go (f := 4) e ⟨c1, c2⟩ c3] at hQ
          rw [if_neg c3]
          exact hQ
      · rw [laR_no e (Or.inr c)] at hQ
        simp only [oT, E_Ground_canRead, fIsA, fRt, fLen, fLit, fBool, sI_sI]
        exact hQ
end LA
