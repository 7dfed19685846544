/-! WALLS: what is told of them, how many men they need -/
/-- how many digits 1 .. 9 stand at p, of f at most -/
def wcD (g : Nat → Nat) (n : Nat) : Nat → Nat → Nat
  | 0, _ => 0
  | f + 1, p => if p < n ∧ 49 ≤ g p ∧ g p ≤ 57 then wcD g n f (p + 1) + 1 else 0
theorem wcD_y {g : Nat → Nat} {n f p : Nat} (h : p < n ∧ 49 ≤ g p ∧ g p ≤ 57) : wcD g n (f + 1) p = wcD g n f (p + 1) + 1 := by rw [wcD, if_pos h]
theorem wcD_n {g : Nat → Nat} {n f p : Nat} (h : ¬ (p < n ∧ 49 ≤ g p ∧ g p ≤ 57)) : wcD g n (f + 1) p = 0 := by rw [wcD, if_neg h]
theorem wcD_le {g : Nat → Nat} {n : Nat} : ∀ (f p : Nat), p ≤ n → wcD g n f p ≤ f ∧ p + wcD g n f p ≤ n ∧ ∀ j, p ≤ j → j < p + wcD g n f p → 49 ≤ g j ∧ g j ≤ 57
  | 0, p, h => ⟨Nat.le_refl _, h, fun j h1 h2 => by have h2 : j < p + 0 := h2; omega⟩
  | f + 1, p, h => by
    by_cases c : p < n ∧ 49 ≤ g p ∧ g p ≤ 57
    · rw [wcD_y c]
      have ih := wcD_le (g := g) f (p + 1) c.1
      refine ⟨by omega, by omega, fun j h1 h2 => ?_⟩
      by_cases e : j = p
      · subst e; exact c.2
      · exact ih.2.2 j (by omega) (by omega)
    · rw [wcD_n c]
      exact ⟨by omega, h, fun j h1 h2 => by omega⟩
section WR
variable {d n m : Nat} {Q : Qt} {g : Nat → Nat}
theorem s_wread {τ : St} (h1 : τ.1 1 1 = nI n) (hn : n ≤ 80) (hb : ∀ j, j < n → τ.1 2 j = nI (g j) ∧ g j < 256) (hQ : ∀ τ', Fr [65] [(64, 1), (1, 2), (1, 3)] τ τ' → τ'.1 1 2 = nI (wcD g n 4 0) → τ'.1 64 1 = nI (wcD g n 4 0) → (∀ j, j < wcD g n 4 0 → τ'.1 65 j = nI (g j - 48)) → Q (some (.int (if 0 < wcD g n 4 0 ∧ wcD g n 4 0 = n then 1 else 0))) τ') : Cl (d + 4) m_Wall_read [.ref 64, .ref 1] τ Q := by
  have loop : ∀ (f i : Nat) (τ1 : St) (l : Option Value), i + f = 4 → i ≤ n → TT τ1 g n i n → Fr [65] [(64, 1), (1, 2), (1, 3)] τ τ1 → τ1.1 64 1 = nI i → (∀ j, j < i → τ1.1 65 j = nI (g j - 48)) → i + wcD g n f i = wcD g n 4 0 → Rs M_Wall_read (d + 3) Q 13 [some (.ref 64), some (.ref 1), some (.int (nI i)), l] [] τ1 := by
    intro f
    induction f with
    | zero =>
      intro i τ1 l hi hin T fr h64 hy hw
      have hw : i = wcD g n 4 0 := hw
      rw [Rs_eq]
      simp only [E_Wall_read, fIsA, fRt, fLen, fLit, fBool, h64]
      refine ⟨fun _ => ⟨fun z => absurd z (nI_ge (a := 0) (by omega) (by omega)), fun _ => ?_⟩, fun z => absurd (nI_le (a := 4) (by omega) (by omega)) z⟩
      refine s_finished (n := n) (p := i) T.1 T.2.1 hn T.2.2.2.1 ?_
      have q := hQ τ1 fr (hw ▸ T.2.1) (hw ▸ h64) (hw ▸ hy)
      rw [← hw] at q
      by_cases c : i = n
      · rw [if_pos c]
        rw [if_pos ⟨by omega, c⟩] at q
        simp only [oT, E_Wall_read, fIsA, fRt, fLen, fLit, fBool]
        exact q
      · rw [if_neg c]
        rw [if_neg (fun z => c z.2)] at q
        simp only [oT, E_Wall_read, fIsA, fRt, fLen, fLit, fBool]
        exact q
    | succ f ih =>
      intro i τ1 l hi hin T fr h64 hy hw
      rw [Rs_eq]
      simp only [E_Wall_read, fIsA, fRt, fLen, fLit, fBool, h64]
      refine ⟨fun z => absurd z (nI_ge (b := 4) (by omega) (by omega)), fun _ => ?_⟩
      refine s_takeDigit (lo := 1) (hi := 9) T (by omega) (by omega) (fun k c1 c2 c3 c4 => ?_) (fun c => ?_)
      · have e64 : (sI τ1 1 2 (nI (i + 1))).1 64 1 = nI i := h64
        simp only [oT, E_Wall_read, fIsA, fRt, fLen, fLit, fBool, nI_clamp (show i < 2 ^ 31 by omega), nI_1, sI_1, reduceIte, Nat.reduceEqDiff, h64]
        refine ⟨fun _ => ⟨vp_in_nI (by omega) (by omega), ?_⟩, fun z => absurd z (nIm (by omega))⟩
        rw [wcD_y ⟨c1, by omega, by omega⟩] at hw
        refine ih (i + 1) _ _ (by omega) (by omega) ⟨T.1, rfl, T.2.2.1, by omega, T.2.2.2.2⟩ (((fr.i rfl).ic rfl).i rfl) rfl (fun j hj => ?_) (by omega)
        simp only [sI_1, reduceIte, Nat.reduceEqDiff]
        by_cases e : j = i
        · subst e; rw [if_pos rfl, c2]; congr 1; omega
        · rw [if_neg e]; exact hy j (by omega)
      · rw [wcD_n (fun z => c (g i - 48) z.1 (by omega) (by omega) (by omega))] at hw
        have hw : i = wcD g n 4 0 := hw
        have q := hQ τ1 fr (hw ▸ T.2.1) (hw ▸ h64) (hw ▸ hy)
        rw [← hw] at q
        simp only [oT, E_Wall_read, fIsA, fRt, fLen, fLit, fBool, h64]
        refine ⟨fun z => ?_, fun z => ?_⟩
        · have z := (nI_leI (b := 0) (by omega) (by omega)).mp z
          rw [if_neg (by omega)] at q
          exact q
        · have z : 0 < i := Nat.pos_of_ne_zero (fun w => z (by rw [w]; exact Int32.le_refl _))
          refine s_finished (n := n) (p := i) T.1 T.2.1 hn T.2.2.2.1 ?_
          by_cases e : i = n
          · rw [if_pos e]
            rw [if_pos ⟨z, e⟩] at q
            simp only [oT, E_Wall_read, fIsA, fRt, fLen, fLit, fBool]
            exact q
          · rw [if_neg e]
            rw [if_neg (fun w => e w.2)] at q
            simp only [oT, E_Wall_read, fIsA, fRt, fLen, fLit, fBool]
            exact q
  rw [N_Wall_read]
  simp only [E_Wall_read, fIsA, fRt, fLen, fLit, fBool]
  refine s_open (n := n) (b := 80) h1 hn (by omega) ?_
  simp only [oN, E_Wall_read, fIsA, fRt, fLen, fLit, fBool]
  rw [Nat.min_eq_left hn]
  exact loop 4 0 _ none (by omega) (Nat.zero_le _) ⟨h1, rfl, rfl, by omega, Nat.le_refl _, hn, hb⟩ (((Fr.rf.i rfl).i rfl).i rfl) rfl (fun j hj => absurd hj (Nat.not_lt_zero j)) (Nat.zero_add _)
theorem s_Mwread {τ : St} {mm : Int32} (h15 : τ.1 69 15 = 0) (h16 : τ.1 69 16 = nI n) (h41 : τ.1 69 41 = 0) (hn : n ≤ 80) (hb : ∀ j, j < n → τ.1 77 j = nI (g j) ∧ g j < 256)
    (hbad : ¬ (0 < wcD g n 4 0 ∧ wcD g n 4 0 = n) → ∀ τ', Fr [91] [(69, 15), (69, 41)] τ τ' → Q (some (.int (-1 - nI (wcD g n 4 0)))) τ')
    (hgood : (0 < wcD g n 4 0 ∧ wcD g n 4 0 = n) → ∀ τ', Fr [91] [(69, 15), (69, 41)] τ τ' → τ'.1 69 41 = nI (wcD g n 4 0) → (∀ j, j < wcD g n 4 0 → τ'.1 91 j = nI (g j - 48)) → Rs M_M_walls (d + 3) Q 134 [some (.ref 69), some (.int mm), some (.int 1), some (.int 0), none, none, none] [] τ') : ∀ l, Rs M_M_walls (d + 3) Q 34 [some (.ref 69), some (.int mm), some (.int 1), l, none, none, none] [] τ := by
  have loop : ∀ (f i : Nat) (τ1 : St) (l : Option Value), i + f = 4 → i ≤ n → MR τ1 g n i n → Fr [91] [(69, 15), (69, 41)] τ τ1 → τ1.1 69 41 = nI i → (∀ j, j < i → τ1.1 91 j = nI (g j - 48)) → i + wcD g n f i = wcD g n 4 0 → Rs M_M_walls (d + 3) Q 34 [some (.ref 69), some (.int mm), some (.int 1), l, none, none, none] [] τ1 := by
    intro f
    induction f with
    | zero =>
      intro i τ1 l hi hin M fr h41 hy hw
      have hw : i = wcD g n 4 0 := hw
      rw [Rs_eq]
      simp only [E_M_walls, fIsA, fRt, fLen, fLit, fBool, h41, M.1, M.2.1]
      refine ⟨fun _ => ⟨fun z => ?_, fun z => ?_⟩, fun z => absurd (nI_le (a := 4) (by omega) (by omega)) z⟩
      · have z := (nI_leI (by omega) (by omega)).mp z
        exact hgood ⟨by omega, by omega⟩ τ1 fr (hw ▸ h41) (hw ▸ hy)
      · have z : ¬ n ≤ i := fun w => z (nI_le w (by omega))
        rw [hw]
        exact hbad (fun w => by omega) τ1 fr
    | succ f ih =>
      intro i τ1 l hi hin M fr h41 hy hw
      -- one more is looked for
      have blk : (i < n ∨ i = 0) → Rs M_M_walls (d + 3) Q 64 [some (.ref 69), some (.int mm), some (.int 1), l, none, none, none] [] τ1 := fun hor => by
        rw [Rs_eq]
        simp only [E_M_walls, fIsA, fRt, fLen, fLit, fBool, h41]
        refine s_signIn (lo := 1) (hi := 9) M (by omega) (by omega) (fun k c1 c2 c3 c4 => ?_) (fun c => ?_)
        · have e41 : (sI (sI τ1 69 15 (nI (i + 1))) 91 i (nI k)).1 69 41 = nI i := h41
          simp only [oT, E_M_walls, fIsA, fRt, fLen, fLit, fBool, nI_clamp (show i < 2 ^ 31 by omega), sI_1, reduceIte, Nat.reduceEqDiff, h41]
          refine ⟨fun z => absurd ((nI_leI (b := 0) (by omega) (by omega)).mp z) (by omega), fun _ => ⟨vp_in_nI (by omega) (by omega), ?_⟩⟩
          refine s_flag (Or.inr rfl) ?_
          simp only [oT, E_M_walls, fIsA, fRt, fLen, fLit, fBool, nI_1]
          rw [wcD_y ⟨c1, by omega, by omega⟩] at hw
          refine ih (i + 1) _ _ (by omega) (by omega) ⟨rfl, M.2.1, by omega, M.2.2.2⟩ (((fr.i rfl).ic rfl).i rfl) rfl (fun j hj => ?_) (by omega)
          simp only [sI_1, reduceIte, Nat.reduceEqDiff]
          by_cases e : j = i
          · subst e; rw [if_pos rfl, c2]; congr 1; omega
          · rw [if_neg e]; exact hy j (by omega)
        · rw [wcD_n (fun z => c (g i - 48) z.1 (by omega) (by omega) (by omega))] at hw
          have hw : i = wcD g n 4 0 := hw
          simp only [oT, E_M_walls, fIsA, fRt, fLen, fLit, fBool, nI_clamp (show i < 2 ^ 31 by omega), sI_1, reduceIte, Nat.reduceEqDiff, h41, show ((-1 : Int32) ≤ 0) = True from by decide]
          refine ⟨vp_in_nI (by omega) (by omega), ?_⟩
          refine s_flag (Or.inl rfl) ?_
          simp only [oT, E_M_walls, fIsA, fRt, fLen, fLit, fBool]
          rw [Rs_eq]
          have e15 : (sI (sI τ1 91 i (-1)) 69 41 (nI i + 0)).1 69 15 = nI i := M.1
          simp only [E_M_walls, fIsA, fRt, fLen, fLit, fBool, e15]
          rw [hw]
          exact hbad (fun w => by omega) _ ((fr.ic rfl).i rfl)
      rw [Rs_eq]
      simp only [E_M_walls, fIsA, fRt, fLen, fLit, fBool, h41, M.1, M.2.1]
      refine ⟨fun z => absurd z (nI_ge (b := 4) (by omega) (by omega)), fun _ => ⟨fun z => blk (Or.inr ((nI_eq (b := 0) (by omega) (by omega)).mp z)), fun z => ⟨fun z2 => ?_, fun z2 => blk (Or.inl (Nat.lt_of_not_le (fun w => z2 (nI_le w (by omega)))))⟩⟩⟩
      have z2 := (nI_leI (by omega) (by omega)).mp z2
      have z3 : i ≠ 0 := fun w => z (by rw [w]; rfl)
      rw [wcD_n (fun z => by omega)] at hw
      have hw : i = wcD g n 4 0 := hw
      exact ⟨fun _ => hgood ⟨by omega, by omega⟩ τ1 fr (hw ▸ h41) (hw ▸ hy), fun w => absurd (nI_le z2 (by omega)) w⟩
  exact fun l => loop 4 0 τ l (by omega) (Nat.zero_le _) ⟨h15, h16, by omega, Nat.le_refl _, hn, hb⟩ Fr.rf h41 (fun j hj => absurd hj (Nat.not_lt_zero j)) (Nat.zero_add _)
end WR
