/-! PAIRS: walls -/
/-- men that a stretch of y yards needs for a share of v -/
def ndW (v y : Nat) : Nat := (v * y + 99) / 100
def fmW (y : Nat → Nat) (v : Nat) : Nat → Nat → Nat → Nat
  | 0, _, a => a
  | m + 1, i, a => fmW y v m (i + 1) (a + ndW v (y i))
theorem ndW_mono {v w y : Nat} (h : v ≤ w) : ndW v y ≤ ndW w y := Nat.div_le_div_right (Nat.add_le_add_right (Nat.mul_le_mul_right y h) 99)
theorem fmW_mono {y : Nat → Nat} {v w : Nat} (h : v ≤ w) : ∀ (m i a b : Nat), a ≤ b → fmW y v m i a ≤ fmW y w m i b
  | 0, _, _, _, hab => hab
  | m + 1, i, a, b, hab => fmW_mono h m (i + 1) _ _ (Nat.add_le_add hab (ndW_mono h))
theorem fmW_ge {y : Nat → Nat} {v : Nat} : ∀ (m i a : Nat), a ≤ fmW y v m i a
  | 0, _, _ => Nat.le_refl _
  | m + 1, i, a => Nat.le_trans (Nat.le_add_right _ _) (fmW_ge m (i + 1) _)
theorem fmW_zero {y : Nat → Nat} : ∀ (m i a : Nat), fmW y 0 m i a = a
  | 0, _, _ => rfl
  | m + 1, i, a => by
    rw [fmW, ndW, Nat.zero_mul]
    exact fmW_zero m (i + 1) a
/-- the greatest share for m men -/
theorem best_ex {y : Nat → Nat} {s m : Nat} (hs : 0 < s) (hy : 1 ≤ y 0) : ∃ v, v ≤ 100 * m ∧ fmW y v s 0 0 ≤ m ∧ m < fmW y (v + 1) s 0 0 := by
  have top : m < fmW y (100 * m + 1) s 0 0 := by
    obtain ⟨s', rfl⟩ : ∃ s', s = s' + 1 := ⟨s - 1, by omega⟩
    rw [fmW]
    refine Nat.lt_of_lt_of_le ?_ (fmW_ge s' 1 _)
    rw [Nat.zero_add, ndW]
    have : (100 * m + 1) * 1 ≤ (100 * m + 1) * y 0 := Nat.mul_le_mul_left _ hy
    omega
  have go : ∀ b, m < fmW y (b + 1) s 0 0 → ∃ v, v ≤ b ∧ fmW y v s 0 0 ≤ m ∧ m < fmW y (v + 1) s 0 0 := by
    intro b
    induction b with
    | zero => intro h; exact ⟨0, Nat.le_refl _, by rw [fmW_zero]; exact Nat.zero_le _, h⟩
    | succ b ih =>
      intro h
      by_cases c : fmW y (b + 1) s 0 0 ≤ m
      · exact ⟨b + 1, Nat.le_refl _, c, h⟩
      · obtain ⟨v, h1, h2⟩ := ih (by omega)
        exact ⟨v, by omega, h2⟩
  exact go (100 * m) top
theorem best_le {y : Nat → Nat} {s m v w : Nat} (h1 : fmW y v s 0 0 ≤ m) (h2 : m < fmW y (v + 1) s 0 0) : fmW y w s 0 0 ≤ m ↔ w ≤ v := by
  constructor
  · intro h
    rcases Nat.lt_or_ge v w with q | q
    · have := fmW_mono (y := y) (show v + 1 ≤ w from q) s 0 0 0 (Nat.le_refl _)
      omega
    · exact q
  · intro h
    exact Nat.le_trans (fmW_mono h s 0 0 0 (Nat.le_refl _)) h1
section WM
variable {d s m v : Nat} {y : Nat → Nat} {Q : Qt} {τ : St}
theorem s_menFor {i : Nat} (hi : i < 4) (hv : v ≤ 20000) (hy : y i ≤ 9) (h : τ.1 65 i = nI (y i)) (hQ : Q (some (.int (nI (ndW v (y i))))) τ) : Cl (d + 1) m_Wall_menFor [.ref 64, .int (nI i), .int (nI v)] τ Q := by
  have e : (nI v * nI (y i) + 99) / 100 = nI (ndW v (y i)) := by
    have := Nat.mul_le_mul hv hy
    rw [pk_mul, show nI (v * y i) + 99 = nI (v * y i + 99) from nI_add _ 99]
    exact pk_div (d := 100) (by omega) (by omega) (by omega)
  rw [N_Wall_menFor]
  simp only [E_Wall_menFor, fIsA, fRt, fLen, fLit, fBool, nI_clamp (show i < 2 ^ 31 by omega), h, e]
  exact ⟨fun z => absurd z (nI_pos (by omega)), fun _ => ⟨fun z => absurd z (nI_ge (b := 4) (by omega) (by omega)), fun _ => ⟨vp_in_nI (by omega) (by omega), by decide, hQ⟩⟩⟩
theorem s_needs {i : Nat} (hi : i < 4) (hv : v ≤ 20000) (hy : y i ≤ 9) (h : τ.1 91 i = nI (y i)) (hQ : Q (some (.int (nI (ndW v (y i))))) τ) : Cl (d + 1) m_M_needs [.ref 69, .int (nI i), .int (nI v)] τ Q := by
  have e : (nI v * nI (y i) + 99) / 100 = nI (ndW v (y i)) := by
    have := Nat.mul_le_mul hv hy
    rw [pk_mul, show nI (v * y i) + 99 = nI (v * y i + 99) from nI_add _ 99]
    exact pk_div (d := 100) (by omega) (by omega) (by omega)
  rw [N_M_needs]
  simp only [E_M_needs, fIsA, fRt, fLen, fLit, fBool, nI_clamp (show i < 2 ^ 31 by omega), h, e]
  exact ⟨vp_in_nI (by omega) (by omega), by decide, hQ⟩
theorem ndW_le {y : Nat} (hv : v ≤ 20000) (hy : y ≤ 9) : ndW v y ≤ 2000 := by
  have := Nat.mul_le_mul hv hy
  unfold ndW
  omega
theorem s_menForAll (hs : s ≤ 4) (hv : v ≤ 20000) (h41 : τ.1 64 1 = nI s) (hy : ∀ i, i < s → τ.1 65 i = nI (y i) ∧ y i ≤ 9) (hQ : Q (some (.int (nI (fmW y v s 0 0)))) τ) : Cl (d + 2) m_Wall_menForAll [.ref 64, .int (nI v)] τ Q := by
  have loop : ∀ (u i a : Nat), i + u = s → Q (some (.int (nI (fmW y v u i a)))) τ → Rs M_Wall_menForAll (d + 1) Q 4 [some (.ref 64), some (.int (nI v)), some (.int (nI a)), some (.int (nI i))] [] τ := by
    intro u
    induction u with
    | zero =>
      intro i a hi hq
      obtain rfl : i = s := by omega
      rw [Rs_eq]
      simp only [E_Wall_menForAll, fIsA, fRt, fLen, fLit, fBool, h41]
      exact ⟨fun _ => hq, fun z => absurd (Int32.le_refl _) z⟩
    | succ u ih =>
      intro i a hi hq
      rw [fmW] at hq
      rw [Rs_eq]
      simp only [E_Wall_menForAll, fIsA, fRt, fLen, fLit, fBool, h41]
      refine ⟨fun z => absurd z (nI_ge (by omega) (by omega)), fun _ => s_menFor (by omega) hv (hy i (by omega)).2 (hy i (by omega)).1 ?_⟩
      simp only [oT, E_Wall_menForAll, fIsA, fRt, fLen, fLit, fBool, nI_1, nI_add]
      exact ih (i + 1) _ (by omega) hq
  rw [N_Wall_menForAll]
  simp only [E_Wall_menForAll, fIsA, fRt, fLen, fLit, fBool]
  exact loop s 0 0 (by omega) hQ
theorem s_canHold (hs : s ≤ 4) (hv : v ≤ 20000) (hm : m ≤ 99) (h41 : τ.1 69 41 = nI s) (hy : ∀ i, i < s → τ.1 91 i = nI (y i) ∧ y i ≤ 9) (hQ : Q (some (.int (if fmW y v s 0 0 ≤ m then 1 else 0))) τ) : Cl (d + 2) m_M_canHold [.ref 69, .int (nI m), .int (nI v)] τ Q := by
  have loop : ∀ (u i a : Nat), i + u = s → a ≤ 2000 * i → Q (some (.int (if fmW y v u i a ≤ m then 1 else 0))) τ → Rs M_M_canHold (d + 1) Q 5 [some (.ref 69), some (.int (nI m)), some (.int (nI v)), some (.int (nI a)), some (.int (nI i))] [] τ := by
    intro u
    induction u with
    | zero =>
      intro i a hi ha hq
      obtain rfl : i = s := by omega
      have hq : Q (some (.int (if a ≤ m then 1 else 0))) τ := hq
      rw [Rs_eq]
      simp only [E_M_canHold, fIsA, fRt, fLen, fLit, fBool, h41]
      refine ⟨fun _ => ⟨fun z => ?_, fun z => ?_⟩, fun z => absurd (Int32.le_refl _) z⟩
      · have z := (nI_ltI (by omega) (by omega)).mp z
        rw [if_neg (by omega)] at hq; exact hq
      · rw [if_pos (Nat.le_of_not_lt (fun w => z (nI_lt w (by omega))))] at hq; exact hq
    | succ u ih =>
      intro i a hi ha hq
      have hl := ndW_le hv (hy i (by omega)).2
      rw [fmW] at hq
      rw [Rs_eq]
      simp only [E_M_canHold, fIsA, fRt, fLen, fLit, fBool, h41]
      refine ⟨fun z => absurd z (nI_ge (by omega) (by omega)), fun _ => s_needs (by omega) hv (hy i (by omega)).2 (hy i (by omega)).1 ?_⟩
      simp only [oT, E_M_canHold, fIsA, fRt, fLen, fLit, fBool, nI_1, nI_add]
      exact ih (i + 1) _ (by omega) (by omega) hq
  rw [N_M_canHold]
  simp only [E_M_canHold, fIsA, fRt, fLen, fLit, fBool]
  exact loop s 0 0 (by omega) (by omega) hQ
theorem fmW_bd {w : Nat} (hw : w ≤ 20000) : ∀ (u i a : Nat), (∀ j, i ≤ j → j < i + u → y j ≤ 9) → fmW y w u i a ≤ a + 2000 * u
  | 0, _, _, _ => Nat.le_refl _
  | u + 1, i, a, h => by
    rw [fmW]
    have := fmW_bd hw u (i + 1) (a + ndW w (y i)) (fun j h1 h2 => h j (by omega) (by omega))
    have := ndW_le hw (h i (Nat.le_refl _) (by omega))
    omega
theorem s_bestShare (hs : s ≤ 4) (hm : m ≤ 99) (h41 : τ.1 64 1 = nI s) (hy : ∀ i, i < s → τ.1 65 i = nI (y i) ∧ y i ≤ 9) (b0 : v ≤ 100 * m) (b1 : fmW y v s 0 0 ≤ m) (b2 : m < fmW y (v + 1) s 0 0) (hQ : Q (some (.int (nI v))) τ) : Cl (d + 3) m_Wall_bestShare [.ref 64, .int (nI m)] τ Q := by
  have loop : ∀ (u i lo hi : Nat) (l : Option Value), i + u = 14 → lo ≤ v → v ≤ hi → hi ≤ 9900 → hi < lo + 2 ^ u → Rs M_Wall_bestShare (d + 2) Q 10 [some (.ref 64), some (.int (nI m)), some (.int (nI lo)), some (.int (nI hi)), some (.int (nI i)), l] [] τ := by
    intro u
    induction u with
    | zero =>
      intro i lo hi l h1 h2 h3 h4 h5
      obtain rfl : lo = v := by omega
      rw [Rs_eq]
      simp only [E_Wall_bestShare, fIsA, fRt, fLen, fLit, fBool]
      exact ⟨fun _ => hQ, fun z => absurd (nI_le (a := 14) (by omega) (by omega)) z⟩
    | succ u ih =>
      intro i lo hi l h1 h2 h3 h4 h5
      rw [Nat.pow_succ] at h5
      rw [Rs_eq]
      have e : (nI lo + nI hi + 1) / 2 = nI ((lo + hi + 1) / 2) := by
        rw [nI_add, nI_1]
        exact pk_div (d := 2) (by omega) (by omega) (by omega)
      simp only [E_Wall_bestShare, fIsA, fRt, fLen, fLit, fBool, e]
      refine ⟨fun z => absurd z (nI_ge (b := 14) (by omega) (by omega)), fun _ => ⟨fun z => ?_, fun z => ⟨by decide, ?_⟩⟩⟩
      · have z := (nI_leI (by omega) (by omega)).mp z
        obtain rfl : lo = v := by omega
        exact hQ
      · have z : lo < hi := Nat.lt_of_not_le (fun w => z (nI_le w (by omega)))
        have hf := fmW_bd (y := y) (w := (lo + hi + 1) / 2) (by omega) s 0 0 (fun j _ h => (hy j (by omega)).2)
        refine s_menForAll hs (by omega) h41 hy ?_
        simp only [oT, E_Wall_bestShare, fIsA, fRt, fLen, fLit, fBool, nI_1, e]
        have bl := best_le (w := (lo + hi + 1) / 2) b1 b2
        refine ⟨fun w => ?_, fun w => ?_⟩
        · have w := (nI_ltI (by omega) (by omega)).mp w
          have e2 : nI ((lo + hi + 1) / 2) - 1 = nI ((lo + hi + 1) / 2 - 1) := pk_sub (b := 1) (by omega)
          rw [e2]
          have : ¬ (lo + hi + 1) / 2 ≤ v := fun q => by have := bl.mpr q; omega
          exact ih (i + 1) lo _ _ (by omega) h2 (by omega) (by omega) (by omega)
        · have : (lo + hi + 1) / 2 ≤ v := bl.mp (Nat.le_of_not_lt (fun q => w (nI_lt q (by omega))))
          exact ih (i + 1) _ hi _ (by omega) this h3 h4 (by omega)
  rw [N_Wall_bestShare]
  simp only [E_Wall_bestShare, fIsA, fRt, fLen, fLit, fBool]
  rw [show nI m * 100 = nI (m * 100) from pk_mul m 100]
  exact loop 14 0 0 (m * 100) none (by omega) (Nat.zero_le _) (by omega) (by omega) (by omega)
/-- how many are left ahead of stretch i, and what the row tells of it -/
def lfW (y : Nat → Nat) (v : Nat) (m : Int32) : Nat → Int32
  | 0 => m
  | i + 1 => lfW y v m i - nI (ndW v (y i))
def enW (y : Nat → Nat) (v s : Nat) (m : Int32) (i : Nat) : Int32 := if i + 1 = s then lfW y v m i else nI (ndW v (y i))
theorem s_man (hs0 : 0 < s) (hs : s ≤ 4) (hm : m ≤ 99) (h41 : τ.1 64 1 = nI s) (hy : ∀ i, i < s → τ.1 65 i = nI (y i) ∧ y i ≤ 9) (b0 : v ≤ 100 * m) (b1 : fmW y v s 0 0 ≤ m) (b2 : m < fmW y (v + 1) s 0 0)
    (hQ : ∀ τ', Fr [4] [(3, 1)] τ τ' → τ'.1 3 1 = nI s → (∀ i, i < s → τ'.2 4 i = (enW y v s (nI m) i).toInt64) → Q (some (.int (nI v))) τ') : Cl (d + 4) m_Wall_man [.ref 64, .int (nI m), .ref 3] τ Q := by
  have loop : ∀ (u i : Nat) (x : Int32) (τ1 : St) (l : Option Value), i + u = s → (0 < u → x = lfW y v (nI m) i) → Fr [4] [(3, 1)] τ τ1 → τ1.1 3 1 = nI i → (∀ j, j < i → τ1.2 4 j = (enW y v s (nI m) j).toInt64) → Rs M_Wall_man (d + 3) Q 16 [some (.ref 64), some (.int (nI m)), some (.ref 3), some (.int (nI v)), some (.int x), some (.int (nI i)), l] [] τ1 := by
    intro u
    induction u with
    | zero =>
      intro i x τ1 l hi hx fr h3 hr
      obtain rfl : i = s := by omega
      rw [Rs_eq]
      simp only [E_Wall_man, fIsA, fRt, fLen, fLit, fBool, fr.u1 64 1 rfl, h41]
      exact ⟨fun _ => hQ τ1 fr h3 hr, fun z => absurd (Int32.le_refl _) z⟩
    | succ u ih =>
      intro i x τ1 l hi hx fr h3 hr
      have hx := hx (by omega)
      subst hx
      have e : nI s - 1 = nI (s - 1) := pk_sub (b := 1) (by omega)
      have step : ∀ (w : Int32) (z : Int32) (l : Option Value), w = enW y v s (nI m) i → (0 < u → z = lfW y v (nI m) (i + 1)) → Rs M_Wall_man (d + 3) Q 16 [some (.ref 64), some (.int (nI m)), some (.ref 3), some (.int (nI v)), some (.int z), some (.int (nI (i + 1))), l] [] (sI (sL τ1 4 i w.toInt64) 3 1 (nI (i + 1))) := fun w z l hw hz => by
        refine ih (i + 1) z _ l (by omega) hz ((fr.lc rfl).i rfl) rfl (fun j hj => ?_)
        rw [sI_2]
        simp only [sL_2, reduceIte]
        by_cases c : j = i
        · subst c; rw [if_pos rfl, hw]
        · rw [if_neg c]; exact hr j (by omega)
      rw [Rs_eq]
      simp only [E_Wall_man, fIsA, fRt, fLen, fLit, fBool, fr.u1 64 1 rfl, h41, e]
      refine ⟨fun z => absurd z (nI_ge (by omega) (by omega)), fun _ => ⟨fun z => ?_, fun z => ?_⟩⟩
      · have z : i ≠ s - 1 := fun w => z (by rw [w])
        refine s_menFor (y := y) (by omega) (by omega) (hy i (by omega)).2 (by rw [fr.c1 65 rfl]; exact (hy i (by omega)).1) ?_
        simp only [oT, E_Wall_man, fIsA, fRt, fLen, fLit, fBool]
        refine s_RowAdd h3 (by omega) ?_
        simp only [oN, E_Wall_man, fIsA, fRt, fLen, fLit, fBool, nI_1]
        exact step _ _ _ (by unfold enW; rw [if_neg (by omega)]) (fun _ => rfl)
      · have z := (nI_eq (by omega) (by omega)).mp z
        refine s_RowAdd h3 (by omega) ?_
        simp only [oN, E_Wall_man, fIsA, fRt, fLen, fLit, fBool, nI_1]
        exact step _ _ _ (by unfold enW; rw [if_pos (by omega)]) (fun w => by omega)
  rw [N_Wall_man]
  simp only [E_Wall_man, fIsA, fRt, fLen, fLit, fBool]
  refine s_bestShare hs hm h41 hy b0 b1 b2 ?_
  simp only [oT, E_Wall_man, fIsA, fRt, fLen, fLit, fBool]
  rw [N_Row_clear]
  simp only [E_Row_clear, oN, E_Wall_man, fIsA, fRt, fLen, fLit, fBool]
  exact loop s 0 (nI m) _ none (by omega) (fun _ => rfl) (Fr.rf.i rfl) rfl (fun j hj => absurd hj (Nat.not_lt_zero j))
end WM
