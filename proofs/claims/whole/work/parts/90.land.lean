/-! LAND: the reference's land() -/
/-- where a field stands in the text -/
def psF (w f : Nat) : Nat := (f / w) * (w + 1) + f % w
def kX (x : Nat) : Nat := if x < 10 then 0 else x - 9
def hX (x : Nat) : Nat := if x < 10 then x else 0
theorem xkh {b : Nat} (h : isF b) : kX (xF b) = kF b ∧ hX (xF b) = hF b := by
  unfold kX hX xF kF hF
  rcases h with h | rfl | rfl | rfl
  · rw [if_pos h, if_pos (show b - 48 < 10 by omega), if_pos (show b - 48 < 10 by omega), if_neg (show ¬ b = 126 by omega), if_neg (show ¬ b = 42 by omega), if_neg (show ¬ b = 35 by omega), if_pos h]
    exact ⟨rfl, rfl⟩
  · exact ⟨rfl, rfl⟩
  · exact ⟨rfl, rfl⟩
  · exact ⟨rfl, rfl⟩
section ML
variable {d n w : Nat} {Q : Qt} {g : Nat → Nat}
theorem s_Mfl {a b : Nat} {τ : St} (h3 : τ.1 69 3 = nI a) (h4 : τ.1 69 4 = nI b) (hQ : Q (some (.int (nI (a * b)))) τ) : Cl (d + 1) m_M_fields [.ref 69] τ Q := by
  rw [N_M_fields]
  simp only [E_M_fields, fIsA, fRt, fLen, fLit, fBool, h3, h4]
  rw [pk_mul]
  exact hQ
/-- rows that are read hold what is told -/
def lrX (g : Nat → Nat) (w y : Nat) (τ : St) : Prop := ∀ r c, r < y → c < w → τ.1 78 (w * r + c) = nI (xF (g (r * (w + 1) + c)))
theorem s_Mland_loop (hw : 1 ≤ w ∧ w ≤ 6) : ∀ (f y p : Nat) (τ : St), y + f = 6 → 1 ≤ y → MR τ g n p n → τ.1 69 19 = nI w → p ≤ n → p + 1 = y * (w + 1) → lrX g w y τ →
    ((laR g n w f y p).1 = false → ∀ τ', Fr [78] [(69, 15), (69, 19)] τ τ' → Q (some (.int (-1 - nI (laR g n w f y p).2.2))) τ') →
    (∀ Y P, laR g n w f y p = (true, Y, P) → ∀ τ', Fr [78] [(69, 3), (69, 4), (69, 15), (69, 19)] τ τ' → τ'.1 69 3 = nI Y → τ'.1 69 4 = nI w → lrX g w Y τ' → Rs M_M_land (d + 7) Q 93 [some (.ref 69), some (.int 1), some (.int (nI Y)), some (.int 0), none] [] τ') → Rs M_M_land (d + 7) Q 25 [some (.ref 69), some (.int 1), some (.int (nI y)), none, none] [] τ
  | 0, y, p, τ, hy, hy1, M, h19, hp, hpy, hx, hbad, hgood => by
    have hn80 := M.2.2.2.2.1
    rw [Rs_eq]
    simp only [E_M_land, fIsA, fRt, fLen, fLit, fBool, M.1, M.2.1]
    refine ⟨fun _ => ⟨fun z => ?_, fun z => ?_⟩, fun z => absurd (nI_le (a := 6) (by omega) (by omega)) z⟩
    · have z := (nI_leI (by omega) (by omega)).mp z
      have e : p = n := by omega
      simp only [sI_1, reduceIte, Nat.reduceEqDiff, h19]
      exact hgood y p (laR_end e) _ ((Fr.rf.i rfl).i rfl) rfl rfl hx
    · have e : p ≠ n := fun w => z (by rw [w]; exact Int32.le_refl _)
      rw [laR_no e (Or.inl rfl)] at hbad
      exact hbad rfl τ Fr.rf
  | f + 1, y, p, τ, hy, hy1, M, h19, hp, hpy, hx, hbad, hgood => by
    have hn80 := M.2.2.2.2.1
    rw [Rs_eq]
    simp only [E_M_land, fIsA, fRt, fLen, fLit, fBool, M.1, M.2.1]
    refine ⟨fun z => absurd z (nI_ge (b := 6) (by omega) (by omega)), fun _ => ?_⟩
    refine s_takes (c := 47) M (by omega) (fun c1 c2 => ?_) (fun c => ?_)
    · have e : p ≠ n := by omega
      simp only [oT, E_M_land, fIsA, fRt, fLen, fLit, fBool]
      have M1 := M.go (q := p + 1) (by omega)
      have h19' : (sI τ 69 15 (nI (p + 1))).1 69 19 = nI w := h19
      refine s_readsRow (y := y) (W := w) M1 h19' (by omega) hw.2 c1 w (fun z => by omega) (fun _ => rfl) (fun τ1 f1 e15 e19 hr ho => ?_)
      simp only [oT, E_M_land, fIsA, fRt, fLen, fLit, fBool, nI_1]
      rw [if_neg (by omega)] at e19
      have rl := rl_le (g := g) (m := n) w (p + 1) c1
      have F1 : Fr [78] [(69, 15), (69, 19)] τ τ1 := (Fr.rf.i rfl).tr f1
      by_cases c3 : rlF g n w (p + 1) < w
      · rw [laR_bad e ⟨c1, c2⟩ c3] at hbad
        rw [if_neg (by omega)]
        rw [Rs_eq]
        simp only [E_M_land, fIsA, fRt, fLen, fLit, fBool, e15]
        exact hbad rfl τ1 F1
      · rw [laR_go e ⟨c1, c2⟩ c3] at hbad hgood
        have ew : rlF g n w (p + 1) = w := by omega
        rw [ew] at e15 hr
        rw [if_pos ⟨by omega, Or.inr ew⟩]
        have M2 : MR τ1 g n (p + 1 + w) n := M1.fr f1 rfl e15 (by omega)
        have ey : (y + 1) * (w + 1) = y * (w + 1) + (w + 1) := Nat.succ_mul y (w + 1)
        refine s_Mland_loop hw f (y + 1) (p + 1 + w) τ1 (by omega) (by omega) M2 e19 (by omega) (by omega) (fun r c hr' hc => ?_) (fun h τ' f' => hbad h τ' (F1.tr f')) (fun Y P h τ' f' => hgood Y P h τ' ((F1.wk rfl).tr f'))
        by_cases q : r = y
        · subst q
          rw [hr c hc]
          congr 3
          omega
        · have b1 : w * (r + 1) ≤ w * y := Nat.mul_le_mul_left w (by omega)
          rw [Nat.mul_succ] at b1
          rw [ho _ (by omega)]
          exact hx r c (by omega) hc
    · simp only [oT, E_M_land, fIsA, fRt, fLen, fLit, fBool, M.1, M.2.1]
      refine ⟨fun z => ?_, fun z => ?_⟩
      · have z := (nI_leI (by omega) (by omega)).mp z
        have e : p = n := by omega
        simp only [sI_1, reduceIte, Nat.reduceEqDiff, h19]
        exact hgood y p (laR_end e) _ ((Fr.rf.i rfl).i rfl) rfl rfl hx
      · have e : p ≠ n := fun w => z (by rw [w]; exact Int32.le_refl _)
        rw [laR_no e (Or.inr c)] at hbad
        exact hbad rfl τ Fr.rf
theorem s_Mland_fill {Y : Nat} {X : Nat → Nat} {τ : St} {is : Int32} (hYw : Y * w ≤ 36) (h3 : τ.1 69 3 = nI Y) (h4 : τ.1 69 4 = nI w) (hX12 : ∀ f, f < Y * w → X f ≤ 12 ∧ τ.1 78 f = nI (X f))
    (hQ : ∀ τ' l, Fr [71, 72] [] τ τ' → (∀ f, f < Y * w → τ'.1 71 f = nI (kX (X f)) ∧ τ'.1 72 f = nI (hX (X f))) → Rs M_M_land (d + 1) Q 169 [some (.ref 69), some (.int is), some (.int (nI Y)), some (.int 0), l] [] τ') : Rs M_M_land (d + 1) Q 93 [some (.ref 69), some (.int is), some (.int (nI Y)), some (.int 0), none] [] τ := by
  have loop : ∀ (u k : Nat) (τ1 : St) (l : Option Value), k + u = 36 → Fr [71, 72] [] τ τ1 → (∀ f, f < k → f < Y * w → τ1.1 71 f = nI (kX (X f)) ∧ τ1.1 72 f = nI (hX (X f))) → Rs M_M_land (d + 1) Q 93 [some (.ref 69), some (.int is), some (.int (nI Y)), some (.int (nI k)), l] [] τ1 := by
    intro u
    induction u with
    | zero =>
      intro k τ1 l hk fr hd
      obtain rfl : k = 36 := by omega
      rw [Rs_eq]
      simp only [E_M_land, fIsA, fRt, fLen, fLit, fBool]
      exact ⟨fun _ => hQ τ1 _ fr (fun f hf => hd f (by omega) hf), fun z => absurd (Int32.le_refl _) z⟩
    | succ u ih =>
      intro k τ1 l hk fr hd
      -- what is laid for x
      have lay : ∀ x, x ≤ 12 → (k < Y * w → X k = x) → Rs M_M_land (d + 1) Q 118 [some (.ref 69), some (.int is), some (.int (nI Y)), some (.int (nI k)), l] [.int (nI x)] τ1 := fun x hx hxk => by
        have next : ∀ l', Rs M_M_land (d + 1) Q 93 [some (.ref 69), some (.int is), some (.int (nI Y)), some (.int (nI (k + 1))), l'] [] (sI (sI τ1 71 k (nI (kX x))) 72 k (nI (hX x))) := fun l' => by
          refine ih (k + 1) _ l' (by omega) ((fr.ic rfl).ic rfl) (fun f hf1 hf2 => ?_)
          simp only [sI_1, reduceIte, Nat.reduceEqDiff]
          by_cases e : f = k
          · subst e
            rw [if_pos rfl, if_pos rfl, hxk hf2]
            exact ⟨rfl, rfl⟩
          · rw [if_neg e, if_neg e]
            exact hd f (by omega) hf2
        unfold kX hX at next
        rw [Rs_eq]
        simp only [E_M_land, fIsA, fRt, fLen, fLit, fBool, nI_clamp (show k < 2 ^ 31 by omega), nI_1]
        refine ⟨fun z => ⟨vp_in_nI (by omega) (by omega), fun _ => ⟨vp_in_nI (by omega) (by omega), ?_⟩, fun z2 => absurd z z2⟩, fun z => ⟨vp_in_nI (by omega) (by omega), fun z2 => absurd z2 z, fun _ => ⟨vp_in_nI (by omega) (by omega), ?_⟩⟩⟩
        · have z := (nI_leI (a := 10) (by omega) (by omega)).mp z
          rw [if_neg (show ¬ x < 10 by omega), if_neg (show ¬ x < 10 by omega)] at next
          rw [show nI x - 9 = nI (x - 9) from pk_sub (b := 9) (by omega)]
          exact next _
        · have z : x < 10 := Nat.lt_of_not_le (fun v => z (nI_le (a := 10) v (by omega)))
          rw [if_pos z, if_pos z] at next
          exact next _
      rw [Rs_eq]
      simp only [E_M_land, fIsA, fRt, fLen, fLit, fBool]
      refine ⟨fun z => absurd z (nI_ge (b := 36) (by omega) (by omega)), fun _ => ?_⟩
      refine s_Mfl ((fr.u1 69 3 rfl).trans h3) ((fr.u1 69 4 rfl).trans h4) ?_
      simp only [oT, E_M_land, fIsA, fRt, fLen, fLit, fBool, nI_clamp (show k < 2 ^ 31 by omega)]
      refine ⟨fun z => ?_, fun z => ?_⟩
      · have z := (nI_leI (by omega) (by omega)).mp z
        exact lay 12 (by omega) (fun v => by omega)
      · have z : k < Y * w := Nat.lt_of_not_le (fun v => z (nI_le v (by omega)))
        rw [fr.c1 78 rfl, (hX12 k z).2]
        exact ⟨vp_in_nI (by omega) (by omega), lay (X k) (hX12 k z).1 (fun _ => rfl)⟩
  exact loop 36 0 τ none (by omega) Fr.rf (fun f hf => absurd hf (Nat.not_lt_zero f))
theorem s_Mland_reset {Y ch : Nat} {τ : St} {is : Int32} (h3 : τ.1 69 3 = nI Y) (h4 : τ.1 69 4 = nI w) (h6 : τ.1 69 6 = nI ch)
    (hQ : ∀ τ', Fr [75] [(69, 5), (69, 6), (69, 28), (69, 45)] τ τ' → τ'.1 69 5 = 0 → τ'.1 69 6 = nI (ch + 1) → τ'.1 69 28 = 0 → τ'.1 69 45 = 0 → (∀ j, j < 50 → τ'.1 75 j = 0) → Q (some (.int (nI (Y * w)))) τ') : ∀ l, Rs M_M_land (d + 1) Q 169 [some (.ref 69), some (.int is), some (.int (nI Y)), some (.int 0), l] [] τ := by
  have loop : ∀ (u k : Nat) (τ1 : St) (l : Option Value), k + u = 50 → Fr [75] [] τ τ1 → (∀ f, f < k → τ1.1 75 f = 0) → Rs M_M_land (d + 1) Q 169 [some (.ref 69), some (.int is), some (.int (nI Y)), some (.int (nI k)), l] [] τ1 := by
    intro u
    induction u with
    | zero =>
      intro k τ1 l hk fr hd
      obtain rfl : k = 50 := by omega
      have e6 : τ1.1 69 6 + 1 = nI (ch + 1) := by rw [fr.u1 69 6 rfl, h6]; exact nI_1 ch
      rw [Rs_eq]
      simp only [E_M_land, fIsA, fRt, fLen, fLit, fBool, sI_1, reduceIte, Nat.reduceEqDiff, e6]
      refine ⟨fun _ => ?_, fun z => absurd (Int32.le_refl _) z⟩
      refine s_Mfl (a := Y) (b := w) ?_ ?_ ?_
      · show τ1.1 69 3 = _; rw [fr.u1 69 3 rfl]; exact h3
      · show τ1.1 69 4 = _; rw [fr.u1 69 4 rfl]; exact h4
      · simp only [oT, E_M_land, fIsA, fRt, fLen, fLit, fBool]
        exact hQ _ (((((fr.wk rfl).i rfl).i rfl).i rfl).i rfl) rfl rfl rfl rfl hd
    | succ u ih =>
      intro k τ1 l hk fr hd
      rw [Rs_eq]
      simp only [E_M_land, fIsA, fRt, fLen, fLit, fBool, nI_clamp (show k < 2 ^ 31 by omega), nI_1]
      refine ⟨fun z => absurd z (nI_ge (b := 50) (by omega) (by omega)), fun _ => ⟨vp_in_nI (by omega) (by omega), ?_⟩⟩
      refine ih (k + 1) _ _ (by omega) (fr.ic rfl) (fun f hf => ?_)
      simp only [sI_1, reduceIte]
      by_cases e : f = k
      · rw [if_pos e]
      · rw [if_neg e]; exact hd f (by omega)
  exact fun l => loop 50 0 τ l (by omega) Fr.rf (fun f hf => absurd hf (Nat.not_lt_zero f))
end ML
