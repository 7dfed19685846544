/-! RULES worked out: the reference's loop -/
def MWI (m : Nat) (S a : Nat → Int32) (τ0 τ : St) (st : List Int32) : Prop := τ.1 69 24 = nI m ∧ (∀ j, j < m → τ.1 80 j = S j) ∧ (∀ k, k < 5 → τ.1 83 k = a k) ∧ SK (τ.1 82) st ∧ Fr [82] [] τ0 τ
theorem MWI.set {m : Nat} {S a : Nat → Int32} {τ0 τ : St} {st : List Int32} (h : MWI m S a τ0 τ st) {k : Nat} {v : Int32} {r : List Int32} (hr : SK (τ.1 82) r) (hk : k = r.length) : MWI m S a τ0 (sI τ 82 k v) (v :: r) := by
  obtain ⟨h1, h2, h3, h4, h5⟩ := h
  subst hk
  refine ⟨h1, h2, h3, ⟨?_, SK_up hr (fun j hj => ?_)⟩, h5.ic rfl⟩
  · simp only [sI_1, reduceIte]
  · simp only [sI_1, reduceIte]; rw [if_neg (by omega)]
theorem s_ruled_loop {d m : Nat} {Q : Qt} {τ0 : St} {S a : Nat → Int32} (hm : m ≤ 80) (hm0 : 0 < m) (hcd : ∀ i, i < m → S i < 1005 ∨ 2000 ≤ S i) (hQ : ∀ x τ', runM S a m 0 [] = [x] → Fr [82] [] τ0 τ' → Q (some (.int x)) τ') :
    ∀ (p i : Nat), i + p = m → ∀ (st : List Int32) (τ : St) (u : Option Value), MWI m S a τ0 τ st → st.length ≤ i → okR (fun i => kdM (S i)) p i st.length → runM S a p i st = runM S a m 0 [] → Rs M_M_ruled (d + 2) Q 4 [some (.ref 69), some (.int (nI st.length)), some (.int (nI i)), u] [] τ
  | 0, i, hi, st, τ, u, hw, hl, hk, hr => by
    obtain rfl : i = m := by omega
    match st, hk, hw, hr with
    | [x], _, hw, hr =>
      obtain ⟨w1, w2, w3, w4, w5⟩ := hw
      rw [Rs_eq]
      simp only [E_M_ruled, fIsA, fRt, fLen, fLit, fBool, w1]
      refine ⟨fun _ => ⟨fun _ => ?_, fun z => absurd z (nI_ne0 hm0 (by omega))⟩, fun q => absurd (Int32.le_refl _) q⟩
      have e0 : τ.1 82 0 = x := w4.1
      refine ⟨vp_in_nI (n := 0) (by omega) (by omega), ?_⟩
      rw [show Int32.toNatClampNeg 0 = 0 from rfl, e0]
      exact hQ x τ hr.symm w5
    | [], hk, _, _ => exact absurd (show (0 : Nat) = 1 from hk) (by decide)
    | _ :: _ :: _, hk, _, _ => exact absurd hk (by show ¬ _ + 1 + 1 = 1; omega)
  | p + 1, i, hi, st, τ, u, hw, hl, hk, hr => by
    have ih := s_ruled_loop (d := d) hm hm0 hcd hQ p (i + 1) (by omega)
    have hw0 := hw
    obtain ⟨w1, w2, w3, w4, w5⟩ := hw
    have hs : τ.1 80 i = S i := w2 i (by omega)
    rw [runM] at hr
    rw [okR] at hk
    rw [Rs_eq]
    simp only [E_M_ruled, fIsA, fRt, fLen, fLit, fBool, w1, nI_clamp (show i < 2 ^ 31 by omega), hs, nI_1]
    refine ⟨fun q => absurd q (nI_ge (by omega) (by omega)), fun _ => ⟨vp_in_nI (by omega) (by omega), ?_⟩⟩
    have hcd' := hcd i (by omega)
    refine ⟨fun h3 => ⟨fun h2 => ⟨fun h1 => ?_, fun h1 => ?_⟩, fun h2 => ?_⟩, fun h3 => ?_⟩
    · have c5 : S i < 1005 := Int32.lt_trans h1 (by decide)
      have k0 : kdM (S i) = 0 := by unfold kdM; rw [if_pos c5]
      have v0 : vlM a (S i) = S i := by unfold vlM; rw [if_neg (Int32.not_le.mpr h1)]
      rw [if_pos k0] at hk
      rw [k0, v0] at hr
      rw [nI_clamp (by omega)]
      exact ⟨vp_in_nI (by omega) (by omega), ih (S i :: st) _ _ (hw0.set w4 rfl) (by simp; omega) hk hr⟩
    · have c5 : S i < 1005 := by
        rcases hcd' with z | z
        · exact z
        · exact absurd h2 (Int32.not_lt.mpr z)
      have k0 : kdM (S i) = 0 := by unfold kdM; rw [if_pos c5]
      have v0 : vlM a (S i) = a (S i - 1000).toNatClampNeg := by unfold vlM; rw [if_pos (Int32.not_lt.mp h1)]
      rw [if_pos k0] at hk
      rw [k0, v0] at hr
      obtain ⟨c, hc, ec⟩ := nI_of (Int32.not_lt.mpr (Int32.le_trans (by decide) (Int32.not_lt.mp h1)) : ¬ S i < 0)
      have c1 : 1000 ≤ c := by
        have := Int32.not_lt.mp h1
        rw [ec] at this
        exact (nI_leI (a := 1000) (by omega) hc).mp this
      have c2 : c < 1005 := by
        rw [ec] at c5
        exact (nI_ltI (b := 1005) hc (by omega)).mp c5
      have e1 : S i - 1000 = nI (c - 1000) := by rw [ec]; exact pk_sub (b := 1000) c1
      rw [e1, nI_clamp (show c - 1000 < 2 ^ 31 by omega)] at hr ⊢
      rw [w3 _ (by omega), nI_clamp (by omega)]
      exact ⟨vp_in_nI (by omega) (by omega), vp_in_nI (by omega) (by omega), ih (a (c - 1000) :: st) _ _ (hw0.set w4 rfl) (by simp; omega) hk hr⟩
    · have c5 : ¬ S i < 1005 := fun z => h2 (Int32.lt_trans z (by decide))
      have k2 : kdM (S i) = 2 := by unfold kdM; rw [if_neg c5, if_neg h3]
      rw [if_neg (by rw [k2]; decide), if_neg (by rw [k2]; decide)] at hk
      rw [k2] at hr
      match st, hk, hw0, hr, hl, w4 with
      | [], hk, _, _, _, _ => exact absurd hk.1 (by decide)
      | [_], hk, _, _, _, _ => exact absurd (show 2 ≤ 1 from hk.1) (by decide)
      | y :: x :: st, hk, hw0, hr, hl, w4 =>
        simp only [List.length_cons] at hl
        have e1 : nI (y :: x :: st).length + -1 = nI (st.length + 1) := pk_m1 _
        have e2 : nI (st.length + 1) - 1 = nI st.length := nI_pred _
        rw [e1, e2, nI_clamp (by omega), nI_clamp (by omega), w4.2.1, show τ.1 82 (st.length + 1) = y from w4.1]
        refine ⟨vp_in_nI (by omega) (by omega), vp_in_nI (by omega) (by omega), s_Mworked ?_⟩
        simp only [oT, E_M_ruled, fIsA, fRt, fLen, fLit, fBool, nI_1]
        rw [nI_clamp (by omega)]
        exact ⟨vp_in_nI (by omega) (by omega), ih (jnM (S i - 2000) y x :: st) _ _ (hw0.set w4.2.2 rfl) (by simp; omega) hk.2 hr⟩
    · have c5 : ¬ S i < 1005 := by rw [h3]; decide
      have k1 : kdM (S i) = 1 := by unfold kdM; rw [if_neg c5, if_pos h3]
      rw [if_neg (by rw [k1]; decide), if_pos k1] at hk
      rw [k1] at hr
      match st, hk, hw0, hr, hl, w4 with
      | [], hk, _, _, _, _ => exact absurd hk.1 (by decide)
      | x :: st, hk, hw0, hr, hl, w4 =>
        simp only [List.length_cons] at hl
        have e1 : nI (x :: st).length - 1 = nI st.length := nI_pred _
        rw [e1, nI_clamp (by omega), w4.1]
        exact ⟨vp_in_nI (by omega) (by omega), vp_in_nI (by omega) (by omega), ih ((-x) :: st) _ _ (hw0.set w4.2 rfl) (by simp; omega) hk.2 hr⟩
