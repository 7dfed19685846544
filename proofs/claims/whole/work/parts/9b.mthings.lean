/-! RULES told: the reference reads things and signs; all of it -/
section MT
variable {g : Nat → Nat} {n m f : Nat}
theorem m_thing (hm : m ≤ 40) (ih : MRead g n m f) {k p s D : Nat} {τ : St} {Q : Qt} (hD : 2 * (f + 1) + (m - p) + 20 ≤ D) (hf : 8 * (m - p) + wM 7 ≤ f + 1) (M : MR τ g n p m) (h25 : τ.1 69 25 = nI s) (h17 : τ.1 69 17 = nI k) (hs : s ≤ p) (hp : p ≤ m) (hk : k ≤ 4) (no : MN Q τ g m (f + 1) 7 k p s) (yes : MY Q τ g m (f + 1) 7 k p s) (h45 : ¬ (p < m ∧ g p = 45)) : Cl D m_M_readsThing [.ref 69] τ Q := by
  obtain ⟨D0, rfl⟩ : ∃ D0, D = D0 + 12 := ⟨D - 12, by omega⟩
  have w7 : wM 7 = 1 := rfl
  have w0 : wM 0 = 5 := rfl
  have hmn : m ≤ n ∧ n ≤ 80 := ⟨M.2.2.2.1, M.2.2.2.2.1⟩
  have hg : p < m → g p < 256 := fun h => (M.2.2.2.2.2 p (by omega)).2
  have one : ∀ (v : Int32) (τ1 : St), Fr [] [(69, 15)] τ τ1 → ∀ j, j < 1 → (sI (sI τ1 81 s v) 69 25 (nI (s + 1))).1 81 (s + j) = v := fun v τ1 _ j hj => by
    obtain rfl : j = 0 := by omega
    simp only [sI_1, reduceIte, Nat.reduceEqDiff, Nat.add_zero]
  have old : ∀ (v : Int32) (τ1 : St), Fr [] [(69, 15)] τ τ1 → ∀ j, j < s → (sI (sI τ1 81 s v) 69 25 (nI (s + 1))).1 81 j = τ.1 81 j := fun v τ1 fr j hj => by
    simp only [sI_1, reduceIte, Nat.reduceEqDiff]
    rw [if_neg (by omega)]
    exact fr.c1 81 rfl j
  rw [N_M_readsThing]
  simp only [E_M_readsThing, fIsA, fRt, fLen, fLit, fBool]
  refine s_takes (c := 45) M (by omega) (fun a b => absurd ⟨a, b⟩ h45) (fun _ => ?_)
  simp only [oT, E_M_readsThing, fIsA, fRt, fLen, fLit, fBool]
  refine s_MisDigit M (fun c => ?_) (fun c => ?_)
  · simp only [oT, E_M_readsThing, fIsA, fRt, fLen, fLit, fBool]
    have c1 := c.1
    refine s_Mnumber (k := 3) (by omega) M (fun _ => ?_) (fun w => absurd c w)
    simp only [oT, E_M_readsThing, fIsA, fRt, fLen, fLit, fBool]
    refine s_codes (s := s) (by exact h25) (by omega) ?_
    simp only [oN, E_M_readsThing, fIsA, fRt, fLen, fLit, fBool]
    refine yes _ _ _ (th_d c) (((Fr.rf.i rfl).ic rfl).i rfl) rfl h17 rfl (fun j hj => ?_) (old _ _ (Fr.rf.i rfl))
    have hj : j < 1 := hj
    rw [one _ _ (Fr.rf.i rfl) j hj]
    obtain rfl : j = 0 := by omega
    rfl
  · simp only [oT, E_M_readsThing, fIsA, fRt, fLen, fLit, fBool]
    have al := amG (i := 1) (P := isLt) (X := ltN) (g := g) (p := p) (m := m) (fun b hb => ⟨fun c => by rw [am1 b hb, if_pos c], fun c => by rw [am1 b hb, if_neg c]⟩) hg
    by_cases cl : p < m ∧ isLt (g p)
    · have av := al.1 cl
      have l4 : ltN (g p) ≤ 4 := by unfold ltN; split <;> (try split) <;> (try split) <;> (try split) <;> omega
      refine s_takesOf M (by omega) (fun w => absurd w (by rw [av]; exact nI_pos (by omega))) (fun _ => ?_)
      rw [av]
      simp only [oT, E_M_readsThing, fIsA, fRt, fLen, fLit, fBool]
      refine ⟨fun w => absurd w (nI_pos (by omega)), fun _ => ?_⟩
      rw [show (1000 : Int32) + nI (ltN (g p)) = nI (1000 + ltN (g p)) from nI_add 1000 _]
      have c1 := cl.1
      refine s_codes (s := s) (by exact h25) (by omega) ?_
      simp only [oN, E_M_readsThing, fIsA, fRt, fLen, fLit, fBool]
      refine yes _ _ _ (th_l cl) (((Fr.rf.i rfl).ic rfl).i rfl) rfl h17 rfl (fun j hj => ?_) (old _ _ (Fr.rf.i rfl))
      have hj : j < 1 := hj
      rw [one _ _ (Fr.rf.i rfl) j hj]
      obtain rfl : j = 0 := by omega
      rfl
    · have av := al.2 cl
      refine s_takesOf M (by omega) (fun _ => ?_) (fun w => absurd (by rw [av]; decide) w)
      rw [av]
      simp only [oT, E_M_readsThing, fIsA, fRt, fLen, fLit, fBool, h17]
      have bad : ¬ (p < m ∧ g p = 40 ∧ k < 4) → Q (some (.int 0)) τ := fun w => no p τ (th_no c cl w) Fr.rf M.1 ⟨s, h25, Nat.le_refl _⟩
      refine ⟨fun z => bad (fun w => ?_), fun z => ?_⟩
      · have := (nI_eq (b := 4) (by omega) (by omega)).mp z
        omega
      · have hk4 : k < 4 := by
          have : k ≠ 4 := fun w => z (by rw [w]; rfl)
          omega
        refine s_takes (c := 40) M (by omega) (fun c1 c2 => ?_) (fun w => ?_)
        · have cb : p < m ∧ g p = 40 ∧ k < 4 := ⟨c1, c2, hk4⟩
          simp only [oT, E_M_readsThing, fIsA, fRt, fLen, fLit, fBool, sI_1, reduceIte, Nat.reduceEqDiff, h17, nI_1]
          have f0 : Fr [81] [(69, 15), (69, 17), (69, 25)] τ (sI (sI τ 69 15 (nI (p + 1))) 69 17 (nI (k + 1))) := (Fr.rf.i rfl).i rfl
          have M0 : MR (sI (sI τ 69 15 (nI (p + 1))) 69 17 (nI (k + 1))) g n (p + 1) m := M.fr f0 rfl rfl (by omega)
          refine (ih 0 (k + 1) (p + 1) s (D0 + 11) _ _ (by omega) (by omega) M0 (by exact h25) rfl (by omega) c1 hk4 (fun q τ1 h1 f1 e1 bb => ?_) (fun l q τ1 h1 f1 e1 e17 e2 e3 e4 => ?_)).1.1 (by omega)
          · obtain ⟨s', b1, b2⟩ := bb
            simp only [oT, E_M_readsThing, fIsA, fRt, fLen, fLit, fBool]
            exact no q τ1 (th_bn cb h1) (f0.tr f1) e1 ⟨s', b1, by omega⟩
          · have o1 := pR_ok f 0 (k + 1) (p + 1) (some l) q (by omega) c1 h1
            have o2 := (o1.2 l rfl).1.2
            have tb := th_by cb h1
            have M1 : MR τ1 g n q m := M0.fr f1 rfl e1 (by omega)
            simp only [oT, E_M_readsThing, fIsA, fRt, fLen, fLit, fBool]
            refine s_takes (c := 41) M1 (by omega) (fun d1 d2 => ?_) (fun w => ?_)
            · have e17' : (sI τ1 69 15 (nI (q + 1))).1 69 17 = nI (k + 1) := e17
              simp only [oT, E_M_readsThing, fIsA, fRt, fLen, fLit, fBool, sI_1, reduceIte, Nat.reduceEqDiff, e17, nI_pred]
              exact yes l (q + 1) _ (tb.1 ⟨d1, d2⟩) (((f0.tr f1).i rfl).i rfl) rfl rfl e2 e3 e4
            · simp only [oT, E_M_readsThing, fIsA, fRt, fLen, fLit, fBool]
              exact no q τ1 (tb.2 w) (f0.tr f1) e1 ⟨_, e2, by omega⟩
        · simp only [oT, E_M_readsThing, fIsA, fRt, fLen, fLit, fBool]
          exact bad (fun v => w ⟨v.1, v.2.1⟩)
theorem m_three (hm : m ≤ 40) (ih : MRead g n m f) {k p s D : Nat} {τ : St} {Q : Qt} (hD : 2 * (f + 1) + (m - p) + 20 ≤ D) (hf : 8 * (m - p) + wM 3 ≤ f + 1) (M : MR τ g n p m) (h25 : τ.1 69 25 = nI s) (h17 : τ.1 69 17 = nI k) (hs : s ≤ p) (hp : p ≤ m) (hk : k ≤ 4) (no : MN Q τ g m (f + 1) 3 k p s) (yes : MY Q τ g m (f + 1) 3 k p s) : Cl D m_M_readsRank [.ref 69, .int (nI 3)] τ Q := by
  obtain ⟨D0, rfl⟩ : ∃ D0, D = D0 + 1 := ⟨D - 1, by omega⟩
  have w3 : wM 3 = 2 := rfl
  have w7 : wM 7 = 1 := rfl
  have hmn : m ≤ n ∧ n ≤ 80 := ⟨M.2.2.2.1, M.2.2.2.2.1⟩
  have sl := sg_le (g := g) 41 p hp
  have sa := sg_at (g := g) (m := m) 41 p
  generalize hj : sgN g m 41 p = j at sl sa
  -- signs from the i-th on
  have signs : ∀ (u i E : Nat) (Q' : Qt), i + u = j → 2 * f + (m - (p + j)) + 20 + u ≤ E →
      (∀ q τ1, pR g m f 7 k (p + j) = (none, q) → Fr [81] [(69, 15), (69, 17), (69, 25)] τ τ1 → τ1.1 69 15 = nI q → (∃ s', τ1.1 69 25 = nI s' ∧ s' + (p + i) ≤ s + q) → Q' (some (.int 0)) τ1) →
      (∀ l q τ1, pR g m f 7 k (p + j) = (some l, q) → Fr [81] [(69, 15), (69, 17), (69, 25)] τ τ1 → τ1.1 69 15 = nI q → τ1.1 69 17 = nI k → τ1.1 69 25 = nI (s + (lM l).length + u) → (∀ x, x < (lM l).length → τ1.1 81 (s + x) = (lM l).getD x 0) → (∀ x, x < u → τ1.1 81 (s + (lM l).length + x) = 3000) → (∀ x, x < s → τ1.1 81 x = τ.1 81 x) → Q' (some (.int 1)) τ1) → Cl E m_M_readsThing [.ref 69] (sI τ 69 15 (nI (p + i))) Q' := by
    intro u
    induction u with
    | zero =>
      intro i E Q' hi hE n1 y1
      obtain rfl : i = j := by omega
      have f0 : Fr [81] [(69, 15), (69, 17), (69, 25)] τ (sI τ 69 15 (nI (p + i))) := Fr.rf.i rfl
      refine (ih 7 k (p + i) s E _ Q' (by omega) (by omega) (M.go (by omega)) (by exact h25) (by exact h17) (by omega) sl.1 hk (fun q τ1 h1 f1 e1 bb => n1 q τ1 h1 (f0.tr f1) e1 bb) (fun l q τ1 h1 f1 e1 e17 e2 e3 e4 => y1 l q τ1 h1 (f0.tr f1) e1 e17 e2 e3 (fun x hx => absurd hx (Nat.not_lt_zero x)) e4)).1.2 rfl (sa.2 (by omega))
    | succ u iu =>
      intro i E Q' hi hE n1 y1
      obtain ⟨E0, rfl⟩ : ∃ E0, E = E0 + 3 := ⟨E - 3, by omega⟩
      have c := sa.1 i (by omega)
      rw [N_M_readsThing]
      simp only [E_M_readsThing, fIsA, fRt, fLen, fLit, fBool]
      refine s_takes (c := 45) (M.go (q := p + i) (by omega)) (by omega) (fun _ _ => ?_) (fun w => absurd c w)
      simp only [oT, E_M_readsThing, fIsA, fRt, fLen, fLit, fBool, sI_sI]
      refine iu (i + 1) (E0 + 2) _ (by omega) (by omega) (fun q τ1 h1 f1 e1 bb => ?_) (fun l q τ1 h1 f1 e1 e17 e2 e3 e3' e4 => ?_)
      · obtain ⟨s', b1, b2⟩ := bb
        have o1 := pR_ok f 7 k (p + j) none q (by omega) sl.1 h1
        simp only [oT, E_M_readsThing, fIsA, fRt, fLen, fLit, fBool]
        refine s_codes b1 (by omega) ?_
        simp only [oN, E_M_readsThing, fIsA, fRt, fLen, fLit, fBool]
        exact n1 q _ h1 ((f1.ic rfl).i rfl) e1 ⟨s' + 1, rfl, by omega⟩
      · have o1 := pR_ok f 7 k (p + j) (some l) q (by omega) sl.1 h1
        have o2 := (o1.2 l rfl).1.2
        simp only [oT, E_M_readsThing, fIsA, fRt, fLen, fLit, fBool]
        refine s_codes e2 (by omega) ?_
        simp only [oN, E_M_readsThing, fIsA, fRt, fLen, fLit, fBool]
        refine y1 l q _ h1 ((f1.ic rfl).i rfl) e1 e17 rfl (fun x hx => ?_) (fun x hx => ?_) (fun x hx => ?_)
        · simp only [sI_1, reduceIte, Nat.reduceEqDiff]
          rw [if_neg (by omega)]
          exact e3 x hx
        · simp only [sI_1, reduceIte, Nat.reduceEqDiff]
          by_cases e : x = u
          · rw [if_pos (by omega)]
          · rw [if_neg (by omega)]; exact e3' x (by omega)
        · simp only [sI_1, reduceIte, Nat.reduceEqDiff]
          rw [if_neg (by omega)]
          exact e4 x hx
  rw [N_M_readsRank]
  simp only [E_M_readsRank, fIsA, fRt, fLen, fLit, fBool]
  refine ⟨fun z => absurd rfl z, fun _ => ?_⟩
  have go := signs j 0 D0 (fun v τ' => Ru M_M_readsRank D0 Q 9 [some (.ref 69), some (.int (nI 3)), none, none] (v.toList ++ []) τ') (by omega) (by omega) (fun q τ1 h1 f1 e1 bb => ?_) (fun l q τ1 h1 f1 e1 e17 e2 e3 e3' e4 => ?_)
  · rw [show p + 0 = p from rfl, M.can] at go
    exact go
  · simp only [oT, E_M_readsRank, fIsA, fRt, fLen, fLit, fBool]
    exact no q τ1 (p3_n (by rw [hj]; exact h1)) f1 e1 (by obtain ⟨s', b1, b2⟩ := bb; exact ⟨s', b1, by omega⟩)
  · simp only [oT, E_M_readsRank, fIsA, fRt, fLen, fLit, fBool]
    have el : lM (l ++ sgT j) = lM l ++ List.replicate j 3000 := by
      rw [lM_app]
      unfold sgT
      by_cases z : j = 0
      · rw [if_pos z, z]; rfl
      · rw [if_neg z]
        have : lM [(3, j)] = List.replicate j 3000 := List.append_nil _
        rw [this]
    refine yes _ q τ1 (p3_y (by rw [hj]; exact h1)) f1 e1 e17 ?_ (fun x hx => ?_) e4
    · rw [hj, el, List.length_append, List.length_replicate, e2, Nat.add_assoc]
    · rw [hj, el] at hx ⊢
      rw [List.length_append, List.length_replicate] at hx
      by_cases c : x < (lM l).length
      · rw [getD_app.1 c]; exact e3 x c
      · rw [getD_app.2 (by omega)]
        have := e3' (x - (lM l).length) (by omega)
        rw [show s + (lM l).length + (x - (lM l).length) = s + x by omega] at this
        rw [this, List.getD_eq_getElem?_getD, List.getElem?_replicate, if_pos (by omega)]
        rfl
theorem m_read (hm : m ≤ 40) : ∀ f, MRead g n m f := by
  intro f
  induction f with
  | zero =>
    intro mode k p s D τ Q hD hf
    have : 1 ≤ wM mode := by unfold wM; split <;> (try split) <;> (try split) <;> (try split) <;> (try split) <;> omega
    omega
  | succ f ih =>
    intro mode k p s D τ Q hD hf M h25 h17 hs hp hk no yes
    refine ⟨⟨fun c => ?_, fun c h45 => ?_⟩, fun l c4 c7 => m_loop hm ih hD hf M h25 h17 hs hp hk no yes l c4 c7⟩
    · by_cases c3 : mode < 3
      · exact m_rank hm ih hD hf M h25 h17 hs hp hk no yes c3
      · obtain rfl : mode = 3 := by omega
        exact m_three hm ih hD hf M h25 h17 hs hp hk no yes
    · subst c
      exact m_thing hm ih hD hf M h25 h17 hs hp hk no yes h45
end MT
