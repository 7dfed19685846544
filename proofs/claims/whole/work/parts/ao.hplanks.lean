theorem toK_any {kd : Nat → Nat} {R C : Nat} {P P' : Nat → Nat → Nat} {T : Nat → Prop} (hP : ∀ f q, P' f q ≤ 1498) : ∀ k f, toK kd R C P T 1498 k f → toK kd R C P' T 1498 k f
  | 0, _, z => z
  | k + 1, f, ⟨h, q, e, _, b⟩ => ⟨h, q, e, hP f q, toK_any hP k q b⟩
theorem wy_any {kd : Nat → Nat} {R C : Nat} {P P' : Nat → Nat → Nat} (hP : ∀ f q, P' f q ≤ 1498) (h : wyP kd R C P 1498) : wyP kd R C P' 1498 := by
  obtain ⟨f, j, a, b⟩ := h
  exact ⟨f, j, a, toK_any hP j f b⟩
theorem s_WtryPlanks {d R C m i N Lc : Nat} {kd ht : Nat → Nat} {S r r0 : Nat → Int32} {w : Int32} {Pl : Int64} {Q : Qt} {τ : St} (g : GI τ R C kd ht) (wa : WzI R C ht m S w r0 (r 47) i τ) (hr : ∀ q, q < R * C → r q = if bitL Pl q then 1 else 0) (hL : τ.1 59 6 = nI Lc) (hLc : Lc ≤ 1499) (hv : vN kd ht R C m S w r i N ≤ 1498)
    (take : vN kd ht R C m S w r i N < Lc → ∀ τ', Fr [] [(59, 4), (59, 6), (59, 7)] τ τ' → WzI R C ht m S w (rN N r) (r 47) i τ' → τ'.1 59 6 = nI (vN kd ht R C m S w r i N) → τ'.2 59 7 = lN N → Q none τ')
    (keep : ¬ vN kd ht R C m S w r i N < Lc → ∀ τ', Fr [] [(59, 4), (59, 6), (59, 7)] τ τ' → WzI R C ht m S w (rN N r) (r 47) i τ' → τ'.1 59 6 = τ.1 59 6 → τ'.2 59 7 = τ.2 59 7 → Q none τ') : Cl (d + 8) m_Ways_tryPlanks [.ref 59, .long Pl, .long (lN N)] τ Q := by
  have hn := g.n36
  have ok := vN_ok kd ht R C m S w r i N
  have aw : wyP kd R C (plC ht m S w (rN N r) (r 47) i) (vN kd ht R C m S w r i N) ∧ ∀ k, k < vN kd ht R C m S w r i N → ¬ wyP kd R C (plC ht m S w (rN N r) (r 47) i) k := by
    rcases ok with ⟨_, a, b⟩ | ⟨a, _⟩
    · exact ⟨a, b⟩
    · omega
  have hP := plC_ok ht m S w (rN N r) (r 47) i
  have wa2 := wa.pl (r' := rN N r) (Pl ||| lN N) (fun q hq => by
    unfold rN
    rw [bL_or, bitL_lN (show q < 64 by omega), hr q hq]
    by_cases c : N.testBit q = true
    · rw [if_pos ⟨by omega, c⟩, c, Bool.or_true]; rfl
    · rw [if_neg (fun w => c w.2), Bool.eq_false_iff.mpr c, Bool.or_false])
  have f1 : Fr [] [(59, 4), (59, 6), (59, 7)] τ (sL τ 59 4 (Pl ||| lN N)) := Fr.rf.l rfl
  have e6 : (sL τ 59 4 (Pl ||| lN N)).1 59 6 = nI Lc := hL
  have e7 : (sL τ 59 4 (Pl ||| lN N)).2 59 7 = τ.2 59 7 := by simp only [sL_2, reduceIte, Nat.reduceEqDiff]
  rw [N_Ways_tryPlanks]
  simp only [E_Ways_tryPlanks, fIsA, fRt, fLen, fLit, fBool, e6]
  generalize sL τ 59 4 (Pl ||| lN N) = τ1 at wa2 f1 e6 e7 ⊢
  have g1 := g.fr f1 rfl
  have sB := seaB g1
  refine s_Wcrosses g1 wa2 hP (by omega) (fun z c => ?_) (fun c => ?_)
  · have lt : vN kd ht R C m S w r i N < Lc := Nat.lt_of_not_le (fun w => aw.2 (Lc - 1) (by omega) c)
    simp only [oT, oN, E_Ways_tryPlanks, fIsA, fRt, fLen, fLit, fBool]
    have hh : ∀ k, k < 2 ^ 31 → (hitP kd R C (plF ht m S w (rN N r) (r 47) i) (τ1.2 5 7) (τ1.2 5 8) k ↔ wyP kd R C (plC ht m S w (rN N r) (r 47) i) k) := fun k hk => hit_wy g1 (fun f q => (hP f q).1) (fun f q => (hP f q).2) hk
    refine s_WleastMost (pl := plF ht m S w (rN N r) (r 47) i) g1 (fun f q Q' hf hq hQ' => wa2.pt g1 hf hq hQ') (fun q z => ((sB q).mp z).1) (fun no => ?_) (fun k hk yes min => ?_)
    · exact absurd ((hh 1498 (by omega)).mpr (wyP_lim hv aw.1)) no
    · have ek : k = vN kd ht R C m S w r i N := by
        rcases Nat.lt_trichotomy k (vN kd ht R C m S w r i N) with q | q | q
        · exact absurd ((hh k (by omega)).mp yes) (aw.2 k q)
        · exact q
        · exact absurd ((hh _ (by omega)).mpr aw.1) (min _ q)
      rw [ek]
      have wa3 := wa2.fr (cs := []) (fs := [(59, 6), (59, 7)]) (τ' := sL (sI τ1 59 6 (nI (vN kd ht R C m S w r i N))) 59 7 (lN N)) ((Fr.rf.i rfl).l rfl) rfl rfl rfl rfl rfl rfl rfl
      have q := take lt _ ((f1.i rfl).l rfl) wa3 rfl rfl
      simp only [oT, oN, E_Ways_tryPlanks, fIsA, fRt, fLen, fLit, fBool]
      exact q
  · have nlt : ¬ vN kd ht R C m S w r i N < Lc := fun lt => by
      rcases c with c | c
      · omega
      · exact c (wyP_lim (show vN kd ht R C m S w r i N ≤ Lc - 1 by omega) aw.1)
    have q := keep nlt τ1 f1 wa2 (e6.trans hL.symm) e7
    simp only [oT, oN, E_Ways_tryPlanks, fIsA, fRt, fLen, fLit, fBool]
    exact q
/-- the sets that the class has tried -/
def PC (F : Nat → Prop) (kk hg lw N : Nat) : Prop := (kk = 0 ∧ N = 0) ∨ ∃ a b, (b < hg ∨ b = hg ∧ a < lw) ∧ a ≤ b ∧ (kk = 1 ∧ a = b ∨ kk = 2 ∧ a < b) ∧ F a ∧ F b ∧ N = pn a b
theorem PC_SF {F : Nat → Prop} {kk n : Nat} (hk : kk ≤ 2) (hF : ∀ a, F a → a < n) (N : Nat) : PC F kk n 0 N ↔ SF F kk 0 0 N := by
  rcases (show kk = 0 ∨ kk = 1 ∨ kk = 2 by omega) with rfl | rfl | rfl
  · constructor
    · rintro (⟨_, a⟩ | ⟨a, b, _, _, c | c, _⟩)
      · exact a
      · omega
      · omega
    · intro z
      exact Or.inl ⟨rfl, z⟩
  · constructor
    · rintro (⟨a, _⟩ | ⟨a, b, _, _, c | c, fa, fb, e⟩)
      · omega
      · have := c.2
        subst this
        unfold pn at e
        rw [if_pos rfl] at e
        exact ⟨a, Nat.zero_le _, fa, by show N = 0 + 2 ^ a; omega⟩
      · omega
    · rintro ⟨a, _, fa, e⟩
      have e : N = 0 + 2 ^ a := e
      exact Or.inr ⟨a, a, Or.inl (hF a fa), Nat.le_refl _, Or.inl ⟨rfl, rfl⟩, fa, fa, by unfold pn; rw [if_pos rfl]; omega⟩
  · constructor
    · rintro (⟨a, _⟩ | ⟨a, b, _, _, c | c, fa, fb, e⟩)
      · omega
      · omega
      · unfold pn at e
        rw [if_neg (by omega)] at e
        exact ⟨a, Nat.zero_le _, fa, b, c.2, fb, by show N = 0 + 2 ^ a + 2 ^ b; omega⟩
    · rintro ⟨a, _, fa, b, ab, fb, e⟩
      have e : N = 0 + 2 ^ a + 2 ^ b := e
      exact Or.inr ⟨a, b, Or.inl (hF b fb), by omega, Or.inr ⟨rfl, by omega⟩, fa, fb, by unfold pn; rw [if_neg (by omega)]; omega⟩
