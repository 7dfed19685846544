/-! PAIRS: siege -/
def acA (τ : St) : Nat → List (Nat × Nat × Nat) → Prop
  | _, [] => True
  | k, a :: l => (τ.1 85 k = nI a.1 ∧ τ.1 86 k = nI a.2.1 ∧ (a.1 = 0 → τ.1 87 k = nI a.2.2)) ∧ acA τ (k + 1) l
theorem acA.cg {τ τ' : St} (h : ∀ j, τ'.1 85 j = τ.1 85 j ∧ τ'.1 86 j = τ.1 86 j ∧ τ'.1 87 j = τ.1 87 j) : ∀ (l : List (Nat × Nat × Nat)) (k : Nat), acA τ k l → acA τ' k l
  | [], _, _ => trivial
  | a :: l, k, hA => ⟨⟨(h k).1.trans hA.1.1, (h k).2.1.trans hA.1.2.1, fun z => (h k).2.2.trans (hA.1.2.2 z)⟩, acA.cg h l (k + 1) hA.2⟩
/-- acts told one behind another, up to the end m -/
def acC (g : Nat → Nat) (m : Nat) : Nat → List (Nat × Nat × Nat) → Prop
  | p, [] => p = m
  | p, a :: l => ∃ q, acF g m p = (some a, q) ∧ acC g m q l
theorem acL_acC {g : Nat → Nat} {m : Nat} : ∀ (r p : Nat), p ≤ m → m ≤ p + 2 * r → ((acL g m r p).2.2 ≤ m ∧ 2 * (acL g m r p).1.length ≤ m - p) ∧ ((acL g m r p).2.1 = true → acC g m p (acL g m r p).1 ∧ (acL g m r p).2.2 = m)
  | 0, p, h1, h2 => ⟨⟨h1, by simp [acL]⟩, fun _ => ⟨show p = m by omega, show p = m by omega⟩⟩
  | r + 1, p, h1, h2 => by
    by_cases c : p = m
    · subst c
      rw [acL_m]
      exact ⟨⟨Nat.le_refl _, by simp⟩, fun _ => ⟨rfl, rfl⟩⟩
    · rcases hac : acF g m p with ⟨x, q⟩
      have hq := acF_q h1 hac
      cases x with
      | none =>
        rw [acL_no c hac]
        exact ⟨⟨hq.2.1, by simp⟩, fun z => absurd z Bool.false_ne_true⟩
      | some a =>
        have h3 := hq.2.2 a rfl
        rw [acL_yes c hac]
        have ih := acL_acC (g := g) r q hq.2.1 (by omega)
        refine ⟨⟨ih.1.1, ?_⟩, fun z => ⟨⟨q, hac, (ih.2 z).1⟩, (ih.2 z).2⟩⟩
        have := ih.1.2
        rw [List.length_cons]
        omega
theorem s_Macts_loop {d n m : Nat} {Q : Qt} {g : Nat → Nat} (hm60 : m ≤ 60) : ∀ (r p k : Nat) (τ : St), MR τ g n p m → τ.1 69 33 = nI k → p ≤ m → 2 * k ≤ p → m ≤ p + 2 * r →
    (∀ τ', Fr [85, 86, 87] [(69, 15), (69, 33)] τ τ' → τ'.1 69 15 = nI (acL g m r p).2.2 → ((acL g m r p).2.1 = true → (τ'.1 69 33 = nI (k + (acL g m r p).1.length) ∧ acA τ' k (acL g m r p).1) ∧ ∀ j, j < k → τ'.1 85 j = τ.1 85 j ∧ τ'.1 86 j = τ.1 86 j ∧ τ'.1 87 j = τ.1 87 j) → Rs M_M_siege (d + 7) Q 19 [some (.ref 69), some (.int (nI n)), some (.int (if (acL g m r p).2.1 = true then 1 else 0)), none, none] [] τ') → Rs M_M_siege (d + 7) Q 19 [some (.ref 69), some (.int (nI n)), some (.int 1), none, none] [] τ
  | 0, p, k, τ, h, ha, hp, h2, hr, hQ => hQ τ Fr.rf h.1 (fun _ => ⟨⟨ha, trivial⟩, fun _ _ => ⟨rfl, rfl, rfl⟩⟩)
  | r + 1, p, k, τ, h, ha, hp, h2, hr, hQ => by
    by_cases c : p = m
    · subst c
      rw [acL_m] at hQ
      exact hQ τ Fr.rf h.1 (fun _ => ⟨⟨ha, trivial⟩, fun _ _ => ⟨rfl, rfl, rfl⟩⟩)
    · have hn := h.2.2.2
      rw [Rs_eq]
      simp only [E_M_siege, fIsA, fRt, fLen, fLit, fBool, h.1, h.2.1]
      refine ⟨fun z => absurd z (nI_ge (by omega) (by omega)), fun _ => ?_⟩
      refine s_readsAct h ha (by omega) (by omega) (fun q τ' hac f e15 => ?_) (fun a q τ' hac f e15 e33 oo e85 e86 e87 => ?_)
      · simp only [oT, E_M_siege, fIsA, fRt, fLen, fLit, fBool]
        rw [acL_no c hac] at hQ
        exact hQ τ' f e15 (fun z => absurd z Bool.false_ne_true)
      · simp only [oT, E_M_siege, fIsA, fRt, fLen, fLit, fBool]
        have hq := acF_q hp hac
        have h3 := hq.2.2 a rfl
        have h4 := hq.2.1
        rw [acL_yes c hac] at hQ
        refine s_Macts_loop hm60 r q (k + 1) τ' (h.fr f rfl e15 (by omega)) e33 h4 (by omega) (by omega) (fun τ2 f2 e215 y2 => hQ τ2 (f.tr f2) e215 (fun z => ?_))
        obtain ⟨y3, o2⟩ := y2 z
        have q1 := o2 k (by omega)
        refine ⟨⟨?_, ⟨q1.1.trans e85, q1.2.1.trans e86, fun w => (q1.2.2).trans (e87 w)⟩, y3.2⟩, fun j hj => ?_⟩
        · rw [y3.1, List.length_cons]
          congr 1
          omega
        · have q1 := o2 j (by omega)
          have q2 := oo j hj
          exact ⟨q1.1.trans q2.1, q1.2.1.trans q2.2.1, q1.2.2.trans q2.2.2⟩
/-- acts done one behind another, till one is refused: dn were done -/
theorem run_both {R C ns o e m : Nat} {kd ht : Nat → Nat} {W S : Nat → Int32} (ho9 : o ≤ 999) (hn36 : R * C ≤ 36) (h8 : ns ≤ 8) : ∀ (l : List (Nat × Nat × Nat)) (r : Nat → Int32) (B : Nat), RowG ns (R * C) B kd r → B + 9 * l.length < 2 ^ 26 → (∀ a ∈ l, a.1 ≤ 2 ∧ (a.1 = 2 → a.2.1 ≤ 9)) → ∃ (dn : Nat) (ok : Bool) (r' : Nat → Int32), dn ≤ l.length ∧ (ok = true ↔ dn = l.length) ∧ RowG ns (R * C) (B + 9 * l.length) kd r' ∧
    (∀ (D : Nat) (τ : St) (Q : Qt) (g : Nat → Nat) (lm i dd p : Nat), lm ≤ 60 → i + l.length ≤ 50 → dd ≤ i → EnvI R C kd ht ns o e m W S τ → MoI τ 9 ns (R * C) B kd r → TT τ g lm p lm → acC g lm p l → (∀ (τ' : St) (i' : Int32), Fr [9, 10, 55] [(53, 3), (1, 2)] τ τ' → τ'.1 9 1 = τ.1 9 1 → MoI τ' 9 ns (R * C) (B + 9 * l.length) kd r' → Rs M_H_siege (D + 62) Q 103 [some (.ref 0), some (.int (nI (dd + dn))), some (.int (if ok = true then 0 else 1)), some (.int i')] [] τ') → Rs M_H_siege (D + 62) Q 52 [some (.ref 0), some (.int (nI dd)), some (.int 0), some (.int (nI i))] [] τ) ∧
    (∀ (D : Nat) (τ : St) (Q : Qt) (k : Nat) (a1 a2 a3 : Int32), k + l.length ≤ 60 → EnvI R C kd ht ns o e m W S τ → (∀ j, j < 50 → τ.1 75 j = r j) → acA τ k l → τ.1 69 33 = nI (k + l.length) → (∀ τ', Fr [75, 82, 83] [] τ τ' → (∀ j, j < 50 → τ'.1 75 j = r' j) → Rs M_M_siege (D + 62) Q 88 [some (.ref 69), some (.int a1), some (.int a2), some (.int a3), some (.int (nI (k + dn)))] [] τ') → Rs M_M_siege (D + 62) Q 64 [some (.ref 69), some (.int a1), some (.int a2), some (.int a3), some (.int (nI k))] [] τ)
  | [], r, B, row, hB, hl => by
    refine ⟨0, true, r, Nat.le_refl _, ⟨fun _ => rfl, fun _ => rfl⟩, row, fun D τ Q g lm i dd p hlm hi hdd E mo T hc hQ => ?_, fun D τ Q k a1 a2 a3 hk E hr hA h33 hQ => ?_⟩
    · have hc : p = lm := hc
      rw [Rs_eq]
      simp only [E_H_siege, fIsA, fRt, fLen, fLit, fBool]
      rw [List.length_nil] at hi
      refine ⟨fun z => absurd z (nI_ge (b := 60) (by omega) (by omega)), fun _ => ?_⟩
      refine s_finished (n := lm) (p := p) T.1 T.2.1 (by omega) T.2.2.2.1 ?_
      rw [if_pos hc]
      simp only [oT, E_H_siege, fIsA, fRt, fLen, fLit, fBool]
      exact hQ τ _ Fr.rf rfl mo
    · rw [List.length_nil] at h33
      rw [Rs_eq]
      simp only [E_M_siege, fIsA, fRt, fLen, fLit, fBool, h33]
      exact ⟨fun _ => hQ τ Fr.rf hr, fun z => absurd (Int32.le_refl _) z⟩
  | a :: l, r, B, row, hB, hl => by
    rw [List.length_cons] at hB
    have ha := hl a (List.mem_cons_self ..)
    obtain ⟨b, r1, row1, hc1, hm1⟩ := act_both (e := e) (m := m) (o := o) (ht := ht) (W := W) (S := S) row (by omega) ho9 hn36 h8 a ha.2
    cases b with
    | false =>
      refine ⟨0, false, r1, Nat.zero_le _, ⟨fun z => absurd z Bool.false_ne_true, fun z => by rw [List.length_cons] at z; omega⟩, row1.more (by rw [List.length_cons]; omega), fun D τ Q g lm i dd p hlm hi hdd E mo T hc hQ => ?_, fun D τ Q k a1 a2 a3 hk E hr hA h33 hQ => ?_⟩
      · rw [List.length_cons] at hi
        obtain ⟨q, hac, hcc⟩ := hc
        have hpl := (acF_inv hac).1
        rw [Rs_eq]
        simp only [E_H_siege, fIsA, fRt, fLen, fLit, fBool]
        refine ⟨fun z => absurd z (nI_ge (b := 60) (by omega) (by omega)), fun _ => ?_⟩
        refine s_finished (n := lm) (p := p) T.1 T.2.1 (by omega) T.2.2.2.1 ?_
        rw [if_neg (by omega)]
        simp only [oT, E_H_siege, fIsA, fRt, fLen, fLit, fBool]
        refine hc1 D B τ _ g lm p lm q (by omega) E mo T hac (fun x τ' hx f s mo' _ => ?_)
        simp only [oT, E_H_siege, fIsA, fRt, fLen, fLit, fBool]
        refine ⟨fun z => absurd (hx.mpr rfl) (Int32.not_lt.mpr z), fun _ => ?_⟩
        rw [Rs_eq]
        simp only [E_H_siege, fIsA, fRt, fLen, fLit, fBool, nI_1, Int32.add_zero]
        refine ⟨fun z => absurd z (nI_ge (b := 60) (by omega) (by omega)), fun _ => ?_⟩
        exact hQ τ' _ f s (mo'.more (by rw [List.length_cons]; omega) h8)
      · rw [List.length_cons] at hk h33
        rw [Rs_eq]
        simp only [E_M_siege, fIsA, fRt, fLen, fLit, fBool, h33]
        refine ⟨fun z => absurd z (nI_ge (by omega) (by omega)), fun _ => ?_⟩
        refine hm1 D τ _ k (by omega) ha.1 E hr hA.1.1 hA.1.2.1 hA.1.2.2 (fun τ' f r' => ?_)
        simp only [oT, E_M_siege, fIsA, fRt, fLen, fLit, fBool, Bool.false_eq_true, if_false]
        exact hQ τ' f r'
    | true =>
      obtain ⟨dn, ok, r', d1, d2, row', hc2, hm2⟩ := run_both ho9 hn36 h8 l r1 (B + 9) row1 (by omega) (fun a' h' => hl a' (List.mem_cons_of_mem _ h'))
      have eB : B + 9 + 9 * l.length = B + 9 * (a :: l).length := by rw [List.length_cons]; omega
      rw [eB] at row'
      refine ⟨dn + 1, ok, r', by rw [List.length_cons]; omega, ⟨fun z => by rw [d2.mp z, List.length_cons], fun z => d2.mpr (by rw [List.length_cons] at z; omega)⟩, row', fun D τ Q g lm i dd p hlm hi hdd E mo T hc hQ => ?_, fun D τ Q k a1 a2 a3 hk E hr hA h33 hQ => ?_⟩
      · rw [List.length_cons] at hi
        obtain ⟨q, hac, hcc⟩ := hc
        have hpl := (acF_inv hac).1
        have hq := (acF_q (by omega) hac).2.1
        rw [Rs_eq]
        simp only [E_H_siege, fIsA, fRt, fLen, fLit, fBool]
        refine ⟨fun z => absurd z (nI_ge (b := 60) (by omega) (by omega)), fun _ => ?_⟩
        refine s_finished (n := lm) (p := p) T.1 T.2.1 (by omega) T.2.2.2.1 ?_
        rw [if_neg (by omega)]
        simp only [oT, E_H_siege, fIsA, fRt, fLen, fLit, fBool]
        refine hc1 D B τ _ g lm p lm q (by omega) E mo T hac (fun x τ' hx f s mo' e12 => ?_)
        simp only [oT, E_H_siege, fIsA, fRt, fLen, fLit, fBool, nI_1]
        refine ⟨fun _ => ?_, fun z => absurd (hx.mp (Int32.not_le.mp z)) (by decide)⟩
        refine hc2 D τ' Q g lm (i + 1) (dd + 1) q hlm (by omega) (by omega) (E.fr f rfl s) mo' (T.fr f rfl e12 (by omega)) hcc (fun τ2 i' f2 s2 mo2 => ?_)
        have := hQ τ2 i' (f.tr f2) (s2.trans s) (by rw [← eB]; exact mo2)
        rw [show dd + 1 + dn = dd + (dn + 1) by omega]
        exact this
      · rw [List.length_cons] at hk h33
        rw [Rs_eq]
        simp only [E_M_siege, fIsA, fRt, fLen, fLit, fBool, h33]
        refine ⟨fun z => absurd z (nI_ge (by omega) (by omega)), fun _ => ?_⟩
        refine hm1 D τ _ k (by omega) ha.1 E hr hA.1.1 hA.1.2.1 hA.1.2.2 (fun τ' f r1' => ?_)
        simp only [oT, E_M_siege, fIsA, fRt, fLen, fLit, fBool, if_true, nI_1]
        refine hm2 D τ' Q (k + 1) a1 a2 a3 (by omega) (E.fr f rfl (f.c1 9 rfl 1)) r1' (acA.cg (fun j => ⟨f.c1 85 rfl j, f.c1 86 rfl j, f.c1 87 rfl j⟩) l (k + 1) hA.2) (by rw [f.u1 69 33 rfl, h33]; congr 1; omega) (fun τ2 f2 r2 => ?_)
        have := hQ τ2 (f.tr f2) r2
        rw [show k + 1 + dn = k + (dn + 1) by omega]
        exact this
