/-! WAYS: start of the class's ways, and the pulls they give -/
/-- the ways hold a weight, planks and an hour, and give the pulls of a row -/
def WzI (R C : Nat) (ht : Nat → Nat) (m : Nat) (S : Nat → Int32) (w : Int32) (r : Nat → Int32) (hh : Int32) (i : Nat) (τ : St) : Prop := ∃ (ρ n : Nat) (S1 : Nat → Int32) (P : Int64) (h : Nat), WyI τ ρ n S1 w P ∧ TnI τ h (i % 4) ∧ h < 10 ∧ hh = nI h ∧ (∀ a, vK n S1 a = vR m S a) ∧ ∀ q, q < R * C → r q = if bitL P q then 1 else 0
theorem WzI.fr {cs : List Nat} {fs : List (Nat × Nat)} {R C m i : Nat} {ht : Nat → Nat} {S r : Nat → Int32} {w hh : Int32} {τ τ' : St} (h : WzI R C ht m S w r hh i τ) (f : Fr cs fs τ τ') (h1 : disF cs fs [61] [] = true) (h2 : disF cs fs [] [(59, 2)] = true) (h3 : disF cs fs [] [(59, 3)] = true) (h4 : disF cs fs [] [(59, 4)] = true) (h5 : disF cs fs [] [(60, 1)] = true) (h6 : disF cs fs [] [(60, 2)] = true) (h7 : disF cs fs [] [(60, 3)] = true) : WzI R C ht m S w r hh i τ' := by
  obtain ⟨ρ, n, S1, P, h, ⟨w1, w2, w3, w4⟩, ⟨t1, t2, t3⟩, a, b, c, e⟩ := h
  refine ⟨ρ, n, S1, P, h, ⟨(f.u1 59 2 h2).trans w1, (f.u1 59 3 h3).trans w2, (f.u2 59 4 h4).trans w3, fun k k1 k2 j k3 => ?_⟩, ⟨?_, (f.u1 60 2 h6).trans t2, (f.u1 60 3 h7).trans t3⟩, a, b, c, e⟩
  · rw [f.u1 60 1 h5] at k2
    rw [f.c1 61 h1]
    exact w4 k k1 k2 j k3
  · rw [f.u1 60 1 h5]; exact t1
theorem WzI.pt {d R C m i f q : Nat} {kd ht : Nat → Nat} {S r : Nat → Int32} {w hh : Int32} {τ : St} {Q : Qt} (g : GI τ R C kd ht) (wa : WzI R C ht m S w r hh i τ) (hf : f < R * C) (hq : q < R * C) (hQ : Q (some (.int (plF ht m S w r hh i f q))) τ) : Cl (d + 3) m_Ways_pullTo [.ref 59, .int (nI f), .int (nI q)] τ Q := by
  obtain ⟨ρ, n, S1, P, h, wy, tn, a, b, c, e⟩ := wa
  subst b
  exact s_WpullTo g wy tn a c hf hq (e q hq) hQ
theorem s_HstartWays {d R C ns o e m i B : Nat} {kd ht : Nat → Nat} {W S r : Nat → Int32} {Q : Qt} {τ : St} {w : Int32} (E : EnvI R C kd ht ns o e m W S τ) (mo : MoI τ 9 ns (R * C) B kd r) (hi : r 46 = nI i) (hi2 : i < 2 ^ 30)
    (hQ : ∀ τ', Fr [55, 58, 61] [(53, 3), (56, 3), (59, 2), (59, 3), (59, 4), (60, 1), (60, 2), (60, 3)] τ τ' → WzI R C ht m S w r (r 47) i τ' → Q none τ') : Cl (d + 6) m_H_startWays [.ref 0, .int w] τ Q := by
  have E0 := E
  have hn := E.1.1.n36
  obtain ⟨⟨g, sh, ru⟩, _, wW, sS, lm, m80⟩ := E
  obtain ⟨n', m', j1, j2, j3, j4, j5, j6⟩ := ru
  have em : m' = m := (nI_eq (by omega) (by omega)).mp (j4.symm.trans lm)
  subst em
  have mo0 := mo
  obtain ⟨m1, ⟨_, _, m5, m6, _, _⟩, m3, _, _, ⟨h, hh, eh⟩, _⟩ := mo
  have ehr : τ.1 9 6 = nI h := m6.trans eh
  have enn : τ.1 9 5 = nI i := m5.trans hi
  have vv : ∀ a, vK n' (τ.1 54) a = vR m' S a := fun a => by
    unfold vK vR
    by_cases c : n' = 0
    · rw [if_pos c, if_pos (j5.mp c)]
    · rw [if_neg c, if_neg (fun z => c (j5.mpr z)), (j6 (by omega)).2.2.2 a, sS]
  rw [N_H_startWays]
  simp only [E_H_startWays, fIsA, fRt, fLen, fLit, fBool]
  refine s_Wstart (n := n') (S := τ.1 54) (Or.inl rfl) (fun τ1 f1 w1 => ?_)
  simp only [oT, oN, E_H_startWays, fIsA, fRt, fLen, fLit, fBool, (f1.u1 9 5 rfl).trans enn]
  refine s_kindOf (by omega) ?_
  simp only [oT, oN, E_H_startWays, fIsA, fRt, fLen, fLit, fBool, (f1.u1 9 6 rfl).trans ehr]
  refine s_Wturn (n := n') (S := τ.1 54) (Or.inl rfl) j1 ((f1.u1 53 1 rfl).trans j3) (fun j _ => f1.c1 54 rfl j) (fun z => (j6 z).2.1) hh w1 (fun τ2 f2 w2 t2 => ?_)
  simp only [oT, oN, E_H_startWays, fIsA, fRt, fLen, fLit, fBool]
  refine hQ τ2 ((f1.wk rfl).tr (f2.wk rfl)) ⟨53, n', τ.1 54, _, h, w2, t2, hh, eh, vv, fun q hq => m3 q (by omega)⟩
