/-! PAIRS: way -/
theorem s_HstartWays2 {d R C ns o e m i B : Nat} {kd ht : Nat → Nat} {W S r : Nat → Int32} {Q : Qt} {τ : St} {w : Int32} (E : EnvI R C kd ht ns o e m W S τ) (mo : MoI τ 9 ns (R * C) B kd r) (hi : r 46 = nI i) (hi2 : i < 2 ^ 30)
    (hQ : ∀ τ', Fr [55, 58, 61] [(53, 3), (56, 3), (59, 2), (59, 3), (59, 4), (60, 1), (60, 2), (60, 3)] τ τ' → WzI R C ht m S w r (r 47) i τ' → τ'.1 59 2 = nI 53 → Q none τ') : Cl (d + 6) m_H_startWays [.ref 0, .int w] τ Q := by
  have hn := E.1.1.n36
  obtain ⟨⟨g, sh, ru⟩, _, wW, sS, lm, m80⟩ := E
  obtain ⟨n', m', j1, j2, j3, j4, j5, j6⟩ := ru
  have em : m' = m := (nI_eq (by omega) (by omega)).mp (j4.symm.trans lm)
  subst em
  obtain ⟨m1, ⟨_, _, m5, m6, _, _⟩, m3, _, _, ⟨h, hh, eh⟩, _⟩ := mo
  have ehr : τ.1 9 6 = nI h := m6.trans eh
  have enn : τ.1 9 5 = nI i := m5.trans hi
  have vv : ∀ a, vK n' (τ.1 54) a = vR m' S a := fun a => by
    unfold vK vR
    by_cases c : n' = 0
    · rw [if_pos c, if_pos (j5.mp c)]
    · rw [if_neg c, if_neg (fun z => c (j5.mpr z)), (j6 (by omega)).2.2.2 a, sS]
  rw [N_H_startWays]
  simp only [E_H_startWays, fIsA, fRt, fLen, fLit, fBool]
  refine s_Wstart (n := n') (S := τ.1 54) (Or.inl rfl) (fun τ1 f1 w1 => ?_)
  simp only [oT, oN, E_H_startWays, fIsA, fRt, fLen, fLit, fBool, (f1.u1 9 5 rfl).trans enn]
  refine s_kindOf (by omega) ?_
  simp only [oT, oN, E_H_startWays, fIsA, fRt, fLen, fLit, fBool, (f1.u1 9 6 rfl).trans ehr]
  refine s_Wturn (n := n') (S := τ.1 54) (Or.inl rfl) j1 ((f1.u1 53 1 rfl).trans j3) (fun j _ => f1.c1 54 rfl j) (fun z => (j6 z).2.1) hh w1 (fun τ2 f2 w2 t2 => ?_)
  simp only [oT, oN, E_H_startWays, fIsA, fRt, fLen, fLit, fBool]
  exact hQ τ2 ((f1.wk rfl).tr (f2.wk rfl)) ⟨53, n', τ.1 54, _, h, w2, t2, hh, eh, vv, fun q hq => m3 q (by omega)⟩ w2.1
def IAW : List (Nat × Nat) := [(69, 3), (69, 4), (69, 5), (69, 28), (69, 6), (0, 8), (0, 9), (69, 45), (53, 1), (69, 24)]
/-- .. after the class's ways were started -/
theorem IA.invW {t R C ns n : Nat} {kd ht : Nat → Nat} {cs : List Nat} {fs : List (Nat × Nat)} {τ τ' : St} (h : IA t R C kd ht ns τ) (hf : Fr cs fs τ τ') (hd : disF cs fs IAD IAW = true) (hW : WaI τ') (hT : TxI τ' n) (hR : RoI τ') : Inv (t + 1) τ' := by
  obtain ⟨a, b, c, d, e, f, g, i, j⟩ := h
  have hB : 300 * t ≤ 300 * (t + 1) := by omega
  refine ⟨R, C, kd, ht, ns, n, ⟨a.fr hf (disF_sub hd rfl), b.fr hf (disF_sub hd rfl), ?_, d.fr hf (disF_sub hd rfl) hB b.1, e.fr hf (disF_sub hd rfl) (by omega) hB b.1, f.fr hf (disF_sub hd rfl), g.fr hf (disF_sub hd rfl), hW, j.fr hf (disF_sub hd rfl)⟩, hT, hR⟩
  have h9 : disF cs fs [9, 10, 75] [] = true := disF_sub hd rfl
  exact c.same (fun j => (hf.D h9 9 j rfl).1) (fun j => (hf.D h9 9 j rfl).2) (fun j => (hf.D h9 10 j rfl).1) (fun j _ => (hf.D h9 75 j rfl).1) hB b.1
theorem plN (ht : Nat → Nat) (m : Nat) (S : Nat → Int32) (w : Int32) (r : Nat → Int32) (hh : Int32) (i : Nat) : ∃ P : Nat → Nat → Nat, ∀ f q, plF ht m S w r hh i f q = nI (P f q) ∧ P f q ≤ 1498 :=
  ⟨fun f q => Classical.choose (plF_nI ht m S w r hh i f q), fun f q => ⟨(Classical.choose_spec (plF_nI ht m S w r hh i f q)).2, (Classical.choose_spec (plF_nI ht m S w r hh i f q)).1⟩⟩
theorem one_bit {x n : Nat} (hx : x < n) (hn : n ≤ 36) : ∀ q, bitL (1 <<< ((nI x).toInt64 &&& 63)) q = true ↔ q = x := fun q => by
  by_cases h : q < 64
  · rw [bL_shl1 (by omega) h, decide_eq_true_iff]
  · rw [bL_big (by omega)]
    exact ⟨fun z => absurd z (by decide), fun z => absurd z (by omega)⟩
theorem pth_c {kd : Nat → Nat} {R C lim s : Nat} {P : Nat → Nat → Nat} {c c' : Nat → Nat} (he : ∀ q, q < R * C → c q = c' q) : ∀ (l : List Nat) (f : Nat), f < R * C → pth kd R C P lim s c f l → pth kd R C P lim s c' f l
  | [], f, hf, h => onB_c hf he h
  | q :: l, f, hf, h => ⟨onB_c hf he h.1, pth_c he l q (h.1.1 q rfl).1 h.2⟩
theorem mz_small {kd : Nat → Nat} {R C t lim : Nat} {P : Nat → Nat → Nat} {c : Nat → Nat} (mz : mzP kd R C P t lim 0 c) {f : Nat} (hf : f < R * C) (h : c f < 2 ^ 30) : c f < R * C := by
  refine chain_le (v := c) (g := fun f => c f < 2 ^ 30) (fun f hf hg h0 => ?_) f hf h
  obtain ⟨p, h', p1, p2, p3, p4, p5, p6⟩ := mz.2.2.2 f hf (fun z => by subst z; exact h0 mz.1) hg
  exact ⟨p, p1, p5, by omega⟩
theorem pth_many {kd : Nat → Nat} {R C t lim : Nat} {P : Nat → Nat → Nat} {c : Nat → Nat} (hn : R * C ≤ 36) (mz : mzP kd R C P t lim 0 c) (kt : kd t ≠ 3) {f : Nat} (hf : f < R * C) (h : c f < 2 ^ 30) : ∃ l : List Nat, l.length ≤ 35 ∧ pth kd R C P lim 0 c f l := by
  obtain ⟨l, l1, l2⟩ := pth_ex (v := c) mz kt (fun f q _ _ _ _ e => by omega) (c f) f rfl hf h
  have := mz_small mz hf h
  exact ⟨l, by omega, l2⟩
theorem s_Hway {d R C ns o e m i B : Nat} {kd ht : Nat → Nat} {W S r : Nat → Int32} {P : Nat → Nat → Nat} {Q : Qt} {τ : St} {w a b : Int32} (E : EnvI R C kd ht ns o e m W S τ) (mo : MoI τ 9 ns (R * C) B kd r) (hi : r 46 = nI i) (hi2 : i < 2 ^ 30) (hP : ∀ f q, plF ht m S w r (r 47) i f q = nI (P f q) ∧ P f q ≤ 1498)
    (bad : ¬ ((1 ≤ w ∧ w ≤ nI 99) ∧ (0 ≤ a ∧ a < nI (R * C)) ∧ 0 ≤ b ∧ b < nI (R * C)) → Q (some (.int (-1))) τ)
    (rock : ∀ x y, x < R * C → y < R * C → a = nI x → b = nI y → (1 ≤ w ∧ w ≤ nI 99) → kd x = 3 ∨ kd y = 3 → Q (some (.int (-2))) τ)
    (far : ∀ x y, x < R * C → y < R * C → a = nI x → b = nI y → (1 ≤ w ∧ w ≤ nI 99) → kd x ≠ 3 → kd y ≠ 3 → (∀ j, ¬ toK kd R C P (fun q => q = y) 1498 j x) → ∀ τ', Fr [55, 58, 61] [(53, 3), (56, 3), (59, 2), (59, 3), (59, 4), (60, 1), (60, 2), (60, 3)] τ τ' → τ'.1 59 2 = nI 53 → Q (some (.int (-2))) τ')
    (good : ∀ x y k c l, x < R * C → y < R * C → a = nI x → b = nI y → (1 ≤ w ∧ w ≤ nI 99) → kd x ≠ 3 → kd y ≠ 3 → k ≤ 1498 → (∃ j, toK kd R C P (fun q => q = y) k j x) → (∀ k', k' < k → ∀ j, ¬ toK kd R C P (fun q => q = y) k' j x) → mzP kd R C P y k 0 c → c x < 2 ^ 30 → l.length ≤ 35 → pth kd R C P k 0 c x l → ∀ τ', Fr [4, 55, 58, 61, 62] [(3, 1), (53, 3), (56, 3), (59, 2), (59, 3), (59, 4), (60, 1), (60, 2), (60, 3)] τ τ' → τ'.1 59 2 = nI 53 → τ'.1 3 1 = nI (l.length + 1) → (∀ j, j < l.length + 1 → τ'.2 4 j = (nI ((x :: l).getD j 0)).toInt64) → Q (some (.int (nI k))) τ') : Cl (d + 8) m_H_way [.ref 0, .int w, .int a, .int b] τ Q := by
  have hn := E.1.1.n36
  rw [N_H_way]
  simp only [E_H_way, fIsA, fRt, fLen, fLit, fBool]
  refine s_HwhyNoWay E.1.1 (fun z => ?_) (fun x y hx hy ex ey hw rk => ?_) (fun x y hx hy ex ey hw kx ky => ?_)
  · have q := bad z
    simp only [oT, oN, E_H_way, fIsA, fRt, fLen, fLit, fBool]
    exact q
  · have q := rock x y hx hy ex ey hw rk
    simp only [oT, oN, E_H_way, fIsA, fRt, fLen, fLit, fBool]
    first
      | exact q
      | exact ⟨fun z => absurd z (by decide), fun _ => q⟩
  · simp only [oT, oN, E_H_way, fIsA, fRt, fLen, fLit, fBool]
    refine s_HstartWays2 E mo hi hi2 (fun τ1 f1 wz w53 => ?_)
    subst ex ey
    simp only [oT, oN, E_H_way, fIsA, fRt, fLen, fLit, fBool]
    have g1 := E.1.1.fr f1 rfl
    have oA := one_bit hx hn.1
    have oB := one_bit hy hn.1
    have hh : ∀ k, k < 2 ^ 31 → (hitP kd R C (fun f q => plF ht m S w r (r 47) i f q) (1 <<< ((nI x).toInt64 &&& 63)) (1 <<< ((nI y).toInt64 &&& 63)) k ↔ ∃ j, toK kd R C P (fun q => q = y) k j x) := fun k hk => by
      rw [hit_to (P := P) (fun f q => (hP f q).1) (fun f q => (hP f q).2) hk (fun q z => by rw [oA q] at z; subst z; exact ⟨hx, kx⟩)]
      constructor
      · rintro ⟨f, j, z1, z2⟩
        rw [oA f] at z1
        subst z1
        exact ⟨j, toK_T (fun q => (oB q).mp) j f z2⟩
      · rintro ⟨j, z⟩
        exact ⟨x, j, (oA x).mpr rfl, toK_T (fun q => (oB q).mpr) j x z⟩
    refine s_WleastMost g1 (fun f q Q' hf hq hQ' => wz.pt g1 hf hq hQ') (fun q z => by rw [oA q] at z; subst z; exact hx) (fun no => ?_) (fun k hk yes min => ?_)
    · have q := far x y hx hy rfl rfl hw kx ky (fun j z => no ((hh 1498 (by omega)).mpr ⟨j, z⟩)) τ1 f1 w53
      simp only [oT, oN, E_H_way, fIsA, fRt, fLen, fLit, fBool]
      exact q
    · have ne : (nI k = -1) = False := eq_false (fun z => absurd (z ▸ nI_pos (show k < 2 ^ 31 by omega)) (by decide))
      simp only [oT, oN, E_H_way, fIsA, fRt, fLen, fLit, fBool, ne]
      refine s_Wmeasure (s := 0) g1 wz hP hy hk (by omega) (fun τ2 c f2 hc mz => ?_)
      simp only [oT, oN, E_H_way, fIsA, fRt, fLen, fLit, fBool]
      have yes' := (hh k (by omega)).mp yes
      -- the cost from x is finite
      have cx : c x < 2 ^ 30 := by
        obtain ⟨j, z⟩ := yes'
        have : ∀ j f, f < R * C → toK kd R C P (fun q => q = y) k j f → c f < 2 ^ 30 := by
          intro j
          induction j with
          | zero => intro f _ z; rw [show f = y from z, mz.1]; omega
          | succ j ih =>
            rintro f hf ⟨h, q, e, l, z⟩
            have e2 := eG_sym e
            have cq := ih q e2.1 z
            have := mz.2.2.1 q f _ e2.1 e2.2.1 cq e2.2.2.2 l
            have := mz_small mz e2.1 cq
            omega
        exact this j x hx z
      obtain ⟨l, l1, l2⟩ := pth_many hn.1 mz ky hx cx
      have wz2 := wz.fr f2 rfl rfl rfl rfl rfl rfl rfl
      refine s_Wtell (s := 0) (g1.fr f2 rfl) wz2 hP hc hx hk (by omega) l2 l1 (fun τ3 f3 e1 e2 => ?_)
      have q := good x y k c l hx hy rfl rfl hw kx ky hk yes' (fun k' hk' j z => min k' hk' ((hh k' (by omega)).mpr ⟨j, z⟩)) mz cx l1 l2 τ3 (((f1.wk rfl).tr (f2.wk rfl)).tr (f3.wk rfl)) ((f3.u1 59 2 rfl).trans ((f2.u1 59 2 rfl).trans w53)) e1 e2
      simp only [oT, oN, E_H_way, fIsA, fRt, fLen, fLit, fBool]
      exact q
