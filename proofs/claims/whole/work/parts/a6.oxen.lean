/-! PAIRS: oxen -/
theorem plW (ht : Nat → Nat) (m : Nat) (S W : Nat → Int32) (r : Nat → Int32) (hh : Int32) (i : Nat) (s : Nat) : ∃ P : Nat → Nat → Nat, ∀ f q, plF ht m S (W s) r hh i f q = nI (P f q) ∧ P f q ≤ 1498 := plN ht m S (W s) r hh i
theorem hbB {τ : St} {R C : Nat} {kd ht : Nat → Nat} (g : GI τ R C kd ht) : ∀ q, bitL (τ.2 5 8) q = true ↔ hbP kd R C q := fun q => by
  have hn := g.n36
  by_cases h : q < 64
  · rw [(g.2.2.2.2 q h).2.2, decide_eq_true_iff]
    exact Iff.rfl
  · rw [bL_big (by omega)]
    exact ⟨fun z => absurd z (by decide), fun z => absurd z.1 (by omega)⟩
/-- a way to harbours by pulls of k at most -/
theorem hit_hb {τ : St} {R C x k : Nat} {kd ht : Nat → Nat} {P : Nat → Nat → Nat} {pl : Nat → Nat → Int32} (g : GI τ R C kd ht) (hpl : ∀ f q, pl f q = nI (P f q)) (hP : ∀ f q, P f q ≤ 1498) (hk : k < 2 ^ 31) (hx : x < R * C) (kx : kd x ≠ 3) : hitP kd R C pl (1 <<< ((nI x).toInt64 &&& 63)) (τ.2 5 8) k ↔ ∃ q j, hbP kd R C q ∧ toK kd R C P (fun p => p = q) k j x := by
  have hn := g.n36
  have oA := one_bit hx hn.1
  rw [hit_to (P := P) hpl hP hk (fun q z => by rw [oA q] at z; subst z; exact ⟨hx, kx⟩)]
  constructor
  · rintro ⟨f, j, z1, z2⟩
    rw [oA f] at z1
    subst z1
    obtain ⟨q, q1, q2⟩ := toK_one j f z2
    exact ⟨q, j, (hbB g q).mp q1, q2⟩
  · rintro ⟨q, j, z1, z2⟩
    exact ⟨x, j, (oA x).mpr rfl, toK_T (fun p e => by rw [e]; exact (hbB g q).mpr z1) j x z2⟩
theorem p_oxen (t : Nat) (v : Int32) : PrI t m_H_oxen m_M_oxen [.int v] := by
  intro ht0 τ h
  obtain ⟨R, C, kd, ht, ns, n, hA, hT, hR⟩ := h
  have ⟨ga, sh, c, _, _, _, _, _, _⟩ := hA
  have hn36 := ga.n36
  have h8 := sh.1
  obtain ⟨o, ee, m, E⟩ := hA.env
  obtain ⟨nn, hi2, hi⟩ := c.2.2.2.2.1
  have hi2 : nn < 2 ^ 30 := by omega
  have row := c.row
  rw [N_H_oxen]
  simp only [E_H_oxen, fIsA, fRt, fLen, fLit, fBool]
  refine s_HhasShip sh (fun s hs es => ?_) (fun z => ?_)
  · subst es
    obtain ⟨epl, x, hx, kx, ex⟩ := c.1 s hs
    obtain ⟨ew, _⟩ := sh.2.2.2 s hs
    obtain ⟨P, hP⟩ := plN ht m (τ.1 80) (τ.1 73 s) (τ.1 75) (τ.1 75 47) nn
    have hpl := fun f q => (hP f q).1
    have hP2 := fun f q => (hP f q).2
    simp only [oT, oN, E_H_oxen, fIsA, fRt, fLen, fLit, fBool, nI_clamp (show s < 2 ^ 31 by omega), ew]
    refine ⟨vp_in_nI (by omega) (by omega), ?_⟩
    refine s_HstartWays2 E c hi hi2 (fun τ1 f1 wz w53 => ?_)
    simp only [oT, oN, E_H_oxen, fIsA, fRt, fLen, fLit, fBool]
    refine s_placeOf (by omega) ?_
    have ep1 : τ1.1 10 s = nI x := (f1.c1 10 rfl s).trans (epl.trans ex)
    rw [ep1]
    simp only [oT, oN, E_H_oxen, fIsA, fRt, fLen, fLit, fBool]
    have g1 := E.1.1.fr f1 rfl
    have oA := one_bit hx hn36.1
    have hit := fun k hk => hit_hb (k := k) (pl := fun f q => plF ht m (τ.1 80) (τ.1 73 s) (τ.1 75) (τ.1 75 47) nn f q) g1 hpl hP2 hk hx kx
    have E1 := E.fr f1 rfl (f1.c1 9 rfl 1)
    have hr1 : ∀ j, j < 50 → τ1.1 75 j = τ.1 75 j := fun j _ => f1.c1 75 rfl j
    -- the reference, behind the class
    refine s_WleastMost g1 (fun f q Q' hf hq hQ' => wz.pt g1 hf hq hQ') (fun q z => by rw [oA q] at z; subst z; exact hx) (fun no => ?_) (fun k hk yes min => ?_)
    · simp only [oT, oN, E_H_oxen, fIsA, fRt, fLen, fLit, fBool]
      rw [N_M_oxen]
      simp only [E_M_oxen, fIsA, fRt, fLen, fLit, fBool]
      have f0 := fr690 (τ := τ1) (v := 0)
      generalize sI τ1 69 0 0 = τ0 at f0 ⊢
      have E0 := E1.fr f0 rfl (f0.u1 9 1 rfl)
      refine s_MisShip E0.1.2.1 (fun s' hs' es => ?_) (fun z => absurd ⟨nI_pos' (by omega), nI_lt hs (by omega)⟩ z)
      have es : s' = s := ((nI_eq (by omega) (by omega)).mp es).symm
      subst es
      simp only [oT, oN, E_M_oxen, fIsA, fRt, fLen, fLit, fBool]
      refine s_MoxenOf E0 row (fun j hj => (f0.c1 75 rfl j).trans (hr1 j hj)) hi hi2 hP hs' hx ex (fun _ τ2 f2 => ?_) (fun k b hk hb yes _ _ τ2 f2 _ => ?_)
      · have F : Fr [55, 58, 61, 82, 83, 88, 89, 90] [(53, 3), (56, 3), (59, 2), (59, 3), (59, 4), (60, 1), (60, 2), (60, 3), (69, 0), (69, 37)] τ τ2 := ((f1.wk rfl).tr (f0.wk rfl)).tr (f2.wk rfl)
        have en := ok (t := t) (x := -2) rfl (hA.invW F rfl (Or.inr (Or.inl ((f2.u1 59 2 rfl).trans ((f0.u1 59 2 rfl).trans w53)))) (hT.fr F rfl) (hR.fr F rfl))
        simp only [oT, oN, E_M_oxen, fIsA, fRt, fLen, fLit, fBool]
        exact ⟨fun z => absurd z (by decide), fun _ => en⟩
      · obtain ⟨j, tj⟩ := yes
        exact absurd ((hit 1498 (by omega)).mpr ⟨b, j, hb, toK_lim hk j x tj⟩) no
    · have ne : (nI k = -1) = False := eq_false (fun z => absurd (z ▸ nI_pos (show k < 2 ^ 31 by omega)) (by decide))
      simp only [oT, oN, E_H_oxen, fIsA, fRt, fLen, fLit, fBool, ne]
      have one := fun q => rc_one (l := k) (q := q) (pl := fun f q => plF ht m (τ.1 80) (τ.1 73 s) (τ.1 75) (τ.1 75 47) nn f q) hpl hP2 (by omega) hx hn36.1 kx
      refine s_Wreached (lim := nI k) g1 (fun f q Q' hf hq hQ' => wz.pt g1 hf hq hQ') (fun q z => by rw [oA q] at z; subst z; exact hx) (fun X hX => ?_)
      simp only [oT, oN, E_H_oxen, fIsA, fRt, fLen, fLit, fBool]
      have bt' : ∀ q, bitL (X &&& τ1.2 5 8) q = true ↔ hbP kd R C q ∧ ∃ j, toK kd R C P (fun p => p = q) k j x := fun q => by
        rw [bL_and, Bool.and_eq_true, hbB g1 q, ← one q]
        constructor
        · rintro ⟨a, b⟩
          exact ⟨b, (hX q (by have := b.1; omega)).mp a⟩
        · rintro ⟨b, a⟩
          exact ⟨(hX q (by have := b.1; omega)).mpr a, b⟩
      refine s_HfirstOf (fun b hb bb bno => ?_) (fun z => ?_)
      · obtain ⟨b1, b2⟩ := (bt' b).mp bb
        simp only [oT, oN, E_H_oxen, fIsA, fRt, fLen, fLit, fBool]
        refine s_RowOnly ?_
        simp only [oT, oN, E_H_oxen, fIsA, fRt, fLen, fLit, fBool]
        have f3 : Fr [4] [(3, 1)] τ1 (sI (sL (sI τ1 3 1 0) 4 0 (nI b).toInt64) 3 1 1) := ((Fr.rf.i rfl).lc rfl).i rfl
        have r1 : (sI (sL (sI τ1 3 1 0) 4 0 (nI b).toInt64) 3 1 1).1 3 1 = 1 := rfl
        have r2 : (sI (sL (sI τ1 3 1 0) 4 0 (nI b).toInt64) 3 1 1).2 4 0 = (nI b).toInt64 := rfl
        generalize sI (sL (sI τ1 3 1 0) 4 0 (nI b).toInt64) 3 1 1 = τ3 at f3 r1 r2 ⊢
        rw [N_M_oxen]
        simp only [E_M_oxen, fIsA, fRt, fLen, fLit, fBool]
        have f0 := fr690 (τ := τ3) (v := 0)
        generalize sI τ3 69 0 0 = τ0 at f0 ⊢
        have f30 : Fr [4] [(3, 1), (69, 0)] τ1 τ0 := (f3.wk rfl).tr (f0.wk rfl)
        have E0 := E1.fr f30 rfl (f30.u1 9 1 rfl)
        refine s_MisShip E0.1.2.1 (fun s' hs' es => ?_) (fun z => absurd ⟨nI_pos' (by omega), nI_lt hs (by omega)⟩ z)
        have es : s' = s := ((nI_eq (by omega) (by omega)).mp es).symm
        subst es
        simp only [oT, oN, E_M_oxen, fIsA, fRt, fLen, fLit, fBool]
        refine s_MoxenOf E0 row (fun j hj => (f30.c1 75 rfl j).trans (hr1 j hj)) hi hi2 hP hs' hx ex (fun no τ2 f2 => ?_) (fun k' b' hk' hb' yes' min' first τ2 f2 eb => ?_)
        · obtain ⟨j, tj⟩ := b2
          exact absurd (toK_lim hk j x tj) (no b j b1)
        · have ek : k' = k := by
            obtain ⟨j, tj⟩ := b2
            obtain ⟨j', tj'⟩ := yes'
            rcases Nat.lt_trichotomy k k' with q | q | q
            · exact absurd tj (min' b b1 k q j)
            · exact q.symm
            · exact absurd ((hit k' (by omega)).mpr ⟨b', j', hb', tj'⟩) (min k' q)
          subst ek
          have e2 : b' = b := by
            obtain ⟨j, tj⟩ := b2
            rcases Nat.lt_trichotomy b b' with q | q | q
            · exact absurd tj (first b q b1 j)
            · exact q.symm
            · have := bno b' q
              rw [(bt' b').mpr ⟨hb', yes'⟩] at this
              exact absurd this (by decide)
          subst e2
          simp only [oT, oN, E_M_oxen, fIsA, fRt, fLen, fLit, fBool]
          have f20 : Fr [82, 83, 88, 89, 90] [(69, 1), (69, 37)] τ0 (sI τ2 69 1 0) := (f2.wk rfl).i rfl
          have eb0 : (sI τ2 69 1 0).1 69 37 = nI b' := eb
          have ee0 : (sI τ2 69 1 0).1 69 1 = nI 0 := rfl
          simp only [eb0]
          generalize sI τ2 69 1 0 = τ4 at f20 ee0 ⊢
          refine ⟨fun _ => ?_, fun z => absurd (nI_lt (b := 1000000) (by omega) (by omega)) z⟩
          refine s_Menters (n := 0) ee0 (by omega) ?_
          simp only [oT, oN, E_M_oxen, fIsA, fRt, fLen, fLit, fBool]
          have F : Fr [4, 55, 58, 61, 70, 82, 83, 88, 89, 90] [(3, 1), (53, 3), (56, 3), (59, 2), (59, 3), (59, 4), (60, 1), (60, 2), (60, 3), (69, 0), (69, 1), (69, 37)] τ (sI (sL τ4 70 0 (nI b').toInt64) 69 1 (nI (0 + 1))) := ((((f1.wk rfl).tr (f30.wk rfl)).tr (f20.wk rfl)).lc rfl).i rfl
          have G : Fr [70, 82, 83, 88, 89, 90] [(69, 0), (69, 1), (69, 37)] τ3 (sI (sL τ4 70 0 (nI b').toInt64) 69 1 (nI (0 + 1))) := (((f0.wk rfl).tr (f20.wk rfl)).lc rfl).i rfl
          exact ok rfl (hA.invW F rfl (Or.inr (Or.inl ((G.u1 59 2 rfl).trans ((f3.u1 59 2 rfl).trans w53)))) (hT.fr F rfl) (RoI.one ((G.u1 3 1 rfl).trans r1) rfl ((G.c2 4 rfl 0).trans r2) rfl))
      · obtain ⟨q, j, a, b⟩ := (hit k (by omega)).mp yes
        have := z q (by have := a.1; omega)
        rw [(bt' q).mpr ⟨a, j, b⟩] at this
        exact absurd this (by decide)
  · have fn := ok (x := -1) rfl (hA.inv3 hT hR (fr690 (v := 0)) rfl)
    simp only [oT, oN, E_H_oxen, fIsA, fRt, fLen, fLit, fBool]
    rw [N_M_oxen]
    simp only [E_M_oxen, fIsA, fRt, fLen, fLit, fBool]
    refine s_MisShip (sh.fr (fr690 (v := 0)) rfl) (fun k hk ek => absurd ⟨by rw [ek]; exact nI_pos' (by omega), by rw [ek]; exact nI_lt hk (by omega)⟩ z) (fun _ => ?_)
    simp only [oT, oN, E_M_oxen, fIsA, fRt, fLen, fLit, fBool]
    exact fn
