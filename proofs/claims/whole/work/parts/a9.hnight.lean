/-! PAIRS: night, the class -/
def oB1 (o : Option (Nat × Nat)) (v : Int32) : Int32 := match o with
  | none => v
  | some (b, _) => nI b
def oB2 (o : Option (Nat × Nat)) (v : Int32) : Int32 := match o with
  | none => v
  | some (_, L) => nI L
theorem s_Hnight {d R C ns o e m i B : Nat} {kd ht : Nat → Nat} {W S r : Nat → Int32} {P : Nat → Nat → Nat → Nat} {cN : Nat → Nat → Nat → Nat} {lN : Nat → Nat → Nat → List Nat} {Q : Qt} {τ : St} {w a b : Int32} (E : EnvI R C kd ht ns o e m W S τ) (mo : MoI τ 9 ns (R * C) B kd r) (hi : r 46 = nI i) (hi2 : i < 2 ^ 29) (hP : ∀ n f q, plF ht m S w r (nI 0) (i + n) f q = nI (P n f q) ∧ P n f q ≤ 1498)
    (hN : ∀ n y, y < R * C → kd y ≠ 3 → mzP kd R C (P n) y 1498 64 (cN n y)) (hL : ∀ n x y, y < R * C → kd y ≠ 3 → x < R * C → cN n y x < 2 ^ 30 → (lN n y x).length ≤ 35 ∧ pth kd R C (P n) 1498 64 (cN n y) x (lN n y x))
    (bad : ¬ ((1 ≤ w ∧ w ≤ nI 99) ∧ (0 ≤ a ∧ a < nI (R * C)) ∧ 0 ≤ b ∧ b < nI (R * C)) → Q (some (.int (-1))) τ)
    (rock : ∀ x y, x < R * C → y < R * C → a = nI x → b = nI y → (1 ≤ w ∧ w ≤ nI 99) → kd x = 3 ∨ kd y = 3 → Q (some (.int (-2))) τ)
    (far : ∀ x y, x < R * C → y < R * C → a = nI x → b = nI y → (1 ≤ w ∧ w ≤ nI 99) → kd x ≠ 3 → kd y ≠ 3 → (∃ n, n < 4 ∧ ¬ cN n y x < 2 ^ 30) → ∀ τ', Fr [55, 58, 61, 62] [(53, 3), (56, 3), (59, 2), (59, 3), (59, 4), (60, 1), (60, 2), (60, 3)] τ τ' → τ'.1 59 2 = nI 53 → Q (some (.int (-2))) τ')
    (good : ∀ x y v L, x < R * C → y < R * C → a = nI x → b = nI y → (1 ≤ w ∧ w ≤ nI 99) → kd x ≠ 3 → kd y ≠ 3 → (∀ n, n < 4 → cN n y x < 2 ^ 30) → bst (fun n => nzA (P n) ((i + n) % 4) 0 x (lN n y x)) 4 = some (v, L) → ∀ τ', Fr [4, 55, 58, 61, 62] [(3, 1), (53, 3), (56, 3), (59, 2), (59, 3), (59, 4), (60, 1), (60, 2), (60, 3)] τ τ' → τ'.1 59 2 = nI 53 → τ'.1 3 1 = 1 → τ'.2 4 0 = (nI L).toInt64 → Q (some (.int (nI v))) τ') : Cl (d + 9) m_H_night [.ref 0, .int w, .int a, .int b] τ Q := by
  have hn := E.1.1.n36
  rw [N_H_night]
  simp only [E_H_night, fIsA, fRt, fLen, fLit, fBool]
  refine s_HwhyNoWay E.1.1 (fun z => ?_) (fun x y hx hy ex ey hw rk => ?_) (fun x y hx hy ex ey hw kx ky => ?_)
  · have q := bad z
    simp only [oT, oN, E_H_night, fIsA, fRt, fLen, fLit, fBool]
    exact q
  · have q := rock x y hx hy ex ey hw rk
    simp only [oT, oN, E_H_night, fIsA, fRt, fLen, fLit, fBool]
    first
      | exact q
      | exact ⟨fun z => absurd z (by decide), fun _ => q⟩
  · subst ex ey
    have E0 := E
    obtain ⟨⟨g, sh, ru⟩, _, wW, sS, lm, m80⟩ := E
    obtain ⟨n', m', j1, j2, j3, j4, j5, j6⟩ := ru
    have em : m' = m := (nI_eq (by omega) (by omega)).mp (j4.symm.trans lm)
    subst em
    obtain ⟨m1, ⟨_, _, m5, m6, _, _⟩, m3, _, _, ⟨h, hh, eh⟩, _⟩ := mo
    have enn : τ.1 9 5 = nI i := m5.trans hi
    have vv : ∀ a, vK n' (τ.1 54) a = vR m' S a := fun a => by
      unfold vK vR
      by_cases c : n' = 0
      · rw [if_pos c, if_pos (j5.mp c)]
      · rw [if_neg c, if_neg (fun z => c (j5.mpr z)), (j6 (by omega)).2.2.2 a, sS]
    simp only [oT, oN, E_H_night, fIsA, fRt, fLen, fLit, fBool]
    refine s_Wstart (n := n') (S := τ.1 54) (Or.inl rfl) (fun τ1 f1 w1 => ?_)
    simp only [oT, oN, E_H_night, fIsA, fRt, fLen, fLit, fBool]
    -- noise of a night
    have zle : ∀ n, (fun n => if cN n y x < 2 ^ 30 then nzA (P n) ((i + n) % 4) 0 x (lN n y x) else 0) n ≤ 10500 := fun n => by
      show (if cN n y x < 2 ^ 30 then nzA (P n) ((i + n) % 4) 0 x (lN n y x) else 0) ≤ 10500
      by_cases c : cN n y x < 2 ^ 30
      · rw [if_pos c]
        have := nzA_le (P := P n) (k := (i + n) % 4) (fun f q => (hP n f q).2) (lN n y x) 0 x
        have := (hL n x y hy ky hx c).1
        omega
      · rw [if_neg c]; omega
    have loop : ∀ (u n : Nat) (τ2 : St) (l8 l9 : Option Value), n + u = 4 → Fr [55, 58, 61, 62] [(53, 3), (56, 3), (59, 2), (59, 3), (59, 4), (60, 1), (60, 2), (60, 3)] τ τ2 → WyI τ2 53 n' (τ.1 54) w (τ.2 9 3) → (∀ k, k < n → cN k y x < 2 ^ 30) → Rs M_H_night (d + 8) Q 45 [some (.ref 0), some (.int w), some (.int (nI x)), some (.int (nI y)), some (.int 0), some (.int (oB1 (bst (fun n => if cN n y x < 2 ^ 30 then nzA (P n) ((i + n) % 4) 0 x (lN n y x) else 0) n) (-1))), some (.int (oB2 (bst (fun n => if cN n y x < 2 ^ 30 then nzA (P n) ((i + n) % 4) 0 x (lN n y x) else 0) n) 0)), some (.int (nI n)), l8, l9] [] τ2 := by
      intro u
      induction u with
      | zero =>
        intro n τ2 l8 l9 hn4 fr wy hc
        obtain rfl : n = 4 := by omega
        have bl := bst_le zle 4
        rw [Rs_eq]
        simp only [E_H_night, fIsA, fRt, fLen, fLit, fBool]
        refine ⟨fun _ => ?_, fun z => absurd (Int32.le_refl _) z⟩
        refine s_RowOnly ?_
        simp only [oT, oN, E_H_night, fIsA, fRt, fLen, fLit, fBool]
        have f3 : Fr [4] [(3, 1)] τ2 (sI (sL (sI τ2 3 1 0) 4 0 (oB2 (bst (fun n => if cN n y x < 2 ^ 30 then nzA (P n) ((i + n) % 4) 0 x (lN n y x) else 0) 4) 0).toInt64) 3 1 1) := ((Fr.rf.i rfl).lc rfl).i rfl
        have eb : bst (fun n => nzA (P n) ((i + n) % 4) 0 x (lN n y x)) 4 = bst (fun n => if cN n y x < 2 ^ 30 then nzA (P n) ((i + n) % 4) 0 x (lN n y x) else 0) 4 := by
          have : ∀ k, k ≤ 4 → bst (fun n => nzA (P n) ((i + n) % 4) 0 x (lN n y x)) k = bst (fun n => if cN n y x < 2 ^ 30 then nzA (P n) ((i + n) % 4) 0 x (lN n y x) else 0) k := by
            intro k
            induction k with
            | zero => intro _; rfl
            | succ k ih => intro hk; simp only [bst, ih (by omega), if_pos (hc k (by omega))]
          exact this 4 (Nat.le_refl _)
        cases ez : bst (fun n => if cN n y x < 2 ^ 30 then nzA (P n) ((i + n) % 4) 0 x (lN n y x) else 0) 4 with
        | none => rw [ez] at bl; exact absurd bl (by decide)
        | some p =>
          obtain ⟨v, L⟩ := p
          rw [ez] at f3
          exact good x y v L hx hy rfl rfl hw kx ky hc (eb.trans ez) _ ((fr.wk rfl).tr (f3.wk rfl)) ((f3.u1 59 2 rfl).trans wy.1) rfl rfl
      | succ u ih =>
        intro n τ2 l8 l9 hn4 fr wy hc
        have bl := bst_le zle n
        have g2 := g.fr fr rfl
        have e5 : τ2.1 9 5 + nI n = nI (i + n) := by rw [(fr.u1 9 5 rfl).trans enn, nI_add]
        rw [Rs_eq]
        simp only [E_H_night, fIsA, fRt, fLen, fLit, fBool, e5]
        refine ⟨fun z => absurd z (nI_ge (b := 4) (by omega) (by omega)), fun _ => ?_⟩
        refine s_kindOf (by omega) ?_
        simp only [oT, oN, E_H_night, fIsA, fRt, fLen, fLit, fBool]
        refine s_Wturn (h := 0) (n := n') (S := τ.1 54) (Or.inl rfl) j1 ((fr.u1 53 1 rfl).trans j3) (fun j _ => fr.c1 54 rfl j) (fun z => (j6 z).2.1) (by omega) wy (fun τ3 f3 wy3 tn3 => ?_)
        simp only [oT, oN, E_H_night, fIsA, fRt, fLen, fLit, fBool]
        have F3 := fr.tr (f3.wk (cs' := [55, 58, 61, 62]) (fs' := [(53, 3), (56, 3), (59, 2), (59, 3), (59, 4), (60, 1), (60, 2), (60, 3)]) rfl)
        have g3 := g.fr F3 rfl
        have wz : WzI R C ht m' S w r (nI 0) (i + n) τ3 := ⟨53, n', τ.1 54, _, 0, wy3, tn3, by omega, rfl, vv, fun q hq => m3 q (by omega)⟩
        refine s_Wmeasure (lim := 1498) (s := 64) g3 wz (hP n) hy (by omega) (by omega) (fun τ4 c f4 hc4 mz => ?_)
        simp only [oT, oN, E_H_night, fIsA, fRt, fLen, fLit, fBool]
        have F4 := F3.tr (f4.wk (cs' := [55, 58, 61, 62]) (fs' := [(53, 3), (56, 3), (59, 2), (59, 3), (59, 4), (60, 1), (60, 2), (60, 3)]) rfl)
        have g4 := g.fr F4 rfl
        have wz4 := wz.fr f4 rfl rfl rfl rfl rfl rfl rfl
        have wy4 := wy3.fr f4 rfl
        have ce : ∀ q, q < R * C → cN n y q = c q := fun q hq => mz_eq (hN n y hy ky) mz hq
        have bx := (hc4 x hx).2
        refine s_WcostFrom g4 hx (hc4 x hx).1 ?_
        simp only [oT, oN, E_H_night, fIsA, fRt, fLen, fLit, fBool]
        by_cases cx : c x < 2 ^ 30
        · have cn : cN n y x < 2 ^ 30 := by rw [ce x hx]; exact cx
          have ne : (nI (c x) = 1073741824) = False := eq_false (fun z => by
            have := (nI_eq (b := 1073741824) (by omega) (by omega)).mp z
            omega)
          simp only [oT, oN, E_H_night, fIsA, fRt, fLen, fLit, fBool, ne]
          obtain ⟨l1, l2⟩ := hL n x y hy ky hx cn
          refine s_WnoiseFrom g4 wz4 (hP n) hc4 hx (pth_c ce _ x hx l2) l1 ?_
          simp only [oT, oN, E_H_night, fIsA, fRt, fLen, fLit, fBool, nI_1]
          have hzn := zle n
          have ez : (if cN n y x < 2 ^ 30 then nzA (P n) ((i + n) % 4) 0 x (lN n y x) else 0) = nzA (P n) ((i + n) % 4) 0 x (lN n y x) := if_pos cn
          have hzn : nzA (P n) ((i + n) % 4) 0 x (lN n y x) ≤ 10500 := by rw [← ez]; exact hzn
          have hcn : ∀ k, k < n + 1 → cN k y x < 2 ^ 30 := fun k hk => by
            by_cases e : k = n
            · subst e; exact cn
            · exact hc k (by omega)
          have nx := fun l8 l9 => ih (n + 1) τ4 l8 l9 (by omega) F4 wy4 hcn
          have eb : bst (fun n => if cN n y x < 2 ^ 30 then nzA (P n) ((i + n) % 4) 0 x (lN n y x) else 0) (n + 1) = match bst (fun n => if cN n y x < 2 ^ 30 then nzA (P n) ((i + n) % 4) 0 x (lN n y x) else 0) n with
            | none => some (n, nzA (P n) ((i + n) % 4) 0 x (lN n y x))
            | some (b, L) => if nzA (P n) ((i + n) % 4) 0 x (lN n y x) < L then some (n, nzA (P n) ((i + n) % 4) 0 x (lN n y x)) else some (b, L) := by
            rw [← ez]
            rfl
          rw [eb] at nx
          cases eq : bst (fun n => if cN n y x < 2 ^ 30 then nzA (P n) ((i + n) % 4) 0 x (lN n y x) else 0) n with
          | none =>
            rw [eq] at nx
            have nx : ∀ l8 l9, Rs M_H_night (d + 8) Q 45 [some (.ref 0), some (.int w), some (.int (nI x)), some (.int (nI y)), some (.int 0), some (.int (nI n)), some (.int (nI (nzA (P n) ((i + n) % 4) 0 x (lN n y x)))), some (.int (nI (n + 1))), l8, l9] [] τ4 := nx
            simp only [oB1, oB2, fBool]
            first
              | exact nx _ _
              | exact ⟨fun _ => nx _ _, fun z => absurd rfl z⟩
              | exact ⟨fun z => absurd rfl z, fun _ => nx _ _⟩
          | some p =>
            obtain ⟨v, L⟩ := p
            rw [eq] at nx bl
            have bl : v < n ∧ L ≤ 10500 := bl
            have nv : (nI v = -1) = False := eq_false (fun z => absurd (z ▸ nI_pos (show v < 2 ^ 31 by omega)) (by decide))
            simp only [oB1, oB2, nv, fBool]
            refine ⟨fun z => ?_, fun z => ?_⟩
            · have z : ¬ nzA (P n) ((i + n) % 4) 0 x (lN n y x) < L := Nat.not_lt.mpr ((nI_leI (by omega) (by omega)).mp z)
              have nx : ∀ l8 l9, Rs M_H_night (d + 8) Q 45 [some (.ref 0), some (.int w), some (.int (nI x)), some (.int (nI y)), some (.int 0), some (.int (oB1 (if nzA (P n) ((i + n) % 4) 0 x (lN n y x) < L then some (n, nzA (P n) ((i + n) % 4) 0 x (lN n y x)) else some (v, L)) (-1))), some (.int (oB2 (if nzA (P n) ((i + n) % 4) 0 x (lN n y x) < L then some (n, nzA (P n) ((i + n) % 4) 0 x (lN n y x)) else some (v, L)) 0)), some (.int (nI (n + 1))), l8, l9] [] τ4 := nx
              rw [if_neg z] at nx
              exact nx _ _
            · have z : nzA (P n) ((i + n) % 4) 0 x (lN n y x) < L := Nat.lt_of_not_le (fun w => z (nI_le w (by omega)))
              have nx : ∀ l8 l9, Rs M_H_night (d + 8) Q 45 [some (.ref 0), some (.int w), some (.int (nI x)), some (.int (nI y)), some (.int 0), some (.int (oB1 (if nzA (P n) ((i + n) % 4) 0 x (lN n y x) < L then some (n, nzA (P n) ((i + n) % 4) 0 x (lN n y x)) else some (v, L)) (-1))), some (.int (oB2 (if nzA (P n) ((i + n) % 4) 0 x (lN n y x) < L then some (n, nzA (P n) ((i + n) % 4) 0 x (lN n y x)) else some (v, L)) 0)), some (.int (nI (n + 1))), l8, l9] [] τ4 := nx
              rw [if_pos z] at nx
              exact nx _ _
        · have ee : (nI (c x) = 1073741824) = True := eq_true (by rw [show c x = 1073741824 by omega]; rfl)
          have q := far x y hx hy rfl rfl hw kx ky ⟨n, by omega, by rw [ce x hx]; exact cx⟩ τ4 F4 wy4.1
          simp only [oT, oN, E_H_night, fIsA, fRt, fLen, fLit, fBool, ee]
          exact q
    have w1' : WyI τ1 53 n' (τ.1 54) w (τ.2 9 3) := w1
    have st := loop 4 0 τ1 none none (by omega) (f1.wk rfl) w1' (fun k hk => absurd hk (Nat.not_lt_zero _))
    exact st
