theorem mz_ex {kd : Nat → Nat} {R C t : Nat} {P : Nat → Nat → Nat} (hn : R * C ≤ 36) (ht2 : t < R * C) (kt : kd t ≠ 3) (hP : ∀ f q, P f q ≤ 1498) : ∃ c, mzP kd R C P t 1498 64 c := by
  obtain ⟨hd, mm, lh, tg⟩ := lh_ex (kd := kd) (P := P) true hn ht2 hP
  exact ⟨_, lh_mz hn ht2 kt hP lh tg⟩
theorem p_night (t : Nat) (w a b : Int32) : PrI t m_H_night m_M_night [.int w, .int a, .int b] := by
  intro ht0 τ h
  obtain ⟨R, C, kd, ht, ns, n, hA, hT, hR⟩ := h
  have ⟨ga, sh, c, _, _, _, _, _, _⟩ := hA
  have hn36 := ga.n36
  obtain ⟨o, ee, m, E⟩ := hA.env
  obtain ⟨nn, hi2, hi⟩ := c.2.2.2.2.1
  have hi2 : nn < 2 ^ 29 := by omega
  have row := c.row
  have hr : ∀ j, j < 50 → τ.1 75 j = τ.1 75 j := fun j _ => rfl
  obtain ⟨P, hP⟩ : ∃ P : Nat → Nat → Nat → Nat, ∀ n f q, plF ht m (τ.1 80) w (τ.1 75) (nI 0) (nn + n) f q = nI (P n f q) ∧ P n f q ≤ 1498 := ⟨fun n => plC ht m (τ.1 80) w (τ.1 75) (nI 0) (nn + n), fun n => plC_ok ht m (τ.1 80) w (τ.1 75) (nI 0) (nn + n)⟩
  have hP2 : ∀ n f q, P n f q ≤ 1498 := fun n f q => (hP n f q).2
  obtain ⟨cN, hN⟩ : ∃ cN : Nat → Nat → Nat → Nat, ∀ n y, y < R * C → kd y ≠ 3 → mzP kd R C (P n) y 1498 64 (cN n y) := by
    have ex : ∀ n y, ∃ c : Nat → Nat, y < R * C → kd y ≠ 3 → mzP kd R C (P n) y 1498 64 c := fun n y => by
      by_cases z : y < R * C ∧ kd y ≠ 3
      · obtain ⟨c, hc⟩ := mz_ex (kd := kd) hn36.1 z.1 z.2 (hP2 n)
        exact ⟨c, fun _ _ => hc⟩
      · exact ⟨fun _ => 0, fun z1 z2 => absurd ⟨z1, z2⟩ z⟩
    exact ⟨fun n y => Classical.choose (ex n y), fun n y => Classical.choose_spec (ex n y)⟩
  obtain ⟨lN, hL⟩ : ∃ lN : Nat → Nat → Nat → List Nat, ∀ n x y, y < R * C → kd y ≠ 3 → x < R * C → cN n y x < 2 ^ 30 → (lN n y x).length ≤ 35 ∧ pth kd R C (P n) 1498 64 (cN n y) x (lN n y x) := by
    have ex : ∀ n x y, ∃ l : List Nat, y < R * C → kd y ≠ 3 → x < R * C → cN n y x < 2 ^ 30 → l.length ≤ 35 ∧ pth kd R C (P n) 1498 64 (cN n y) x l := fun n x y => by
      by_cases z : (y < R * C ∧ kd y ≠ 3) ∧ x < R * C ∧ cN n y x < 2 ^ 30
      · obtain ⟨l, hl⟩ := pth_sum hn36.1 z.1.1 z.1.2 (hP2 n) (hN n y z.1.1 z.1.2) z.2.1 z.2.2
        exact ⟨l, fun _ _ _ _ => hl⟩
      · exact ⟨[], fun z1 z2 z3 z4 => absurd ⟨⟨z1, z2⟩, z3, z4⟩ z⟩
    exact ⟨fun n y x => Classical.choose (ex n x y), fun n x y => Classical.choose_spec (ex n x y)⟩
  have inr : ∀ x y, x < R * C → y < R * C → a = nI x → b = nI y → (1 ≤ w ∧ w ≤ nI 99) → (1 ≤ w ∧ w ≤ nI 99) ∧ (0 ≤ a ∧ a < nI (R * C)) ∧ 0 ≤ b ∧ b < nI (R * C) := fun x y hx hy ex ey hw => by
    subst ex ey
    exact ⟨hw, ⟨nI_pos' (by omega), nI_lt hx (by omega)⟩, nI_pos' (by omega), nI_lt hy (by omega)⟩
  have uq : ∀ x x' : Nat, x < R * C → x' < R * C → nI x = nI x' → x' = x := fun x x' h h' e => ((nI_eq (by omega) (by omega)).mp e).symm
  refine s_Hnight (d := 891) E c hi hi2 hP hN hL (fun z => ?_) (fun x y hx hy ex ey hw rk => ?_) (fun x y hx hy ex ey hw kx ky no τ1 f1 w53 => ?_) (fun x y v L hx hy ex ey hw kx ky yes bb τ1 f1 w53 e1 e2 => ?_)
  · refine s_Mnight (d := 891) E row hr hi hi2 hP hN hL (fun _ τ2 f2 => ok rfl (hA.inv3 hT hR f2 rfl)) (fun x y hx hy ex ey hw => absurd (inr x y hx hy ex ey hw) z) (fun x y hx hy ex ey hw => absurd (inr x y hx hy ex ey hw) z) (fun x y v L hx hy ex ey hw => absurd (inr x y hx hy ex ey hw) z)
  · have z := inr x y hx hy ex ey hw
    subst ex ey
    have no : ∀ x' y', x' < R * C → y' < R * C → nI x = nI x' → nI y = nI y' → kd x' ≠ 3 → kd y' ≠ 3 → False := fun x' y' hx' hy' ex ey kx ky => by
      have := uq x x' hx hx' ex
      have := uq y y' hy hy' ey
      subst x' y'
      rcases rk with q | q
      · exact kx q
      · exact ky q
    exact s_Mnight (d := 891) E row hr hi hi2 hP hN hL (fun w => absurd z w) (fun _ _ _ _ _ _ _ _ τ2 f2 => ok rfl (hA.inv3 hT hR f2 rfl)) (fun x' y' hx' hy' ex ey _ kx ky => (no x' y' hx' hy' ex ey kx ky).elim) (fun x' y' v L hx' hy' ex ey _ kx ky => (no x' y' hx' hy' ex ey kx ky).elim)
  · have z := inr x y hx hy ex ey hw
    subst ex ey
    have E1 := E.fr f1 rfl (f1.c1 9 rfl 1)
    have hr1 : ∀ j, j < 50 → τ1.1 75 j = τ.1 75 j := fun j _ => f1.c1 75 rfl j
    have en : ∀ τ2, Fr [82, 83, 88, 89, 90] [(69, 0)] τ1 τ2 → (∃ z : Int32, some (Value.int (-2)) = some (.int z) ∧ some (Value.int (-2)) = some (.int z)) ∧ Inv (t + 1) τ2 := fun τ2 f2 => by
      have F : Fr [55, 58, 61, 62, 82, 83, 88, 89, 90] [(53, 3), (56, 3), (59, 2), (59, 3), (59, 4), (60, 1), (60, 2), (60, 3), (69, 0)] τ τ2 := (f1.wk rfl).tr (f2.wk rfl)
      exact ok rfl (hA.invW F rfl (Or.inr (Or.inl ((f2.u1 59 2 rfl).trans w53))) (hT.fr F rfl) (hR.fr F rfl))
    refine s_Mnight (d := 891) E1 row hr1 hi hi2 hP hN hL (fun w => absurd z w) (fun x' y' hx' hy' ex ey _ rk τ2 f2 => en τ2 f2) (fun x' y' hx' hy' ex ey _ kx ky _ τ2 f2 => en τ2 f2) (fun x' y' v L hx' hy' ex ey _ _ _ yes => ?_)
    have := uq x x' hx hx' ex
    have := uq y y' hy hy' ey
    subst x' y'
    obtain ⟨k, hk, nk⟩ := no
    exact absurd (yes k hk) nk
  · have z := inr x y hx hy ex ey hw
    subst ex ey
    have E1 := E.fr f1 rfl (f1.c1 9 rfl 1)
    have hr1 : ∀ j, j < 50 → τ1.1 75 j = τ.1 75 j := fun j _ => f1.c1 75 rfl j
    refine s_Mnight (d := 891) E1 row hr1 hi hi2 hP hN hL (fun w => absurd z w) (fun x' y' hx' hy' ex ey _ rk => ?_) (fun x' y' hx' hy' ex ey _ _ _ no => ?_) (fun x' y' v' L' hx' hy' ex ey _ _ _ _ bb' τ2 f2 a1 a2 => ?_)
    · have := uq x x' hx hx' ex
      have := uq y y' hy hy' ey
      subst x' y'
      rcases rk with q | q
      · exact absurd q kx
      · exact absurd q ky
    · have := uq x x' hx hx' ex
      have := uq y y' hy hy' ey
      subst x' y'
      obtain ⟨k, hk, nk⟩ := no
      exact absurd (yes k hk) nk
    · have := uq x x' hx hx' ex
      have := uq y y' hy hy' ey
      subst x' y'
      have eo := Option.some.inj (bb.symm.trans bb')
      have ev : v = v' := congrArg Prod.fst eo
      have eL : L = L' := congrArg Prod.snd eo
      subst ev eL
      have F : Fr [4, 55, 58, 61, 62, 70, 82, 83, 88, 89, 90] [(3, 1), (53, 3), (56, 3), (59, 2), (59, 3), (59, 4), (60, 1), (60, 2), (60, 3), (69, 0), (69, 1)] τ τ2 := (f1.wk rfl).tr (f2.wk rfl)
      exact ok rfl (hA.invW F rfl (Or.inr (Or.inl ((f2.u1 59 2 rfl).trans w53))) (hT.fr F rfl) (RoI.one ((f2.u1 3 1 rfl).trans e1) a1 ((f2.c2 4 rfl 0).trans e2) a2))
