theorem p_planks (t : Nat) (w k : Int32) : PrI t m_H_planks m_M_planks [.int w, .int k] := by
  intro ht0 τ h
  obtain ⟨R, C, kd, ht, ns, n, hA, hT, hR⟩ := h
  have ⟨ga, sh, c, _, _, _, _, wa, ru⟩ := hA
  obtain ⟨o, ee, m, E⟩ := hA.env
  obtain ⟨nn, hi2, hi⟩ := c.2.2.2.2.1
  have hi2 : nn < 2 ^ 30 := by omega
  have row := c.row
  have inr : ∀ kk, kk ≤ 2 → k = nI kk → (1 ≤ w ∧ w ≤ nI 99) → (1 ≤ w ∧ w ≤ nI 99) ∧ 0 ≤ k ∧ k ≤ nI 2 := fun kk hk ek hw => by
    subst ek
    exact ⟨hw, nI_pos' (by omega), nI_le hk (by omega)⟩
  have uq : ∀ a b : Nat, a ≤ 2 → b ≤ 2 → k = nI a → k = nI b → b = a := fun a b ha hb ea eb => ((nI_eq (by omega) (by omega)).mp (ea.symm.trans eb)).symm
  refine s_Hplanks (d := 888) E c hi hi2 (fun z => ?_) (fun kk hk ek hw st τ1 f1 w53 => ?_) (fun kk L B hk ek hw hL st τ1 f1 w53 r1 r2 => ?_)
  · refine s_Mplanks (d := 888) E row (fun _ _ => rfl) hi hi2 (fun _ τ2 f2 => ok rfl (hA.inv3 hT hR f2 rfl)) (fun kk hk ek hw => absurd (inr kk hk ek hw) z) (fun kk L B hk ek hw => absurd (inr kk hk ek hw) z)
  · have E1 := E.fr f1 rfl (f1.c1 9 rfl 1)
    refine s_Mplanks (d := 888) E1 row (fun j _ => f1.c1 75 rfl j) hi hi2 (fun z => absurd (inr kk hk ek hw) z) (fun kk' hk' ek' _ _ τ2 f2 => ?_) (fun kk' L' B' hk' ek' _ hL' st' => ?_)
    · have F : Fr [55, 58, 61, 76, 82, 83, 88, 90] [(53, 3), (56, 3), (59, 2), (59, 3), (59, 4), (60, 1), (60, 2), (60, 3), (69, 0), (69, 38), (69, 39)] τ τ2 := (f1.wk rfl).tr (f2.wk rfl)
      exact ok rfl (hA.invW F rfl (Or.inr (Or.inl ((f2.u1 59 2 rfl).trans w53))) (hT.fr F rfl) (hR.fr F rfl))
    · have := uq kk kk' hk hk' ek ek'
      subst this
      have := (stB_uq st' st).1
      omega
  · have E1 := E.fr f1 rfl (f1.c1 9 rfl 1)
    refine s_Mplanks (d := 888) E1 row (fun j _ => f1.c1 75 rfl j) hi hi2 (fun z => absurd (inr kk hk ek hw) z) (fun kk' hk' ek' _ st' => ?_) (fun kk' L' B' hk' ek' _ hL' st' τ2 f2 a1 a2 => ?_)
    · have := uq kk kk' hk hk' ek ek'
      subst this
      have := (stB_uq st' st).1
      omega
    · have := uq kk kk' hk hk' ek ek'
      subst this
      obtain ⟨e1, e2⟩ := stB_uq st' st
      subst e1 e2
      have F : Fr [4, 55, 58, 61, 70, 76, 82, 83, 88, 90] [(3, 1), (53, 3), (56, 3), (59, 2), (59, 3), (59, 4), (59, 6), (59, 7), (60, 1), (60, 2), (60, 3), (69, 0), (69, 1), (69, 38), (69, 39)] τ τ2 := (f1.wk rfl).tr (f2.wk rfl)
      exact ok rfl (hA.invW F rfl (Or.inr (Or.inl ((f2.u1 59 2 rfl).trans w53))) (hT.fr F rfl) (RoI.one ((f2.u1 3 1 rfl).trans r1) a1 ((f2.c2 4 rfl 0).trans r2) a2))
