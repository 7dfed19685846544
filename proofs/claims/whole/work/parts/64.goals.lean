/-! WHERE a ship is dragged -/
/-- the ships on a field, by a moment's row -/
noncomputable def occ (r : Nat → Int32) (ns : Nat) (v : Int32) : Int32 := fb (fun s => r (36 + s) = v) ns 0 0
/-- the field a ship can be dragged to -/
noncomputable def gl (kd : Nat → Nat) (R C ns : Nat) (r : Nat → Int32) (f h : Nat) : Option Nat := match nk kd R C f h with
  | some g => if kd g = 0 ∧ ¬ occ r ns (nI g) = 0 then none else some g
  | none => none
theorem nb_lt {R C f h g : Nat} (hf : f < R * C) (hh : h < 4) (e : nb R C f h = some g) : g < R * C := by
  unfold nb at e
  have hd := Nat.div_add_mod f C
  by_cases h0 : h = 0
  · rw [if_pos h0] at e
    split at e
    · cases e; omega
    · cases e
  · rw [if_neg h0] at e
    by_cases h1 : h = 1
    · rw [if_pos h1] at e
      split at e
      · next c =>
        cases e
        have hR : f / C < R := Nat.div_lt_of_lt_mul (by rw [Nat.mul_comm]; exact hf)
        have : C * (f / C + 1) ≤ C * R := Nat.mul_le_mul_left C hR
        rw [Nat.mul_add] at this
        rw [Nat.mul_comm R C]
        omega
      · cases e
    · rw [if_neg h1] at e
      by_cases h2 : h = 2
      · rw [if_pos h2] at e
        split at e
        · cases e; assumption
        · cases e
      · rw [if_neg h2] at e
        split at e
        · cases e; omega
        · cases e
theorem s_MgoalOf {d R C ns s h f : Nat} {kd ht : Nat → Nat} {Q : Qt} {τ : St} (g : GI τ R C kd ht) (sh : ShI τ ns) (hs : s < ns) (hh : h < 4) (hf : f < R * C) (hp : τ.1 75 (36 + s) = nI f) (hQ : Q (some (.int (oI (gl kd R C ns (τ.1 75) f h)))) τ) : Cl (d + 3) m_M_goalOf [.ref 69, .ref 75, .int (nI s), .int (nI h)] τ Q := by
  have hn := g.n36
  have h8 := sh.1
  have e36 : (36 : Int32) + nI s = nI (36 + s) := nI_add 36 s
  rw [N_M_goalOf]
  simp only [E_M_goalOf, fIsA, fRt, fLen, fLit, fBool, e36, nI_clamp (show 36 + s < 2 ^ 31 by omega), hp]
  refine ⟨vp_in_nI (by omega) (by omega), s_Mbeside g hf hh ?_⟩
  simp only [oT, E_M_goalOf, fIsA, fRt, fLen, fLit, fBool]
  unfold gl nk at hQ
  cases hnb : nb R C f h with
  | none =>
    rw [hnb] at hQ
    exact ⟨fun _ => hQ, fun z => absurd (show (-1 : Int32) < 0 by decide) z⟩
  | some q =>
    rw [hnb] at hQ
    have hq := nb_lt hf hh hnb
    have hQ : Q (some (.int (oI (match (if kd q = 3 then none else some q : Option Nat) with
      | some g => if kd g = 0 ∧ ¬ occ (τ.1 75) ns (nI g) = 0 then none else some g
      | none => none)))) τ := hQ
    have k3 := g.2.2.1 q hq
    have k4 := k3.1.1
    rw [show oI (some q) = nI q from rfl, nI_clamp (show q < 2 ^ 31 by omega), k3.2.1]
    refine ⟨fun z => absurd z (nI_pos (by omega)), fun _ => ⟨vp_in_nI (by omega) (by omega), fun z => ?_, fun z => ⟨vp_in_nI (by omega) (by omega), fun z0 => ?_, fun z0 => ?_⟩⟩⟩
    · rw [if_pos ((nI_eq (b := 3) (by omega) (by omega)).mp z)] at hQ
      exact hQ
    · rw [if_neg (fun w => z (by rw [w]; rfl))] at hQ
      have hQ : Q (some (.int (oI (if kd q = 0 ∧ ¬ occ (τ.1 75) ns (nI q) = 0 then none else some q)))) τ := hQ
      rw [if_neg (fun w => z0 (by rw [w.1]; rfl))] at hQ
      exact hQ
    · rw [if_neg (fun w => z (by rw [w]; rfl))] at hQ
      have hQ : Q (some (.int (oI (if kd q = 0 ∧ ¬ occ (τ.1 75) ns (nI q) = 0 then none else some q)))) τ := hQ
      have kz := (nI_eq (b := 0) (by omega) (by omega)).mp z0
      refine s_MshipsAt (Or.inl rfl) sh ?_
      rw [show fb (onM τ 75 (nI q)) ns 0 0 = occ (τ.1 75) ns (nI q) from rfl]
      simp only [oT, E_M_goalOf, fIsA, fRt, fLen, fLit, fBool]
      refine ⟨fun w => ?_, fun w => ?_⟩
      · rw [if_pos ⟨kz, w⟩] at hQ; exact hQ
      · rw [if_neg (fun v => v.2 w)] at hQ; exact hQ
