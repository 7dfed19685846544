/-! WAYS: how hard a way is by a drag, the reference -/
def hbV (z : Bool) (hd v : Nat) : Nat := if hd < 1000000 then (if z then hd + v else max hd v) else 1000000
theorem s_MhardBy {d k q v hd : Nat} {z : Bool} {Q : Qt} {τ : St} (hk : k < 144) (hq : q < 36) (hv : v ≤ 1498) (e1 : τ.1 88 q = nI hd) (e2 : τ.1 90 k = nI v) (h1 : hd ≤ 1000000) (hQ : Q (some (.int (nI (hbV z hd v)))) τ) : Cl (d + 1) m_M_hardBy [.ref 69, .int (nI k), .int (nI q), .int (if z then 1 else 0)] τ Q := by
  rw [N_M_hardBy]
  simp only [E_M_hardBy, fIsA, fRt, fLen, fLit, fBool, nI_clamp (show k < 2 ^ 31 by omega), nI_clamp (show q < 2 ^ 31 by omega), e1, e2]
  refine ⟨vp_in_nI (by omega) (by omega), fun a => ⟨fun b => ⟨vp_in_nI (by omega) (by omega), vp_in_nI (by omega) (by omega), ?_⟩, fun b => ⟨vp_in_nI (by omega) (by omega), vp_in_nI (by omega) (by omega), ?_⟩⟩, fun a => ?_⟩
  · have a := (nI_ltI (b := 1000000) (by omega) (by omega)).mp a
    have z0 : z = false := by
      cases z with
      | false => rfl
      | true => exact absurd b (by decide)
    subst z0
    have e : (if nI hd < nI v then nI v else nI hd) = nI (hbV false hd v) := by
      have ev : hbV false hd v = max hd v := by
        unfold hbV
        rw [if_pos a, if_neg (by decide)]
      rw [ev]
      by_cases c : hd < v
      · rw [if_pos (nI_lt c (by omega)), Nat.max_eq_right (by omega)]
      · rw [if_neg (fun w => c ((nI_ltI (by omega) (by omega)).mp w)), Nat.max_eq_left (by omega)]
    rw [e]
    exact hQ
  · have a := (nI_ltI (b := 1000000) (by omega) (by omega)).mp a
    have z1 : z = true := by
      cases z with
      | false => exact absurd rfl b
      | true => rfl
    subst z1
    have e : hbV true hd v = hd + v := by unfold hbV; rw [if_pos a, if_pos rfl]
    rw [e] at hQ
    rw [nI_add]
    exact hQ
  · have a : ¬ hd < 1000000 := fun w => a (nI_lt (b := 1000000) w (by omega))
    have e : hbV z hd v = 1000000 := by unfold hbV; rw [if_neg a]
    rw [e] at hQ
    exact hQ
