/-! DRAGS: bounds of a pull, the row behind a drag -/
theorem clp_nI (v : Int32) : ∃ k, k ≤ 999 ∧ clp v = nI k := by
  unfold clp
  by_cases c : v < 999
  · rw [if_pos c]
    by_cases c2 : 0 < v
    · rw [if_pos c2]
      obtain ⟨k, hk, e⟩ := nI_of (Int32.not_lt.mpr (Int32.le_of_lt c2))
      rw [e] at c
      have := (nI_ltI (b := 999) hk (by omega)).mp c
      exact ⟨k, by omega, e⟩
    · rw [if_neg c2]; exact ⟨0, by omega, rfl⟩
  · rw [if_neg c, if_pos (by decide)]; exact ⟨999, by omega, rfl⟩
theorem pvR_nI (ht : Nat → Nat) (m : Nat) (S : Nat → Int32) (w : Int32) (r : Nat → Int32) (i f q : Nat) : ∃ k, k ≤ 1498 ∧ pvR ht m S w r i f q = nI k := by
  unfold pvR
  generalize vR m S _ = v
  obtain ⟨k, hk, e⟩ := clp_nI v
  rw [e]
  by_cases c : i % 4 = 3
  · rw [if_pos c, show nI k / 2 = nI (k / 2) from pk_div (d := 2) (by omega) (by omega) (by omega), nI_add]
    exact ⟨k + k / 2, by omega, rfl⟩
  · rw [if_neg c]; exact ⟨k, by omega, rfl⟩
/-- a ship was dragged to q by a pull v -/
def dgR (s q i : Nat) (v : Int32) (r : Nat → Int32) (j : Nat) : Int32 := if j = 36 + s then nI q else if j = 44 then r 44 ||| (1 <<< (nI s &&& 31)) else if j = 45 then r 45 + v else if j = 48 then r 48 + noi v (i % 4) else r j
theorem dgMo {s q i ns n B k : Nat} {kd : Nat → Nat} {v : Int32} {r : Nat → Int32} {τ τ' : St} (hs : s < ns) (h8 : ns ≤ 8) (hq : q < n) (hk : kd q ≠ 3) (mo : MoI τ 9 ns n B kd r) (hu : r 45 + v = nI k) (hk2 : k ≤ 999)
    (e10 : ∀ j, τ'.1 10 j = if j = s then nI q else τ.1 10 j) (e2 : τ'.1 9 2 = τ.1 9 2 ||| (1 <<< (nI s &&& 31))) (e4 : τ'.1 9 4 = τ.1 9 4 + v) (e5 : τ'.1 9 5 = τ.1 9 5) (e6 : τ'.1 9 6 = τ.1 9 6) (e7 : τ'.1 9 7 = τ.1 9 7 + noi v (i % 4)) (e8 : τ'.1 9 8 = τ.1 9 8) (e3 : τ'.2 9 3 = τ.2 9 3) : MoI τ' 9 ns n B kd (dgR s q i v r) := by
  obtain ⟨m1, ⟨k2, k4, k5, k6, k7, k8⟩, m3, m4, m5, m6, ⟨g, g1, g2⟩, m8⟩ := mo
  have d44 : dgR s q i v r 44 = r 44 ||| (1 <<< (nI s &&& 31)) := by unfold dgR; rw [if_neg (by omega), if_pos rfl]
  have d45 : dgR s q i v r 45 = r 45 + v := by unfold dgR; rw [if_neg (by omega), if_neg (by omega), if_pos rfl]
  have d48 : dgR s q i v r 48 = r 48 + noi v (i % 4) := by unfold dgR; rw [if_neg (by omega), if_neg (by omega), if_neg (by omega), if_pos rfl]
  have d0 : ∀ j, j ≠ 36 + s → j ≠ 44 → j ≠ 45 → j ≠ 48 → dgR s q i v r j = r j := fun j a b c d => by unfold dgR; rw [if_neg a, if_neg b, if_neg c, if_neg d]
  refine ⟨fun z hz => ?_, ⟨by rw [e2, d44, k2], by rw [e4, d45, k4], by rw [e5, d0 46 (by omega) (by omega) (by omega) (by omega), k5], by rw [e6, d0 47 (by omega) (by omega) (by omega) (by omega), k6], by rw [e7, d48, k7], by rw [e8, d0 49 (by omega) (by omega) (by omega) (by omega), k8]⟩, fun f hf => ?_, fun f a b => by rw [e3]; exact m4 f a b, ?_, ?_, ?_, ⟨k, hk2, by rw [d45]; exact hu⟩⟩
  · show τ'.1 10 z = _ ∧ _
    rw [e10]
    by_cases c : z = s
    · subst c
      have : dgR z q i v r (36 + z) = nI q := by unfold dgR; rw [if_pos rfl]
      rw [if_pos rfl, this]
      exact ⟨rfl, q, hq, hk, rfl⟩
    · rw [if_neg c, d0 _ (by omega) (by omega) (by omega) (by omega)]
      exact m1 z hz
  · rw [e3, d0 f (by omega) (by omega) (by omega) (by omega)]; exact m3 f hf
  · rw [d0 46 (by omega) (by omega) (by omega) (by omega)]; exact m5
  · rw [d0 47 (by omega) (by omega) (by omega) (by omega)]; exact m6
  · rw [d44, g2]
    have hlt : ∀ j, ns ≤ j → j < 32 → bt (nI g ||| (1 <<< (nI s &&& 31))) j = false := fun j h1 h2 => by
      rw [b_or, shl1 (by omega) h2, decide_eq_false (by omega), Bool.or_false]
      show (BitVec.ofNat 32 g).getLsbD j = false
      rw [BitVec.getLsbD_ofNat, Nat.testBit_lt_two_pow (Nat.lt_of_lt_of_le g1 (Nat.pow_le_pow_right (by omega) h1)), Bool.and_false]
    refine ⟨(nI g ||| (1 <<< (nI s &&& 31))).toBitVec.toNat, Nat.lt_pow_two_of_testBit _ (fun j hj => ?_), ?_⟩
    · by_cases c : j < 32
      · exact hlt j hj c
      · exact Nat.testBit_lt_two_pow (Nat.lt_of_lt_of_le (nI g ||| (1 <<< (nI s &&& 31))).toBitVec.isLt (Nat.pow_le_pow_right (by omega) (by omega)))
    · apply Int32.toBitVec_inj.mp
      generalize nI g ||| (1 <<< (nI s &&& 31)) = X
      show X.toBitVec = BitVec.ofNat 32 X.toBitVec.toNat
      apply BitVec.eq_of_toNat_eq
      rw [BitVec.toNat_ofNat, Nat.mod_eq_of_lt X.toBitVec.isLt]
