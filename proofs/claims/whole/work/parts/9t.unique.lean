/-! WAYS: costs that keep the law are the same -/
theorem mz_le {kd : Nat → Nat} {R C t lim s : Nat} {P : Nat → Nat → Nat} {c1 c2 : Nat → Nat} (h1 : mzP kd R C P t lim s c1) (h2 : mzP kd R C P t lim s c2) : ∀ n f, f < R * C → c1 f < n → c1 f < 2 ^ 30 → c2 f ≤ c1 f := by
  intro n
  induction n with
  | zero => intro f _ z; exact absurd z (Nat.not_lt_zero _)
  | succ n ih =>
    intro f hf z b
    by_cases ft : f = t
    · subst ft
      rw [h2.1]
      exact Nat.zero_le _
    · obtain ⟨p, h, p1, p2, p3, p4, p5, p6⟩ := h1.2.2.2 f hf ft b
      have := ih p p1 (by omega) p5
      have := h2.2.2.1 p f h p1 p2 (by omega) p3 p4
      omega
theorem mz_eq {kd : Nat → Nat} {R C t lim s : Nat} {P : Nat → Nat → Nat} {c1 c2 : Nat → Nat} (h1 : mzP kd R C P t lim s c1) (h2 : mzP kd R C P t lim s c2) {f : Nat} (hf : f < R * C) : c1 f = c2 f := by
  have b1 := h1.2.1 f hf
  have b2 := h2.2.1 f hf
  by_cases x : c1 f < 2 ^ 30
  · have a := mz_le h1 h2 (c1 f + 1) f hf (by omega) x
    have := mz_le h2 h1 (c2 f + 1) f hf (by omega) (by omega)
    omega
  · by_cases y : c2 f < 2 ^ 30
    · have := mz_le h2 h1 (c2 f + 1) f hf (by omega) y
      omega
    · omega
/-- a field has a cost when ways of pulls of lim at most lead from it to t -/
theorem mz_far {kd : Nat → Nat} {R C t lim s : Nat} {P : Nat → Nat → Nat} {c : Nat → Nat} (h : mzP kd R C P t lim s c) {f p k : Nat} (hp : p < R * C) (hk : k < 4) (e : nk kd R C p k = some f) (hl : P f p ≤ lim) (hc : c p < 2 ^ 30) : c f ≤ c p + P f p * s + 1 := h.2.2.1 p f k hp hk hc e hl
