/-! WAYS: costs to a field, the class -/
/-- costs of ways to t, by pulls of lim at most, s a pull and 1 a drag -/
def mzP (kd : Nat → Nat) (R C : Nat) (P : Nat → Nat → Nat) (t lim s : Nat) (c : Nat → Nat) : Prop := c t = 0 ∧ (∀ f, f < R * C → c f ≤ 2 ^ 30) ∧ (∀ p f h, p < R * C → h < 4 → c p < 2 ^ 30 → nk kd R C p h = some f → P f p ≤ lim → c f ≤ c p + P f p * s + 1) ∧ ∀ f, f < R * C → f ≠ t → c f < 2 ^ 30 → ∃ p h, p < R * C ∧ h < 4 ∧ nk kd R C p h = some f ∧ P f p ≤ lim ∧ c p < 2 ^ 30 ∧ c f = c p + P f p * s + 1
/-- the same on the way: fields not in U are settled -/
def mwP (kd : Nat → Nat) (R C : Nat) (P : Nat → Nat → Nat) (t lim s : Nat) (U : Int64) (c : Nat → Nat) : Prop := c t = 0 ∧ (∀ p, p < R * C → bitL U p = false → c p < 2 ^ 30 ∧ (∀ f h, h < 4 → nk kd R C p h = some f → P f p ≤ lim → c f ≤ c p + P f p * s + 1) ∧ ∀ f, f < R * C → bitL U f = true → c p ≤ c f) ∧ ∀ f, f < R * C → f ≠ t → c f < 2 ^ 30 → ∃ p h, p < R * C ∧ h < 4 ∧ nk kd R C p h = some f ∧ P f p ≤ lim ∧ bitL U p = false ∧ c f = c p + P f p * s + 1
theorem mw_end {kd : Nat → Nat} {R C t lim s : Nat} {P : Nat → Nat → Nat} {U : Int64} {c : Nat → Nat} (h : mwP kd R C P t lim s U c) (hc : ∀ f, f < R * C → c f ≤ 2 ^ 30) (hU : ∀ f, f < R * C → bitL U f = true → c f = 2 ^ 30) : mzP kd R C P t lim s c := by
  obtain ⟨a, b, e⟩ := h
  refine ⟨a, hc, fun p f h' hp hh cp e1 e2 => ?_, fun f hf ft cf => ?_⟩
  · cases z : bitL U p with
    | true => have := hU p hp z; omega
    | false => exact (b p hp z).2.1 f h' hh e1 e2
  · obtain ⟨p, h', p1, p2, p3, p4, p5, p6⟩ := e f hf ft cf
    exact ⟨p, h', p1, p2, p3, p4, (b p p1 p5).1, p6⟩
theorem mw_step {kd : Nat → Nat} {R C t lim s p : Nat} {P : Nat → Nat → Nat} {U U' : Int64} {c c' : Nat → Nat} (h : mwP kd R C P t lim s U c) (hp : p < R * C) (hU : bitL U p = true) (cp : c p < 2 ^ 30) (hm : ∀ f, f < R * C → bitL U f = true → c p ≤ c f) (ar : arP kd R C P p lim s 4 c c') (hb : ∀ f, f < R * C → bitL U' f = (bitL U f && decide (f ≠ p))) : mwP kd R C P t lim s U' c' := by
  obtain ⟨a, b, e⟩ := h
  obtain ⟨a1, a2, a3, a4⟩ := ar
  -- settled fields keep their costs
  have keep : ∀ z, z < R * C → bitL U z = false → c' z = c z := fun z hz w => by
    rcases a3 z with q | ⟨h', _, _, _, q⟩
    · exact q
    · have := (b z hz w).2.2 p hp hU
      have := a2 z
      omega
  have keep' : ∀ z, z < R * C → bitL U' z = false → c' z = c z ∧ (z = p ∨ bitL U z = false) := fun z hz w => by
    rw [hb z hz] at w
    by_cases q : z = p
    · subst q; exact ⟨a1, Or.inl rfl⟩
    · rw [decide_eq_true q, Bool.and_true] at w
      exact ⟨keep z hz w, Or.inr w⟩
  refine ⟨?_, fun z hz w => ?_, fun f hf ft cf => ?_⟩
  · have := a2 t; omega
  · obtain ⟨k1, k2⟩ := keep' z hz w
    have ord : ∀ f, f < R * C → bitL U' f = true → c z ≤ c' f := fun f hf y => by
      rw [hb f hf, Bool.and_eq_true] at y
      have zp : c z ≤ c p := by
        rcases k2 with rfl | k2
        · exact Nat.le_refl _
        · exact (b z hz k2).2.2 p hp hU
      have := hm f hf y.1
      rcases a3 f with q | ⟨h', _, _, _, q⟩ <;> omega
    rw [k1]
    rcases k2 with rfl | k2
    · exact ⟨cp, fun f h' hh e1 e2 => a4 f h' hh e1 e2, ord⟩
    · refine ⟨(b z hz k2).1, fun f h' hh e1 e2 => ?_, ord⟩
      exact Nat.le_trans (a2 f) ((b z hz k2).2.1 f h' hh e1 e2)
  · rcases a3 f with q | ⟨h', g1, g2, g3, g4⟩
    · obtain ⟨z, h', p1, p2, p3, p4, p5, p6⟩ := e f hf ft (by omega)
      refine ⟨z, h', p1, p2, p3, p4, ?_, ?_⟩
      · rw [hb z p1, p5, Bool.false_and]
      · rw [q, keep z p1 p5]; exact p6
    · refine ⟨p, h', hp, g1, g2, g3, ?_, ?_⟩
      · rw [hb p hp, decide_eq_false (fun w => w rfl), Bool.and_false]
      · rw [a1]; exact g4
