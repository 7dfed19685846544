/-! WAYS: the least of the greatest pulls, the class -/
/-- a way with pulls of l at most leads from A to T -/
def hitP (kd : Nat → Nat) (R C : Nat) (pl : Nat → Nat → Int32) (A T : Int64) (l : Nat) : Prop := ∃ q k, q < 64 ∧ bitL T q = true ∧ rcK kd R C pl A (nI l) k q
theorem rc_lim {kd : Nat → Nat} {R C : Nat} {pl : Nat → Nat → Int32} {A : Int64} {l l' : Int32} (h : l ≤ l') : ∀ k q, rcK kd R C pl A l k q → rcK kd R C pl A l' k q
  | 0, _, z => z
  | k + 1, q, z => by
    rcases z with z | ⟨f, h', a, b, c, e, g⟩
    · exact Or.inl (rc_lim h k q z)
    · exact Or.inr ⟨f, h', a, b, rc_lim h k f c, e, fun w => g (Int32.lt_of_le_of_lt h w)⟩
theorem hit_mono {kd : Nat → Nat} {R C : Nat} {pl : Nat → Nat → Int32} {A T : Int64} {l l' : Nat} (h : l ≤ l') (hl : l' < 2 ^ 31) (z : hitP kd R C pl A T l) : hitP kd R C pl A T l' := by
  obtain ⟨q, k, a, b, c⟩ := z
  exact ⟨q, k, a, b, rc_lim (nI_le h hl) k q c⟩
theorem hit_bit {kd : Nat → Nat} {R C : Nat} {pl : Nat → Nat → Int32} {A T X : Int64} {l : Nat} (hX : ∀ q, q < 64 → (bitL X q = true ↔ ∃ k, rcK kd R C pl A (nI l) k q)) : X &&& T = 0 ↔ ¬ hitP kd R C pl A T l := by
  constructor
  · rintro z ⟨q, k, a, b, c⟩
    have : bitL (X &&& T) q = true := by rw [bL_and, b, Bool.and_true]; exact (hX q a).mpr ⟨k, c⟩
    rw [z, bL_0] at this
    exact absurd this (by decide)
  · intro z
    refine Classical.byContradiction (fun w => ?_)
    obtain ⟨q, a, b⟩ := bit_ne w
    rw [bL_and, Bool.and_eq_true] at b
    obtain ⟨k, c⟩ := (hX q a).mp b.1
    exact z ⟨q, k, a, b.2, c⟩
theorem s_WleastMost {d R C : Nat} {kd ht : Nat → Nat} {Q : Qt} {τ : St} {pl : Nat → Nat → Int32} {A T : Int64} (g : GI τ R C kd ht)
    (pt : ∀ (f q : Nat) (Q' : Qt), f < R * C → q < R * C → Q' (some (.int (pl f q))) τ → Cl (d + 3) m_Ways_pullTo [.ref 59, .int (nI f), .int (nI q)] τ Q')
    (hA : ∀ q, bitL A q = true → q < R * C)
    (hno : ¬ hitP kd R C pl A T 1498 → Q (some (.int (-1))) τ) (hyes : ∀ m, m ≤ 1498 → hitP kd R C pl A T m → (∀ m', m' < m → ¬ hitP kd R C pl A T m') → Q (some (.int (nI m))) τ) : Cl (d + 6) m_Ways_leastMost [.ref 59, .long A, .long T] τ Q := by
  have loop : ∀ (u j lo hi : Nat) (l8 : Option Value), j + u = 12 → lo ≤ hi → hi ≤ 1498 → (hi - lo) * 2 ^ j ≤ 1498 → hitP kd R C pl A T hi → (∀ m', m' < lo → ¬ hitP kd R C pl A T m') → Rs M_Ways_leastMost (d + 5) Q 28 [some (.ref 59), some (.long A), none, some (.long T), none, some (.int (nI lo)), some (.int (nI hi)), some (.int (nI j)), l8] [] τ := by
    intro u
    induction u with
    | zero =>
      intro j lo hi l8 hj h1 h2 h3 h4 h5
      obtain rfl : j = 12 := by omega
      have e : lo = hi := by
        have : (2 : Nat) ^ 12 = 4096 := rfl
        rw [this] at h3
        omega
      subst e
      rw [Rs_eq]
      simp only [E_Ways_leastMost, fIsA, fRt, fLen, fLit, fBool]
      exact ⟨fun _ => hyes lo h2 h4 h5, fun z => absurd (Int32.le_refl _) z⟩
    | succ u ih =>
      intro j lo hi l8 hj h1 h2 h3 h4 h5
      have mid : (nI lo + nI hi) / 2 = nI ((lo + hi) / 2) := by rw [nI_add]; exact pk_div (d := 2) (by omega) (by omega) (by omega)
      rw [Rs_eq]
      simp only [E_Ways_leastMost, fIsA, fRt, fLen, fLit, fBool, mid, nI_1]
      refine ⟨fun z => absurd z (nI_ge (b := 12) (by omega) (by omega)), fun _ => ⟨fun z => ?_, fun z => ⟨by decide, ?_⟩⟩⟩
      · have z := (nI_leI (by omega) (by omega)).mp z
        obtain rfl : lo = hi := by omega
        exact hyes lo h2 h4 h5
      · have z : lo < hi := Nat.lt_of_not_le (fun w => z (nI_le w (by omega)))
        refine s_Wreached g pt hA (fun X hX => ?_)
        simp only [oT, oN, E_Ways_leastMost, fIsA, fRt, fLen, fLit, fBool, nI_1]
        have half : ∀ a b : Nat, (b - a) * 2 ≤ hi - lo → (b - a) * 2 ^ (j + 1) ≤ 1498 := fun a b w => by
          rw [Nat.pow_succ, Nat.mul_comm (2 ^ j) 2, ← Nat.mul_assoc]
          exact Nat.le_trans (Nat.mul_le_mul_right _ w) h3
        by_cases c : hitP kd R C pl A T ((lo + hi) / 2)
        · refine ⟨fun w => ?_, fun w => ?_⟩
          all_goals first
            | exact ih (j + 1) lo ((lo + hi) / 2) _ (by omega) (by omega) (by omega) (half _ _ (by omega)) c h5
            | exact absurd c ((hit_bit hX).mp (lcmp0.mp w))
        · refine ⟨fun w => ?_, fun w => ?_⟩
          all_goals first
            | exact absurd (lcmp0.mpr ((hit_bit hX).mpr c)) w
            | exact ih (j + 1) ((lo + hi) / 2 + 1) hi _ (by omega) (by omega) (by omega) (half _ _ (by omega)) h4 (fun m' hm' hh => c (hit_mono (by omega) (by omega) hh))
  rw [N_Ways_leastMost]
  simp only [E_Ways_leastMost, fIsA, fRt, fLen, fLit, fBool]
  refine s_Wreached (lim := 1498) g pt hA (fun X hX => ?_)
  simp only [oT, oN, E_Ways_leastMost, fIsA, fRt, fLen, fLit, fBool]
  by_cases c : hitP kd R C pl A T 1498
  · refine ⟨fun w => ?_, fun w => ?_⟩
    all_goals first
      | exact absurd c ((hit_bit (l := 1498) hX).mp (lcmp0.mp w))
      | exact loop 12 0 0 1498 none (by omega) (by omega) (by omega) (by decide) c (fun m' hm' => absurd hm' (Nat.not_lt_zero _))
  · refine ⟨fun w => ?_, fun w => ?_⟩
    all_goals first
      | exact absurd (lcmp0.mpr ((hit_bit (l := 1498) hX).mpr c)) w
      | exact hno c
