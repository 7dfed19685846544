/-! WAYS: counting fields, sums over fields, edges both ways -/
def cn2 (p : Nat → Bool) : Nat → Nat
  | 0 => 0
  | n + 1 => cn2 p n + (if p n = true then 1 else 0)
theorem cn2_le (p : Nat → Bool) : ∀ n, cn2 p n ≤ n
  | 0 => Nat.le_refl _
  | n + 1 => by
    have := cn2_le p n
    show cn2 p n + (if p n = true then 1 else 0) ≤ n + 1
    split <;> omega
theorem cn2_mono {p r : Nat → Bool} : ∀ n, (∀ q, q < n → p q = true → r q = true) → cn2 p n ≤ cn2 r n
  | 0, _ => Nat.le_refl _
  | n + 1, h => by
    have := cn2_mono n (fun q hq => h q (by omega))
    show cn2 p n + (if p n = true then 1 else 0) ≤ cn2 r n + (if r n = true then 1 else 0)
    cases c : p n with
    | true => rw [h n (by omega) c]; omega
    | false => rw [if_neg (by decide)]; omega
theorem cn2_lt {p r : Nat → Bool} {x : Nat} (h1 : p x = false) (h2 : r x = true) : ∀ n, x < n → (∀ q, q < n → p q = true → r q = true) → cn2 p n + 1 ≤ cn2 r n
  | 0, w, _ => absurd w (Nat.not_lt_zero _)
  | n + 1, w, h => by
    show cn2 p n + (if p n = true then 1 else 0) + 1 ≤ cn2 r n + (if r n = true then 1 else 0)
    by_cases c : x = n
    · subst c
      have := cn2_mono x (fun q hq => h q (by omega))
      rw [h1, h2, if_neg (by decide), if_pos rfl]
      omega
    · have := cn2_lt h1 h2 n (by omega) (fun q hq => h q (by omega))
      cases c : p n with
      | true => rw [h n (by omega) c]; omega
      | false => rw [if_neg (by decide)]; omega
/-- values that go down by one are fewer than the fields -/
theorem chain_le {v : Nat → Nat} {g : Nat → Prop} {n : Nat} (st : ∀ f, f < n → g f → v f ≠ 0 → ∃ q, q < n ∧ g q ∧ v q + 1 = v f) (f : Nat) (hf : f < n) (hg : g f) : v f < n := by
  have key : ∀ m f, f < n → g f → v f = m → m + 1 ≤ cn2 (fun x => decide (v x ≤ m)) n := by
    intro m
    induction m with
    | zero =>
      intro f hf _ e
      have := cn2_lt (p := fun _ => false) (r := fun x => decide (v x ≤ 0)) (x := f) rfl (decide_eq_true (by omega)) n hf (fun q _ z => absurd z (by decide))
      omega
    | succ m ih =>
      intro f hf hg e
      obtain ⟨q, hq, gq, eq⟩ := st f hf hg (by omega)
      have h1 := ih q hq gq (by omega)
      have h2 := cn2_lt (p := fun x => decide (v x ≤ m)) (r := fun x => decide (v x ≤ m + 1)) (x := f) (decide_eq_false (by omega)) (decide_eq_true (by omega)) n hf (fun q _ z => decide_eq_true (Nat.le_succ_of_le (of_decide_eq_true z)))
      omega
  have := key (v f) f hf hg rfl
  have := cn2_le (fun x => decide (v x ≤ v f)) n
  omega
def smN (v : Nat → Nat) : Nat → Nat
  | 0 => 0
  | n + 1 => smN v n + v n
theorem smN_le {v w : Nat → Nat} : ∀ n, (∀ x, x < n → w x ≤ v x) → smN w n ≤ smN v n
  | 0, _ => Nat.le_refl _
  | n + 1, h => by
    have := smN_le n (fun x hx => h x (by omega))
    have := h n (by omega)
    show smN w n + w n ≤ smN v n + v n
    omega
theorem smN_lt {v w : Nat → Nat} {x : Nat} : ∀ n, x < n → (∀ x, x < n → w x ≤ v x) → w x < v x → smN w n < smN v n
  | 0, h, _, _ => absurd h (Nat.not_lt_zero _)
  | n + 1, hx, h, hl => by
    show smN w n + w n < smN v n + v n
    have a := h n (by omega)
    by_cases c : x = n
    · subst c
      have := smN_le x (fun y hy => h y (by omega))
      omega
    · have := smN_lt n (by omega) (fun y hy => h y (by omega)) hl
      omega
/-- an edge: from f by h to q, both no rock -/
def eG (kd : Nat → Nat) (R C f h q : Nat) : Prop := f < R * C ∧ h < 4 ∧ kd f ≠ 3 ∧ nk kd R C f h = some q
theorem nk_nb {kd : Nat → Nat} {R C f h q : Nat} (e : nk kd R C f h = some q) : nb R C f h = some q ∧ kd q ≠ 3 := by
  unfold nk at e
  cases hb : nb R C f h with
  | none => rw [hb] at e; exact absurd e (by simp)
  | some p =>
    rw [hb] at e
    have e : (if kd p = 3 then none else some p) = some q := e
    by_cases c : kd p = 3
    · rw [if_pos c] at e; exact absurd e (by simp)
    · rw [if_neg c] at e
      obtain rfl : p = q := Option.some.inj e
      exact ⟨rfl, c⟩
theorem nb_sym {R C f h q : Nat} (hf : f < R * C) (hh : h < 4) (e : nb R C f h = some q) : nb R C q ((h + 2) % 4) = some f := by
  have hC : 0 < C := by
    refine Nat.pos_of_ne_zero (fun z => ?_)
    subst z
    exact absurd hf (Nat.not_lt_zero _)
  have hm := Nat.mod_lt f hC
  have hdm := Nat.div_add_mod f C
  rcases (show h = 0 ∨ h = 1 ∨ h = 2 ∨ h = 3 by omega) with rfl | rfl | rfl | rfl
  · have e : (if C ≤ f then some (f - C) else none) = some q := e
    show (if q + C < R * C then some (q + C) else none) = some f
    by_cases c : C ≤ f
    · rw [if_pos c] at e
      have e := Option.some.inj e
      rw [if_pos (by omega)]
      congr 1
      omega
    · rw [if_neg c] at e; exact absurd e (by simp)
  · have e : (if f % C + 1 < C then some (f + 1) else none) = some q := e
    show (if 0 < q % C then some (q - 1) else none) = some f
    by_cases c : f % C + 1 < C
    · rw [if_pos c] at e
      have e := Option.some.inj e
      have em : q % C = f % C + 1 := by
        rw [← e, show f + 1 = C * (f / C) + (f % C + 1) by omega, Nat.mul_add_mod, Nat.mod_eq_of_lt c]
      rw [if_pos (by omega)]
      congr 1
      omega
    · rw [if_neg c] at e; exact absurd e (by simp)
  · have e : (if f + C < R * C then some (f + C) else none) = some q := e
    show (if C ≤ q then some (q - C) else none) = some f
    by_cases c : f + C < R * C
    · rw [if_pos c] at e
      have e := Option.some.inj e
      rw [if_pos (by omega)]
      congr 1
      omega
    · rw [if_neg c] at e; exact absurd e (by simp)
  · have e : (if 0 < f % C then some (f - 1) else none) = some q := e
    show (if q % C + 1 < C then some (q + 1) else none) = some f
    by_cases c : 0 < f % C
    · rw [if_pos c] at e
      have e := Option.some.inj e
      have em : q % C = f % C - 1 := by
        rw [← e, show f - 1 = C * (f / C) + (f % C - 1) by omega, Nat.mul_add_mod, Nat.mod_eq_of_lt (by omega)]
      rw [if_pos (by omega)]
      congr 1
      omega
    · rw [if_neg c] at e; exact absurd e (by simp)
theorem eG_lt {kd : Nat → Nat} {R C f h q : Nat} (e : eG kd R C f h q) : q < R * C := nk_lt e.1 e.2.1 e.2.2.2
theorem eG_sym {kd : Nat → Nat} {R C f h q : Nat} (e : eG kd R C f h q) : eG kd R C q ((h + 2) % 4) f := by
  obtain ⟨a, b, c, e⟩ := e
  obtain ⟨e1, e2⟩ := nk_nb e
  refine ⟨nk_lt a b e, by omega, e2, ?_⟩
  unfold nk
  rw [nb_sym a b e1]
  show (if kd f = 3 then none else some f) = some f
  rw [if_neg c]
theorem nk_inj {kd : Nat → Nat} {R C f h h' q : Nat} (hf : f < R * C) (hh : h < 4) (hh' : h' < 4) (e : nb R C f h = some q) (e' : nb R C f h' = some q) : h = h' := by
  have hC : 0 < C := by
    refine Nat.pos_of_ne_zero (fun z => ?_)
    subst z
    exact absurd hf (Nat.not_lt_zero _)
  have hm := Nat.mod_lt f hC
  have hml := Nat.mod_le f C
  have pr : ∀ k, k < 4 → nb R C f k = some q → (k = 0 ∧ q + C = f) ∨ (k = 1 ∧ q = f + 1 ∧ 2 ≤ C) ∨ (k = 2 ∧ q = f + C) ∨ (k = 3 ∧ q + 1 = f ∧ 2 ≤ C) := fun k hk e => by
    rcases (show k = 0 ∨ k = 1 ∨ k = 2 ∨ k = 3 by omega) with rfl | rfl | rfl | rfl
    · have e : (if C ≤ f then some (f - C) else none) = some q := e
      by_cases c : C ≤ f
      · rw [if_pos c] at e
        have e := Option.some.inj e
        omega
      · rw [if_neg c] at e; exact absurd e (by simp)
    · have e : (if f % C + 1 < C then some (f + 1) else none) = some q := e
      by_cases c : f % C + 1 < C
      · rw [if_pos c] at e
        have e := Option.some.inj e
        omega
      · rw [if_neg c] at e; exact absurd e (by simp)
    · have e : (if f + C < R * C then some (f + C) else none) = some q := e
      by_cases c : f + C < R * C
      · rw [if_pos c] at e
        have e := Option.some.inj e
        omega
      · rw [if_neg c] at e; exact absurd e (by simp)
    · have e : (if 0 < f % C then some (f - 1) else none) = some q := e
      by_cases c : 0 < f % C
      · rw [if_pos c] at e
        have e := Option.some.inj e
        omega
      · rw [if_neg c] at e; exact absurd e (by simp)
  rcases pr h hh e with ⟨a1, a2⟩ | ⟨a1, a2, a3⟩ | ⟨a1, a2⟩ | ⟨a1, a2, a3⟩ <;> rcases pr h' hh' e' with ⟨b1, b2⟩ | ⟨b1, b2, b3⟩ | ⟨b1, b2⟩ | ⟨b1, b2, b3⟩ <;> omega
/-- pulls as the reference lays them -/
def PuN (kd : Nat → Nat) (R C : Nat) (P : Nat → Nat → Nat) (τ : St) : Prop := ∀ k, k < 144 → (τ.1 90 k = -1 ∧ ∀ q, ¬ eG kd R C (k / 4) (k % 4) q) ∨ ∃ q, τ.1 90 k = nI (P (k / 4) q) ∧ eG kd R C (k / 4) (k % 4) q
theorem PuN.fr {kd : Nat → Nat} {R C : Nat} {P : Nat → Nat → Nat} {cs : List Nat} {fs : List (Nat × Nat)} {τ τ' : St} (h : PuN kd R C P τ) (f : Fr cs fs τ τ') (hd : disF cs fs [90] [] = true) : PuN kd R C P τ' := fun k hk => by
  rw [f.c1 90 hd]
  exact h k hk
theorem PuN.of {kd ht : Nat → Nat} {R C m i : Nat} {S r : Nat → Int32} {w hh : Int32} {P : Nat → Nat → Nat} {τ : St} (hP : ∀ f q, plF ht m S w r hh i f q = nI (P f q) ∧ P f q ≤ 1498) (h : ∀ f h, f < 36 → h < 4 → τ.1 90 (4 * f + h) = puV kd ht R C m S w r hh i f h) : PuN kd R C P τ := fun k hk => by
  have e := h (k / 4) (k % 4) (by omega) (by omega)
  rw [show 4 * (k / 4) + k % 4 = k by omega] at e
  unfold puV at e
  by_cases c : k / 4 < R * C ∧ kd (k / 4) ≠ 3
  · rw [if_pos c] at e
    cases hn : nk kd R C (k / 4) (k % 4) with
    | none =>
      rw [hn] at e
      exact Or.inl ⟨e, fun q z => by have z := z.2.2.2; rw [hn] at z; exact absurd z (by simp)⟩
    | some q =>
      rw [hn] at e
      exact Or.inr ⟨q, e.trans (hP _ _).1, c.1, by omega, c.2, hn⟩
  · rw [if_neg c] at e
    exact Or.inl ⟨e, fun q z => c ⟨z.1, z.2.2.1⟩⟩
