/-! PAIRS: field, ship, row where they don't throw, the law's own long cell written between the two -/
def PrV (t m1 m2 : Nat) (as : List Value) (P : St → Prop) : Prop := t < 200000 → ∀ τ, Inv t τ → P τ → Cl 900 m1 (.ref 0 :: as) τ (fun a τ1 => (∃ x : Int32, a = some (.int x)) ∧ ∀ v : Int64, Cl 900 m2 (.ref 69 :: as) (sL τ1 101 0 v) (fun b τ2 => (∃ x : Int32, a = some (.int x) ∧ b = some (.int x)) ∧ τ2.1 69 0 = 0 ∧ τ2.2 101 0 = v ∧ Inv (t + 1) τ2))
theorem okV {t : Nat} {x y : Int32} {τ : St} {v : Int64} (e : x = y) (h0 : τ.1 69 0 = 0) (h1 : τ.2 101 0 = v) (h : Inv (t + 1) τ) : (∃ z : Int32, some (Value.int x) = some (.int z) ∧ some (Value.int y) = some (.int z)) ∧ τ.1 69 0 = 0 ∧ τ.2 101 0 = v ∧ Inv (t + 1) τ := ⟨⟨y, by rw [e], rfl⟩, h0, h1, h⟩
theorem frv {τ : St} (v : Int64) : Fr [101] [(69, 0)] τ (sI (sL τ 101 0 v) 69 0 0) := by
  intro k j h1 h2
  have hk : k ≠ 101 := fun z => h1 (by rw [z]; exact List.mem_cons_self)
  have hj : ¬ (k = 69 ∧ j = 0) := fun z => h2 (by rw [z.1, z.2]; exact List.mem_cons_self)
  refine ⟨?_, ?_⟩
  · show (if k = 69 then (if j = 0 then 0 else τ.1 k j) else τ.1 k j) = τ.1 k j
    by_cases c : k = 69
    · rw [if_pos c, if_neg (fun z => hj ⟨c, z⟩)]
    · rw [if_neg c]
  · show (if k = 101 then (if j = 0 then v else τ.2 k j) else τ.2 k j) = τ.2 k j
    rw [if_neg hk]
