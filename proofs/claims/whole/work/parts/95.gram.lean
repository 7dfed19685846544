/-! RULES told: tokens, what both make of them -/
abbrev isLt (b : Nat) : Prop := b = 119 ∨ b = 117 ∨ b = 118 ∨ b = 103 ∨ b = 104
def ltN (b : Nat) : Nat := if b = 119 then 0 else if b = 117 then 1 else if b = 118 then 2 else if b = 103 then 3 else 4
def lvB (b : Nat) : Nat := if b = 60 ∨ b = 61 ∨ b = 62 then 0 else if b = 43 ∨ b = 45 then 1 else if b = 42 ∨ b = 47 then 2 else 3
def opN (b : Nat) : Nat := if b = 60 then 0 else if b = 62 then 1 else if b = 61 then 2 else if b = 43 then 3 else if b = 45 then 4 else if b = 42 then 5 else 6
def sgN (g : Nat → Nat) (m : Nat) : Nat → Nat → Nat
  | 0, _ => 0
  | f + 1, p => if p < m ∧ g p = 45 then sgN g m f (p + 1) + 1 else 0
def sgT (j : Nat) : List (Nat × Nat) := if j = 0 then [] else [(3, j)]
/-- what is told at p: modes 0, 1, 2 things joined by signs of a level, 3 a thing with signs ahead, 4, 5, 6 the signs of a level behind a thing, 7 a thing; k brackets are open -/
def pR (g : Nat → Nat) (m : Nat) : Nat → Nat → Nat → Nat → Option (List (Nat × Nat)) × Nat
  | 0, _, _, p => (none, p)
  | f + 1, mode, k, p =>
    if mode < 3 then
      match pR g m f (mode + 1) k p with
      | (none, q) => (none, q)
      | (some l, q) => match pR g m f (mode + 4) k q with
        | (none, q') => (none, q')
        | (some l', q') => (some (l ++ l'), q')
    else if mode = 3 then
      match pR g m f 7 k (p + sgN g m 41 p) with
      | (none, q) => (none, q)
      | (some l, q) => (some (l ++ sgT (sgN g m 41 p)), q)
    else if mode < 7 then
      if p < m ∧ lvB (g p) = mode - 4 then
        match pR g m f (mode - 3) k (p + 1) with
        | (none, q) => (none, q)
        | (some l, q) => if mode = 4 then (some (l ++ [(2, g p)]), q) else match pR g m f mode k q with
          | (none, q') => (none, q')
          | (some l', q') => (some (l ++ (2, g p) :: l'), q')
      else (some [], p)
    else
      if isDg g m p then (some [(0, (nm g m 3 p 0).1)], (nm g m 3 p 0).2)
      else if p < m ∧ isLt (g p) then (some [(1, g p)], p + 1)
      else if p < m ∧ g p = 40 ∧ k < 4 then
        match pR g m f 0 (k + 1) (p + 1) with
        | (none, q) => (none, q)
        | (some l, q) => if q < m ∧ g q = 41 then (some l, q + 1) else (none, q)
      else (none, p)
def cC (t : Nat × Nat) : List Int32 := if t.1 = 0 then [nI t.2] else if t.1 = 3 then (if t.2 % 2 = 1 then [1126] else []) else [nI (1000 + t.2)]
def cM (t : Nat × Nat) : List Int32 := if t.1 = 0 then [nI t.2] else if t.1 = 1 then [nI (1000 + ltN t.2)] else if t.1 = 2 then [nI (2000 + opN t.2)] else List.replicate t.2 3000
def lC (l : List (Nat × Nat)) : List Int32 := l.flatMap cC
def lM (l : List (Nat × Nat)) : List Int32 := l.flatMap cM
theorem lC_app (l l' : List (Nat × Nat)) : lC (l ++ l') = lC l ++ lC l' := List.flatMap_append
theorem lM_app (l l' : List (Nat × Nat)) : lM (l ++ l') = lM l ++ lM l' := List.flatMap_append
def okT (t : Nat × Nat) : Prop := (t.1 = 0 ∧ t.2 ≤ 999) ∨ (t.1 = 1 ∧ isLt t.2) ∨ (t.1 = 2 ∧ lvB t.2 < 3) ∨ (t.1 = 3 ∧ 1 ≤ t.2)
def htT : List (Nat × Nat) → Nat → Option Nat
  | [], h => some h
  | t :: l, h => if t.1 ≤ 1 then htT l (h + 1) else if t.1 = 2 then (if 2 ≤ h then htT l (h - 1) else none) else (if 1 ≤ h then htT l h else none)
theorem ht_app : ∀ (l l' : List (Nat × Nat)) (h h' : Nat), htT l h = some h' → htT (l ++ l') h = htT l' h'
  | [], l', h, h', e => by cases e; rfl
  | t :: l, l', h, h', e => by
    rw [List.cons_append]
    rw [htT] at e ⊢
    by_cases c : t.1 ≤ 1
    · rw [if_pos c] at e ⊢; exact ht_app l l' _ _ e
    · rw [if_neg c] at e ⊢
      by_cases c2 : t.1 = 2
      · rw [if_pos c2] at e ⊢
        by_cases c3 : 2 ≤ h
        · rw [if_pos c3] at e ⊢; exact ht_app l l' _ _ e
        · rw [if_neg c3] at e; cases e
      · rw [if_neg c2] at e ⊢
        by_cases c3 : 1 ≤ h
        · rw [if_pos c3] at e ⊢; exact ht_app l l' _ _ e
        · rw [if_neg c3] at e; cases e
theorem sg_le {g : Nat → Nat} {m : Nat} : ∀ (f p : Nat), p ≤ m → p + sgN g m f p ≤ m ∧ sgN g m f p ≤ f
  | 0, p, h => ⟨h, Nat.le_refl _⟩
  | f + 1, p, h => by
    rw [sgN]
    split
    · next c => have := sg_le (g := g) f (p + 1) c.1; omega
    · omega
theorem nm_3 {g : Nat → Nat} {m p : Nat} (h : isDg g m p) : p + 1 ≤ (nm g m 3 p 0).2 ∧ (nm g m 3 p 0).2 ≤ m ∧ (nm g m 3 p 0).1 ≤ 999 := by
  have a := nm_le (g := g) (m := m) 3 p 0 (Nat.le_of_lt h.1)
  have b := nm_le (g := g) (m := m) 2 (p + 1) (10 * 0 + (g p - 48)) h.1
  have e : nm g m 3 p 0 = nm g m 2 (p + 1) (10 * 0 + (g p - 48)) := nm_y h
  rw [← e] at b
  omega
/-- what is told keeps to what a machine with a stack needs -/
theorem pR_ok {g : Nat → Nat} {m : Nat} : ∀ (f mode k p : Nat) (x : Option (List (Nat × Nat))) (q : Nat), mode ≤ 7 → p ≤ m → pR g m f mode k p = (x, q) → (p ≤ q ∧ q ≤ m) ∧ ∀ l, x = some l → ((lC l).length ≤ q - p ∧ (lM l).length ≤ q - p) ∧ (∀ t ∈ l, okT t) ∧ ((mode < 4 ∨ mode = 7) → p < q ∧ ∀ h, htT l h = some (h + 1)) ∧ ((4 ≤ mode ∧ mode < 7) → ∀ h, 1 ≤ h → htT l h = some h)
  | 0, mode, k, p, x, q, _, hp, h => by
    rw [pR] at h
    cases h
    exact ⟨⟨Nat.le_refl _, hp⟩, fun l w => by cases w⟩
  | f + 1, mode, k, p, x, q, hm7, hp, h => by
    rw [pR] at h
    by_cases c3 : mode < 3
    · rw [if_pos c3] at h
      rcases h1 : pR g m f (mode + 1) k p with ⟨x1, q1⟩
      have i1 := pR_ok f (mode + 1) k p x1 q1 (by omega) hp h1
      rw [h1] at h
      cases x1 with
      | none => cases h; exact ⟨i1.1, fun l w => by cases w⟩
      | some l =>
        have j1 := i1.2 l rfl
        rcases h2 : pR g m f (mode + 4) k q1 with ⟨x2, q2⟩
        have i2 := pR_ok f (mode + 4) k q1 x2 q2 (by omega) i1.1.2 h2
        have h : (match pR g m f (mode + 4) k q1 with
          | (none, q') => (none, q')
          | (some l', q') => (some (l ++ l'), q')) = (x, q) := h
        rw [h2] at h
        cases x2 with
        | none => cases h; exact ⟨⟨by omega, i2.1.2⟩, fun l w => by cases w⟩
        | some l' =>
          have j2 := i2.2 l' rfl
          cases h
          refine ⟨⟨by omega, i2.1.2⟩, fun l2 w => ?_⟩
          cases w
          rw [lC_app, lM_app, List.length_append, List.length_append]
          have t1 := j1.2.2.1 (Or.inl (by omega))
          refine ⟨⟨by omega, by omega⟩, fun t ht => ?_, fun _ => ⟨by omega, fun h => ?_⟩, fun z => by omega⟩
          · rcases List.mem_append.mp ht with ht | ht
            · exact j1.2.1 t ht
            · exact j2.2.1 t ht
          · rw [ht_app l l' h _ (t1.2 h)]
            exact j2.2.2.2 ⟨by omega, by omega⟩ (h + 1) (by omega)
    rw [if_neg c3] at h
    by_cases c4 : mode = 3
    · rw [if_pos c4] at h
      have sg := sg_le (g := g) 41 p hp
      generalize hj : sgN g m 41 p = j at h sg
      rcases h1 : pR g m f 7 k (p + j) with ⟨x1, q1⟩
      have i1 := pR_ok f 7 k (p + j) x1 q1 (by omega) sg.1 h1
      rw [h1] at h
      cases x1 with
      | none => cases h; exact ⟨⟨by omega, i1.1.2⟩, fun l w => by cases w⟩
      | some l =>
        have j1 := i1.2 l rfl
        have t1 := j1.2.2.1 (Or.inr rfl)
        cases h
        refine ⟨⟨by omega, i1.1.2⟩, fun l2 w => ?_⟩
        cases w
        unfold sgT
        by_cases z : j = 0
        · rw [if_pos z, List.append_nil]
          exact ⟨⟨by omega, by omega⟩, j1.2.1, fun _ => ⟨by omega, t1.2⟩, fun z => by omega⟩
        · rw [if_neg z, lC_app, lM_app, List.length_append, List.length_append]
          have lc : (lC [(3, j)]).length ≤ 1 := by
            show ((if j % 2 = 1 then [(1126 : Int32)] else []) ++ []).length ≤ 1
            split <;> simp
          have lm : (lM [(3, j)]).length = j := by
            show (List.replicate j (3000 : Int32) ++ []).length = j
            simp
          refine ⟨⟨by omega, by omega⟩, fun t ht => ?_, fun _ => ⟨by omega, fun h => ?_⟩, fun z => by omega⟩
          · rcases List.mem_append.mp ht with ht | ht
            · exact j1.2.1 t ht
            · rw [List.mem_singleton] at ht
              subst ht
              exact Or.inr (Or.inr (Or.inr ⟨rfl, by show 1 ≤ j; omega⟩))
          · rw [ht_app l _ h _ (t1.2 h)]
            show (if (3 : Nat) ≤ 1 then _ else if (3 : Nat) = 2 then _ else (if 1 ≤ h + 1 then htT [] (h + 1) else none)) = _
            rw [if_neg (by decide), if_neg (by decide), if_pos (by omega)]
            rfl
    rw [if_neg c4] at h
    by_cases c7 : mode < 7
    · rw [if_pos c7] at h
      by_cases co : p < m ∧ lvB (g p) = mode - 4
      · rw [if_pos co] at h
        rcases h1 : pR g m f (mode - 3) k (p + 1) with ⟨x1, q1⟩
        have i1 := pR_ok f (mode - 3) k (p + 1) x1 q1 (by omega) co.1 h1
        rw [h1] at h
        cases x1 with
        | none => cases h; exact ⟨⟨by omega, i1.1.2⟩, fun l w => by cases w⟩
        | some l =>
          have j1 := i1.2 l rfl
          have t1 := j1.2.2.1 (Or.inl (by omega))
          have ot : okT (2, g p) := Or.inr (Or.inr (Or.inl ⟨rfl, by show lvB (g p) < 3; omega⟩))
          have h : (if mode = 4 then (some (l ++ [(2, g p)]), q1) else match pR g m f mode k q1 with
            | (none, q') => (none, q')
            | (some l', q') => (some (l ++ (2, g p) :: l'), q')) = (x, q) := h
          have step : ∀ (l' : List (Nat × Nat)) (h : Nat), 1 ≤ h → htT (l ++ (2, g p) :: l') h = htT l' h := fun l' h hh => by
            rw [ht_app l _ h _ (t1.2 h), htT, if_neg (show ¬ (2 : Nat) ≤ 1 by decide), if_pos rfl, if_pos (by omega)]
            rfl
          by_cases c44 : mode = 4
          · rw [if_pos c44] at h
            cases h
            refine ⟨⟨by omega, i1.1.2⟩, fun l2 w => ?_⟩
            cases w
            rw [lC_app, lM_app, List.length_append, List.length_append]
            have e1 : (lC [(2, g p)]).length = 1 := rfl
            have e2 : (lM [(2, g p)]).length = 1 := rfl
            refine ⟨⟨by omega, by omega⟩, fun t ht => ?_, fun z => by omega, fun _ h hh => by rw [step [] h hh]; rfl⟩
            rcases List.mem_append.mp ht with ht | ht
            · exact j1.2.1 t ht
            · rw [List.mem_singleton] at ht; subst ht; exact ot
          · rw [if_neg c44] at h
            rcases h2 : pR g m f mode k q1 with ⟨x2, q2⟩
            have i2 := pR_ok f mode k q1 x2 q2 hm7 i1.1.2 h2
            rw [h2] at h
            cases x2 with
            | none => cases h; exact ⟨⟨by omega, i2.1.2⟩, fun l w => by cases w⟩
            | some l' =>
              have j2 := i2.2 l' rfl
              cases h
              refine ⟨⟨by omega, i2.1.2⟩, fun l2 w => ?_⟩
              cases w
              rw [lC_app, lM_app, List.length_append, List.length_append]
              have e1 : (lC ((2, g p) :: l')).length = 1 + (lC l').length := by
                show ([nI (1000 + g p)] ++ lC l').length = _
                rw [List.length_append]; rfl
              have e2 : (lM ((2, g p) :: l')).length = 1 + (lM l').length := by
                show ([nI (2000 + opN (g p))] ++ lM l').length = _
                rw [List.length_append]; rfl
              refine ⟨⟨by omega, by omega⟩, fun t ht => ?_, fun z => by omega, fun z h hh => by rw [step l' h hh]; exact j2.2.2.2 z h hh⟩
              rcases List.mem_append.mp ht with ht | ht
              · exact j1.2.1 t ht
              · rcases List.mem_cons.mp ht with ht | ht
                · rw [ht]; exact ot
                · exact j2.2.1 t ht
      · rw [if_neg co] at h
        cases h
        refine ⟨⟨Nat.le_refl _, hp⟩, fun l w => ?_⟩
        cases w
        exact ⟨⟨Nat.zero_le _, Nat.zero_le _⟩, fun t hm => by simp at hm, fun z => by omega, fun _ h _ => rfl⟩
    · rw [if_neg c7] at h
      by_cases cd : isDg g m p
      · rw [if_pos cd] at h
        have n3 := nm_3 cd
        cases h
        refine ⟨⟨by omega, n3.2.1⟩, fun l w => ?_⟩
        cases w
        have e1 : (lC [(0, (nm g m 3 p 0).1)]).length = 1 := rfl
        have e2 : (lM [(0, (nm g m 3 p 0).1)]).length = 1 := rfl
        exact ⟨⟨by omega, by omega⟩, fun t ht => by rw [List.mem_singleton] at ht; subst ht; exact Or.inl ⟨rfl, n3.2.2⟩, fun _ => ⟨by omega, fun h => rfl⟩, fun z => by omega⟩
      · rw [if_neg cd] at h
        by_cases cl : p < m ∧ isLt (g p)
        · rw [if_pos cl] at h
          cases h
          refine ⟨⟨by omega, cl.1⟩, fun l w => ?_⟩
          cases w
          have e1 : (lC [(1, g p)]).length = 1 := rfl
          have e2 : (lM [(1, g p)]).length = 1 := rfl
          exact ⟨⟨by omega, by omega⟩, fun t ht => by rw [List.mem_singleton] at ht; subst ht; exact Or.inr (Or.inl ⟨rfl, cl.2⟩), fun _ => ⟨by omega, fun h => rfl⟩, fun z => by omega⟩
        · rw [if_neg cl] at h
          by_cases cb : p < m ∧ g p = 40 ∧ k < 4
          · rw [if_pos cb] at h
            rcases h1 : pR g m f 0 (k + 1) (p + 1) with ⟨x1, q1⟩
            have i1 := pR_ok f 0 (k + 1) (p + 1) x1 q1 (by omega) cb.1 h1
            rw [h1] at h
            cases x1 with
            | none => cases h; exact ⟨⟨by omega, i1.1.2⟩, fun l w => by cases w⟩
            | some l =>
              have j1 := i1.2 l rfl
              have t1 := j1.2.2.1 (Or.inl (by omega))
              have h : (if q1 < m ∧ g q1 = 41 then (some l, q1 + 1) else (none, q1)) = (x, q) := h
              by_cases ce : q1 < m ∧ g q1 = 41
              · rw [if_pos ce] at h
                cases h
                refine ⟨⟨by omega, ce.1⟩, fun l2 w => ?_⟩
                cases w
                exact ⟨⟨by omega, by omega⟩, j1.2.1, fun _ => ⟨by omega, t1.2⟩, fun z => by omega⟩
              · rw [if_neg ce] at h
                cases h
                exact ⟨⟨by omega, i1.1.2⟩, fun l w => by cases w⟩
          · rw [if_neg cb] at h
            cases h
            exact ⟨⟨Nat.le_refl _, hp⟩, fun l w => by cases w⟩
