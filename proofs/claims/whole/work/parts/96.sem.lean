/-! RULES told: both programs work alike -/
def evC (a : Nat → Int32) : List Int32 → List Int32 → List Int32
  | [], st => st
  | c :: l, st => evC a l (stP (kdC c) (vlC a c) (jnC (c - 1000)) st)
def evM (a : Nat → Int32) : List Int32 → List Int32 → List Int32
  | [], st => st
  | c :: l, st => evM a l (stP (kdM c) (vlM a c) (jnM (c - 2000)) st)
theorem evC_app (a : Nat → Int32) : ∀ (l l' st : List Int32), evC a (l ++ l') st = evC a l' (evC a l st)
  | [], _, _ => rfl
  | c :: l, l', st => evC_app a l l' _
theorem evM_app (a : Nat → Int32) : ∀ (l l' st : List Int32), evM a (l ++ l') st = evM a l' (evM a l st)
  | [], _, _ => rfl
  | c :: l, l', st => evM_app a l l' _
theorem runC_ev {S a : Nat → Int32} : ∀ (l : List Int32) (i : Nat) (st : List Int32), (∀ j, j < l.length → S (i + j) = l.getD j 0) → runC S a l.length i st = evC a l st
  | [], _, _, _ => rfl
  | c :: l, i, st, h => by
    have h0 : S i = c := h 0 (by simp)
    show runC S a l.length (i + 1) (stP (kdC (S i)) (vlC a (S i)) (jnC (S i - 1000)) st) = _
    rw [h0]
    exact runC_ev l (i + 1) _ (fun j hj => by
      have := h (j + 1) (by rw [List.length_cons]; omega)
      rw [List.getD_cons_succ] at this
      rw [← this]; congr 1; omega)
theorem runM_ev {S a : Nat → Int32} : ∀ (l : List Int32) (i : Nat) (st : List Int32), (∀ j, j < l.length → S (i + j) = l.getD j 0) → runM S a l.length i st = evM a l st
  | [], _, _, _ => rfl
  | c :: l, i, st, h => by
    have h0 : S i = c := h 0 (by simp)
    show runM S a l.length (i + 1) (stP (kdM (S i)) (vlM a (S i)) (jnM (S i - 2000)) st) = _
    rw [h0]
    exact runM_ev l (i + 1) _ (fun j hj => by
      have := h (j + 1) (by rw [List.length_cons]; omega)
      rw [List.getD_cons_succ] at this
      rw [← this]; congr 1; omega)
def okL (kd : Int32 → Nat) : List Int32 → Nat → Prop
  | [], h => h = 1
  | c :: l, h => if kd c = 0 then okL kd l (h + 1) else if kd c = 1 then 1 ≤ h ∧ okL kd l h else 2 ≤ h ∧ okL kd l (h - 1)
theorem okR_L {kd : Int32 → Nat} {S : Nat → Int32} : ∀ (l : List Int32) (i h : Nat), (∀ j, j < l.length → S (i + j) = l.getD j 0) → okL kd l h → okR (fun i => kd (S i)) l.length i h
  | [], _, _, _, h => h
  | c :: l, i, h, hS, ok => by
    have h0 : S i = c := hS 0 (by simp)
    have hs : ∀ j, j < l.length → S (i + 1 + j) = l.getD j 0 := fun j hj => by
      have := hS (j + 1) (by rw [List.length_cons]; omega)
      rw [List.getD_cons_succ] at this
      rw [← this]; congr 1; omega
    rw [okL] at ok
    show (if kd (S i) = 0 then _ else if kd (S i) = 1 then _ else _)
    rw [h0]
    by_cases c0 : kd c = 0
    · rw [if_pos c0] at ok ⊢; exact okR_L l (i + 1) _ hs ok
    · rw [if_neg c0] at ok ⊢
      by_cases c1 : kd c = 1
      · rw [if_pos c1] at ok ⊢; exact ⟨ok.1, okR_L l (i + 1) _ hs ok.2⟩
      · rw [if_neg c1] at ok ⊢; exact ⟨ok.1, okR_L l (i + 1) _ hs ok.2⟩
theorem kdC_num {v : Nat} (h : v ≤ 999) : kdC (nI v) = 0 := by
  have hlt : nI v < 1000 := nI_lt (b := 1000) (by omega) (by omega)
  unfold kdC
  rw [if_pos (Or.inr (Or.inr (Or.inr (Or.inr (Or.inr hlt)))))]
theorem kdM_num {v : Nat} (h : v < 1005) : kdM (nI v) = 0 := by
  have hlt : nI v < 1005 := nI_lt (b := 1005) h (by omega)
  unfold kdM
  rw [if_pos hlt]
theorem lvB_op {b : Nat} (h : lvB b < 3) : b = 60 ∨ b = 61 ∨ b = 62 ∨ b = 43 ∨ b = 45 ∨ b = 42 ∨ b = 47 := by
  unfold lvB at h
  split at h
  · omega
  · split at h
    · omega
    · split at h
      · omega
      · omega
theorem ops : ∀ b, b = 60 ∨ b = 61 ∨ b = 62 ∨ b = 43 ∨ b = 45 ∨ b = 42 ∨ b = 47 → kdC (nI (1000 + b)) = 2 ∧ kdM (nI (2000 + opN b)) = 2 ∧ jnC (nI (1000 + b) - 1000) = jnM (nI (2000 + opN b) - 2000) := by
  intro b h
  rcases h with rfl | rfl | rfl | rfl | rfl | rfl | rfl <;> exact ⟨by decide, by decide, rfl⟩
theorem lts : ∀ b, isLt b → kdC (nI (1000 + b)) = 0 ∧ kdM (nI (1000 + ltN b)) = 0 ∧ ∀ a, vlC a (nI (1000 + b)) = vlM a (nI (1000 + ltN b)) := by
  intro b h
  rcases h with rfl | rfl | rfl | rfl | rfl <;> exact ⟨by decide, by decide, fun a => rfl⟩
/-- what a token does -/
def tkE (a : Nat → Int32) (t : Nat × Nat) (st : List Int32) : List Int32 := evM a (cM t) st
theorem negs (a : Nat → Int32) : ∀ (j : Nat) (st : List Int32), evM a (List.replicate j 3000) st = if j % 2 = 1 then stP 1 1126 (jnC 126) st else st
  | 0, st => rfl
  | j + 1, st => by
    have k : kdM 3000 = 1 := by decide
    rw [List.replicate_succ]
    show evM a (List.replicate j 3000) (stP (kdM 3000) (vlM a 3000) (jnM (3000 - 2000)) st) = _
    rw [k, negs a j]
    cases st with
    | nil =>
      show (if j % 2 = 1 then ([] : List Int32) else []) = (if (j + 1) % 2 = 1 then [] else [])
      split <;> split <;> rfl
    | cons y r =>
      show (if j % 2 = 1 then (- -y) :: r else (-y) :: r) = (if (j + 1) % 2 = 1 then (-y) :: r else y :: r)
      by_cases c : j % 2 = 1
      · rw [if_pos c, if_neg (by omega), Int32.neg_neg]
      · rw [if_neg c, if_pos (by omega)]
theorem tkC {a : Nat → Int32} {t : Nat × Nat} (h : okT t) (st : List Int32) : evC a (cC t) st = tkE a t st := by
  obtain ⟨x, y⟩ := t
  unfold tkE
  rcases h with ⟨rfl, h⟩ | ⟨rfl, h⟩ | ⟨rfl, h⟩ | ⟨rfl, h⟩
  · have h : y ≤ 999 := h
    show stP (kdC (nI y)) (vlC a (nI y)) _ st = stP (kdM (nI y)) (vlM a (nI y)) _ st
    rw [kdC_num h, kdM_num (by omega)]
    show vlC a (nI y) :: st = vlM a (nI y) :: st
    have n : ∀ b, 1000 ≤ b → b < 2 ^ 31 → ¬ nI y = nI b := fun b h1 h2 z => by have := (nI_eq (by omega) h2).mp z; omega
    unfold vlC vlM
    rw [if_neg (show ¬ nI y = 1119 from n 1119 (by omega) (by omega)), if_neg (show ¬ nI y = 1117 from n 1117 (by omega) (by omega)), if_neg (show ¬ nI y = 1118 from n 1118 (by omega) (by omega)), if_neg (show ¬ nI y = 1103 from n 1103 (by omega) (by omega)), if_neg (show ¬ nI y = 1104 from n 1104 (by omega) (by omega)), if_neg (show ¬ (1000 : Int32) ≤ nI y from nI_ge (b := 1000) (by omega) (by omega))]
  · obtain ⟨k1, k2, k3⟩ := lts y h
    show stP (kdC (nI (1000 + y))) (vlC a (nI (1000 + y))) _ st = stP (kdM (nI (1000 + ltN y))) (vlM a (nI (1000 + ltN y))) _ st
    rw [k1, k2, k3 a]
    rfl
  · obtain ⟨k1, k2, k3⟩ := ops y (lvB_op h)
    show stP (kdC (nI (1000 + y))) (vlC a (nI (1000 + y))) (jnC (nI (1000 + y) - 1000)) st = stP (kdM (nI (2000 + opN y))) (vlM a (nI (2000 + opN y))) (jnM (nI (2000 + opN y) - 2000)) st
    rw [k1, k2, k3]
    rfl
  · show evC a (if y % 2 = 1 then [1126] else []) st = evM a (List.replicate y 3000) st
    rw [negs]
    by_cases c : y % 2 = 1
    · rw [if_pos c, if_pos c]
      have k : kdC 1126 = 1 := by decide
      show stP (kdC 1126) (vlC a 1126) _ st = _
      rw [k]
      cases st <;> rfl
    · rw [if_neg c, if_neg c]
      rfl
theorem ev_eq (a : Nat → Int32) : ∀ (l : List (Nat × Nat)) (st : List Int32), (∀ t ∈ l, okT t) → evC a (lC l) st = evM a (lM l) st
  | [], _, _ => rfl
  | t :: l, st, h => by
    have e1 : lC (t :: l) = cC t ++ lC l := List.flatMap_cons
    have e2 : lM (t :: l) = cM t ++ lM l := List.flatMap_cons
    rw [e1, e2, evC_app, evM_app, tkC (h t (List.mem_cons_self ..))]
    exact ev_eq a l _ (fun t' h' => h t' (List.mem_cons_of_mem _ h'))
theorem okL_app {kd : Int32 → Nat} {c : Int32} {l : List Int32} {h : Nat} : (kd c = 0 → okL kd l (h + 1) → okL kd (c :: l) h) ∧ (kd c = 1 → 1 ≤ h → okL kd l h → okL kd (c :: l) h) ∧ (kd c = 2 → 2 ≤ h → okL kd l (h - 1) → okL kd (c :: l) h) := by
  refine ⟨fun k o => ?_, fun k k2 o => ?_, fun k k2 o => ?_⟩
  · rw [okL, if_pos k]; exact o
  · rw [okL, if_neg (by omega), if_pos k]; exact ⟨k2, o⟩
  · rw [okL, if_neg (by omega), if_neg (by omega)]; exact ⟨k2, o⟩
theorem okL_neg {l : List Int32} {h : Nat} (h1 : 1 ≤ h) (o : okL kdM l h) : ∀ j, okL kdM (List.replicate j 3000 ++ l) h
  | 0 => o
  | j + 1 => by
    rw [List.replicate_succ, List.cons_append]
    exact okL_app.2.1 (by decide) h1 (okL_neg h1 o j)
theorem okL_of : ∀ (l : List (Nat × Nat)) (h : Nat), (∀ t ∈ l, okT t) → htT l h = some 1 → okL kdC (lC l) h ∧ okL kdM (lM l) h
  | [], h, _, e => by cases e; exact ⟨rfl, rfl⟩
  | t :: l, h, ho, e => by
    have e1 : lC (t :: l) = cC t ++ lC l := List.flatMap_cons
    have e2 : lM (t :: l) = cM t ++ lM l := List.flatMap_cons
    have ht := ho t (List.mem_cons_self ..)
    have hl := fun t' h' => ho t' (List.mem_cons_of_mem _ h')
    rw [e1, e2]
    rw [htT] at e
    obtain ⟨x, y⟩ := t
    rcases ht with ⟨rfl, hy⟩ | ⟨rfl, hy⟩ | ⟨rfl, hy⟩ | ⟨rfl, hy⟩
    · have hy : y ≤ 999 := hy
      have e : htT l (h + 1) = some 1 := e
      have ih := okL_of l _ hl e
      exact ⟨okL_app.1 (kdC_num hy) ih.1, okL_app.1 (kdM_num (by omega)) ih.2⟩
    · have e : htT l (h + 1) = some 1 := e
      have ih := okL_of l _ hl e
      exact ⟨okL_app.1 (lts y hy).1 ih.1, okL_app.1 (lts y hy).2.1 ih.2⟩
    · have e : (if 2 ≤ h then htT l (h - 1) else none) = some 1 := e
      split at e
      · next c =>
        have ih := okL_of l _ hl e
        have o := ops y (lvB_op hy)
        exact ⟨okL_app.2.2 o.1 c ih.1, okL_app.2.2 o.2.1 c ih.2⟩
      · cases e
    · have e : (if 1 ≤ h then htT l h else none) = some 1 := e
      split at e
      · next c =>
        have ih := okL_of l _ hl e
        refine ⟨?_, okL_neg c ih.2 y⟩
        show okL kdC ((if y % 2 = 1 then [1126] else []) ++ lC l) h
        split
        · exact okL_app.2.1 (by decide) c ih.1
        · exact ih.1
      · cases e
theorem lM_ok : ∀ (l : List (Nat × Nat)), (∀ t ∈ l, okT t) → ∀ c ∈ lM l, c < 1005 ∨ 2000 ≤ c
  | [], _, c, hc => by cases hc
  | t :: l, ho, c, hc => by
    have e2 : lM (t :: l) = cM t ++ lM l := List.flatMap_cons
    rw [e2] at hc
    rcases List.mem_append.mp hc with hc | hc
    · obtain ⟨x, y⟩ := t
      rcases ho _ (List.mem_cons_self ..) with ⟨rfl, hy⟩ | ⟨rfl, hy⟩ | ⟨rfl, hy⟩ | ⟨rfl, hy⟩
      · have hy : y ≤ 999 := hy
        have hc : c ∈ [nI y] := hc
        rw [List.mem_singleton] at hc
        rw [hc]
        exact Or.inl (nI_lt (b := 1005) (by omega) (by omega))
      · have hc : c ∈ [nI (1000 + ltN y)] := hc
        rw [List.mem_singleton] at hc
        rw [hc]
        refine Or.inl (nI_lt (b := 1005) ?_ (by omega))
        unfold ltN
        split <;> (try split) <;> (try split) <;> (try split) <;> omega
      · have hc : c ∈ [nI (2000 + opN y)] := hc
        rw [List.mem_singleton] at hc
        rw [hc]
        refine Or.inr (nI_le (a := 2000) (by omega) ?_)
        have : opN y ≤ 6 := by unfold opN; split <;> (try split) <;> (try split) <;> (try split) <;> (try split) <;> (try split) <;> omega
        omega
      · have hc : c ∈ List.replicate y (3000 : Int32) := hc
        rw [(List.mem_replicate.mp hc).2]
        exact Or.inr (by decide)
    · exact lM_ok l (fun t' h' => ho t' (List.mem_cons_of_mem _ h')) c hc
/-- a rule that both hold -/
theorem RuI_of {τ : St} {l : List (Nat × Nat)} (ho : ∀ t ∈ l, okT t) (hh : l = [] ∨ htT l 0 = some 1) (n1 : (lC l).length ≤ 40) (n2 : (lM l).length ≤ 80) (h1 : τ.1 53 1 = nI (lC l).length) (h2 : τ.1 69 24 = nI (lM l).length) (s1 : ∀ j, j < (lC l).length → τ.1 54 j = (lC l).getD j 0) (s2 : ∀ j, j < (lM l).length → τ.1 80 j = (lM l).getD j 0) : RuI τ := by
  refine ⟨_, _, n1, n2, h1, h2, ?_, fun w => ?_⟩
  · rcases hh with rfl | hh
    · exact ⟨fun _ => rfl, fun _ => rfl⟩
    · have o := okL_of l 0 ho hh
      constructor
      · intro z
        rw [List.length_eq_zero_iff.mp z] at o
        exact absurd o.1 (show ¬ (0 : Nat) = 1 by decide)
      · intro z
        rw [List.length_eq_zero_iff.mp z] at o
        exact absurd o.2 (show ¬ (0 : Nat) = 1 by decide)
  · rcases hh with rfl | hh
    · exact absurd w (Nat.lt_irrefl 0)
    · have o := okL_of l 0 ho hh
      refine ⟨fun i hi => ?_, okR_L (lC l) 0 0 (fun j hj => by rw [Nat.zero_add]; exact s1 j hj) o.1, okR_L (lM l) 0 0 (fun j hj => by rw [Nat.zero_add]; exact s2 j hj) o.2, fun a => ?_⟩
      · rw [s2 i hi]
        refine lM_ok l ho _ ?_
        rw [List.getD_eq_getElem?_getD, List.getElem?_eq_getElem hi]
        exact List.getElem_mem hi
      · rw [runC_ev (lC l) 0 [] (fun j hj => by rw [Nat.zero_add]; exact s1 j hj), runM_ev (lM l) 0 [] (fun j hj => by rw [Nat.zero_add]; exact s2 j hj)]
        exact ev_eq a l [] ho
