/-! FACTS of the cells, as rules of rewriting; reading a changed state; the frame of a change -/
theorem fIsA : isA 11 0 ∧ isA 6 1 ∧ isA 13 2 ∧ isA 4 3 ∧ isA 15 4 ∧ isA 0 5 ∧ isA 14 6 ∧ isA 14 7 ∧ isA 14 8 ∧ isA 1 9 ∧ isA 14 10 ∧ isA 1 11 ∧ isA 14 12 ∧ isA 2 13 ∧ isA 17 14 ∧ isA 1 15 ∧ isA 14 16 ∧ isA 1 17 ∧ isA 14 18 ∧ isA 1 19 ∧ isA 14 20 ∧ isA 1 21 ∧ isA 14 22 ∧ isA 1 23 ∧ isA 14 24 ∧ isA 1 25 ∧ isA 14 26 ∧ isA 1 27 ∧ isA 14 28 ∧ isA 1 29 ∧ isA 14 30 ∧ isA 1 31 ∧ isA 14 32 ∧ isA 1 33 ∧ isA 14 34 ∧ isA 1 35 ∧ isA 14 36 ∧ isA 1 37 ∧ isA 14 38 ∧ isA 1 39 ∧ isA 14 40 ∧ isA 1 41 ∧ isA 14 42 ∧ isA 1 43 ∧ isA 14 44 ∧ isA 17 45 ∧ isA 1 46 ∧ isA 14 47 ∧ isA 1 48 ∧ isA 14 49 ∧ isA 1 50 ∧ isA 14 51 ∧ isA 14 52 ∧ isA 5 53 ∧ isA 14 54 ∧ isA 14 55 ∧ isA 5 56 ∧ isA 14 57 ∧ isA 14 58 ∧ isA 10 59 ∧ isA 3 60 ∧ isA 14 61 ∧ isA 14 62 ∧ isA 8 63 ∧ isA 9 64 ∧ isA 14 65 ∧ isA 7 66 ∧ isA 14 67 ∧ isA 14 68 ∧ isA 12 69 ∧ isA 15 70 ∧ isA 14 71 ∧ isA 14 72 ∧ isA 14 73 ∧ isA 14 74 ∧ isA 14 75 ∧ isA 14 76 ∧ isA 14 77 ∧ isA 14 78 ∧ isA 14 79 ∧ isA 14 80 ∧ isA 14 81 ∧ isA 14 82 ∧ isA 14 83 ∧ isA 14 84 ∧ isA 14 85 ∧ isA 14 86 ∧ isA 14 87 ∧ isA 14 88 ∧ isA 14 89 ∧ isA 14 90 ∧ isA 14 91 ∧ isA 14 92 ∧ isA 14 93 ∧ isA 14 94 ∧ isA 14 95 ∧ isA 14 96 ∧ isA 14 97 ∧ isA 16 98 ∧ isA 14 99 ∧ isA 14 100 ∧ isA 15 101 := ⟨⟨Nat.le_of_ble_eq_true rfl, rfl⟩, ⟨Nat.le_of_ble_eq_true rfl, rfl⟩, ⟨Nat.le_of_ble_eq_true rfl, rfl⟩, ⟨Nat.le_of_ble_eq_true rfl, rfl⟩, ⟨Nat.le_of_ble_eq_true rfl, rfl⟩, ⟨Nat.le_of_ble_eq_true rfl, rfl⟩, ⟨Nat.le_of_ble_eq_true rfl, rfl⟩, ⟨Nat.le_of_ble_eq_true rfl, rfl⟩, ⟨Nat.le_of_ble_eq_true rfl, rfl⟩, ⟨Nat.le_of_ble_eq_true rfl, rfl⟩, ⟨Nat.le_of_ble_eq_true rfl, rfl⟩, ⟨Nat.le_of_ble_eq_true rfl, rfl⟩, ⟨Nat.le_of_ble_eq_true rfl, rfl⟩, ⟨Nat.le_of_ble_eq_true rfl, rfl⟩, ⟨Nat.le_of_ble_eq_true rfl, rfl⟩, ⟨Nat.le_of_ble_eq_true rfl, rfl⟩, ⟨Nat.le_of_ble_eq_true rfl, rfl⟩, ⟨Nat.le_of_ble_eq_true rfl, rfl⟩, ⟨Nat.le_of_ble_eq_true rfl, rfl⟩, ⟨Nat.le_of_ble_eq_true rfl, rfl⟩, ⟨Nat.le_of_ble_eq_true rfl, rfl⟩, ⟨Nat.le_of_ble_eq_true rfl, rfl⟩, ⟨Nat.le_of_ble_eq_true rfl, rfl⟩, ⟨Nat.le_of_ble_eq_true rfl, rfl⟩, ⟨Nat.le_of_ble_eq_true rfl, rfl⟩, ⟨Nat.le_of_ble_eq_true rfl, rfl⟩, ⟨Nat.le_of_ble_eq_true rfl, rfl⟩, ⟨Nat.le_of_ble_eq_true rfl, rfl⟩, ⟨Nat.le_of_ble_eq_true rfl, rfl⟩, ⟨Nat.le_of_ble_eq_true rfl, rfl⟩, ⟨Nat.le_of_ble_eq_true rfl, rfl⟩, ⟨Nat.le_of_ble_eq_true rfl, rfl⟩, ⟨Nat.le_of_ble_eq_true rfl, rfl⟩, ⟨Nat.le_of_ble_eq_true rfl, rfl⟩, ⟨Nat.le_of_ble_eq_true rfl, rfl⟩, ⟨Nat.le_of_ble_eq_true rfl, rfl⟩, ⟨Nat.le_of_ble_eq_true rfl, rfl⟩, ⟨Nat.le_of_ble_eq_true rfl, rfl⟩, ⟨Nat.le_of_ble_eq_true rfl, rfl⟩, ⟨Nat.le_of_ble_eq_true rfl, rfl⟩, ⟨Nat.le_of_ble_eq_true rfl, rfl⟩, ⟨Nat.le_of_ble_eq_true rfl, rfl⟩, ⟨Nat.le_of_ble_eq_true rfl, rfl⟩, ⟨Nat.le_of_ble_eq_true rfl, rfl⟩, ⟨Nat.le_of_ble_eq_true rfl, rfl⟩, ⟨Nat.le_of_ble_eq_true rfl, rfl⟩, ⟨Nat.le_of_ble_eq_true rfl, rfl⟩, ⟨Nat.le_of_ble_eq_true rfl, rfl⟩, ⟨Nat.le_of_ble_eq_true rfl, rfl⟩, ⟨Nat.le_of_ble_eq_true rfl, rfl⟩, ⟨Nat.le_of_ble_eq_true rfl, rfl⟩, ⟨Nat.le_of_ble_eq_true rfl, rfl⟩, ⟨Nat.le_of_ble_eq_true rfl, rfl⟩, ⟨Nat.le_of_ble_eq_true rfl, rfl⟩, ⟨Nat.le_of_ble_eq_true rfl, rfl⟩, ⟨Nat.le_of_ble_eq_true rfl, rfl⟩, ⟨Nat.le_of_ble_eq_true rfl, rfl⟩, ⟨Nat.le_of_ble_eq_true rfl, rfl⟩, ⟨Nat.le_of_ble_eq_true rfl, rfl⟩, ⟨Nat.le_of_ble_eq_true rfl, rfl⟩, ⟨Nat.le_of_ble_eq_true rfl, rfl⟩, ⟨Nat.le_of_ble_eq_true rfl, rfl⟩, ⟨Nat.le_of_ble_eq_true rfl, rfl⟩, ⟨Nat.le_of_ble_eq_true rfl, rfl⟩, ⟨Nat.le_of_ble_eq_true rfl, rfl⟩, ⟨Nat.le_of_ble_eq_true rfl, rfl⟩, ⟨Nat.le_of_ble_eq_true rfl, rfl⟩, ⟨Nat.le_of_ble_eq_true rfl, rfl⟩, ⟨Nat.le_of_ble_eq_true rfl, rfl⟩, ⟨Nat.le_of_ble_eq_true rfl, rfl⟩, ⟨Nat.le_of_ble_eq_true rfl, rfl⟩, ⟨Nat.le_of_ble_eq_true rfl, rfl⟩, ⟨Nat.le_of_ble_eq_true rfl, rfl⟩, ⟨Nat.le_of_ble_eq_true rfl, rfl⟩, ⟨Nat.le_of_ble_eq_true rfl, rfl⟩, ⟨Nat.le_of_ble_eq_true rfl, rfl⟩, ⟨Nat.le_of_ble_eq_true rfl, rfl⟩, ⟨Nat.le_of_ble_eq_true rfl, rfl⟩, ⟨Nat.le_of_ble_eq_true rfl, rfl⟩, ⟨Nat.le_of_ble_eq_true rfl, rfl⟩, ⟨Nat.le_of_ble_eq_true rfl, rfl⟩, ⟨Nat.le_of_ble_eq_true rfl, rfl⟩, ⟨Nat.le_of_ble_eq_true rfl, rfl⟩, ⟨Nat.le_of_ble_eq_true rfl, rfl⟩, ⟨Nat.le_of_ble_eq_true rfl, rfl⟩, ⟨Nat.le_of_ble_eq_true rfl, rfl⟩, ⟨Nat.le_of_ble_eq_true rfl, rfl⟩, ⟨Nat.le_of_ble_eq_true rfl, rfl⟩, ⟨Nat.le_of_ble_eq_true rfl, rfl⟩, ⟨Nat.le_of_ble_eq_true rfl, rfl⟩, ⟨Nat.le_of_ble_eq_true rfl, rfl⟩, ⟨Nat.le_of_ble_eq_true rfl, rfl⟩, ⟨Nat.le_of_ble_eq_true rfl, rfl⟩, ⟨Nat.le_of_ble_eq_true rfl, rfl⟩, ⟨Nat.le_of_ble_eq_true rfl, rfl⟩, ⟨Nat.le_of_ble_eq_true rfl, rfl⟩, ⟨Nat.le_of_ble_eq_true rfl, rfl⟩, ⟨Nat.le_of_ble_eq_true rfl, rfl⟩, ⟨Nat.le_of_ble_eq_true rfl, rfl⟩, ⟨Nat.le_of_ble_eq_true rfl, rfl⟩, ⟨Nat.le_of_ble_eq_true rfl, rfl⟩, ⟨Nat.le_of_ble_eq_true rfl, rfl⟩⟩
theorem fRt : rtab 0 0 = 1 ∧ rtab 0 1 = 3 ∧ rtab 0 2 = 5 ∧ rtab 0 3 = 9 ∧ rtab 0 4 = 11 ∧ rtab 0 5 = 13 ∧ rtab 0 6 = 45 ∧ rtab 0 7 = 52 ∧ rtab 0 10 = 53 ∧ rtab 0 11 = 56 ∧ rtab 0 12 = 59 ∧ rtab 0 13 = 63 ∧ rtab 0 14 = 64 ∧ rtab 0 15 = 66 ∧ rtab 1 0 = 2 ∧ rtab 3 0 = 4 ∧ rtab 5 3 = 6 ∧ rtab 5 4 = 7 ∧ rtab 5 5 = 8 ∧ rtab 9 0 = 10 ∧ rtab 11 0 = 12 ∧ rtab 13 0 = 14 ∧ rtab 15 0 = 16 ∧ rtab 17 0 = 18 ∧ rtab 19 0 = 20 ∧ rtab 21 0 = 22 ∧ rtab 23 0 = 24 ∧ rtab 25 0 = 26 ∧ rtab 27 0 = 28 ∧ rtab 29 0 = 30 ∧ rtab 31 0 = 32 ∧ rtab 33 0 = 34 ∧ rtab 35 0 = 36 ∧ rtab 37 0 = 38 ∧ rtab 39 0 = 40 ∧ rtab 41 0 = 42 ∧ rtab 43 0 = 44 ∧ rtab 46 0 = 47 ∧ rtab 48 0 = 49 ∧ rtab 50 0 = 51 ∧ rtab 53 0 = 54 ∧ rtab 53 2 = 55 ∧ rtab 56 0 = 57 ∧ rtab 56 2 = 58 ∧ rtab 59 0 = 5 ∧ rtab 59 1 = 60 ∧ rtab 59 5 = 62 ∧ rtab 60 0 = 61 ∧ rtab 64 0 = 65 ∧ rtab 66 0 = 67 ∧ rtab 66 1 = 68 ∧ rtab 69 2 = 70 ∧ rtab 69 7 = 71 ∧ rtab 69 8 = 72 ∧ rtab 69 9 = 73 ∧ rtab 69 10 = 74 ∧ rtab 69 11 = 75 ∧ rtab 69 12 = 76 ∧ rtab 69 13 = 77 ∧ rtab 69 18 = 78 ∧ rtab 69 20 = 79 ∧ rtab 69 22 = 80 ∧ rtab 69 23 = 81 ∧ rtab 69 26 = 82 ∧ rtab 69 27 = 83 ∧ rtab 69 29 = 84 ∧ rtab 69 30 = 85 ∧ rtab 69 31 = 86 ∧ rtab 69 32 = 87 ∧ rtab 69 34 = 88 ∧ rtab 69 35 = 89 ∧ rtab 69 36 = 90 ∧ rtab 69 40 = 91 ∧ rtab 69 42 = 92 ∧ rtab 69 43 = 93 ∧ rtab 69 44 = 94 ∧ rtab 69 46 = 95 ∧ rtab 69 47 = 96 ∧ rtab 69 48 = 97 ∧ rtab 69 50 = 98 ∧ rtab 69 51 = 99 ∧ rtab 69 52 = 100 := ⟨rfl, rfl, rfl, rfl, rfl, rfl, rfl, rfl, rfl, rfl, rfl, rfl, rfl, rfl, rfl, rfl, rfl, rfl, rfl, rfl, rfl, rfl, rfl, rfl, rfl, rfl, rfl, rfl, rfl, rfl, rfl, rfl, rfl, rfl, rfl, rfl, rfl, rfl, rfl, rfl, rfl, rfl, rfl, rfl, rfl, rfl, rfl, rfl, rfl, rfl, rfl, rfl, rfl, rfl, rfl, rfl, rfl, rfl, rfl, rfl, rfl, rfl, rfl, rfl, rfl, rfl, rfl, rfl, rfl, rfl, rfl, rfl, rfl, rfl, rfl, rfl, rfl, rfl, rfl, rfl, rfl, rfl⟩
theorem fLen : len 2 = 80 ∧ len 4 = 36 ∧ len 6 = 36 ∧ len 7 = 36 ∧ len 8 = 144 ∧ len 10 = 8 ∧ len 12 = 8 ∧ len 14 = 15 ∧ len 16 = 8 ∧ len 18 = 8 ∧ len 20 = 8 ∧ len 22 = 8 ∧ len 24 = 8 ∧ len 26 = 8 ∧ len 28 = 8 ∧ len 30 = 8 ∧ len 32 = 8 ∧ len 34 = 8 ∧ len 36 = 8 ∧ len 38 = 8 ∧ len 40 = 8 ∧ len 42 = 8 ∧ len 44 = 8 ∧ len 45 = 3 ∧ len 47 = 8 ∧ len 49 = 8 ∧ len 51 = 8 ∧ len 52 = 8 ∧ len 54 = 40 ∧ len 55 = 40 ∧ len 57 = 40 ∧ len 58 = 40 ∧ len 61 = 380 ∧ len 62 = 36 ∧ len 65 = 4 ∧ len 67 = 61 ∧ len 68 = 61 ∧ len 70 = 48 ∧ len 71 = 36 ∧ len 72 = 36 ∧ len 73 = 8 ∧ len 74 = 2 ∧ len 75 = 50 ∧ len 76 = 50 ∧ len 77 = 80 ∧ len 78 = 36 ∧ len 79 = 16 ∧ len 80 = 80 ∧ len 81 = 80 ∧ len 82 = 80 ∧ len 83 = 5 ∧ len 84 = 800 ∧ len 85 = 60 ∧ len 86 = 60 ∧ len 87 = 60 ∧ len 88 = 36 ∧ len 89 = 36 ∧ len 90 = 144 ∧ len 91 = 4 ∧ len 92 = 1281 ∧ len 93 = 1281 ∧ len 94 = 1281 ∧ len 95 = 12 ∧ len 96 = 12 ∧ len 97 = 80 ∧ len 98 = 3 ∧ len 99 = 3 ∧ len 100 = 150 ∧ len 101 = 1 := ⟨rfl, rfl, rfl, rfl, rfl, rfl, rfl, rfl, rfl, rfl, rfl, rfl, rfl, rfl, rfl, rfl, rfl, rfl, rfl, rfl, rfl, rfl, rfl, rfl, rfl, rfl, rfl, rfl, rfl, rfl, rfl, rfl, rfl, rfl, rfl, rfl, rfl, rfl, rfl, rfl, rfl, rfl, rfl, rfl, rfl, rfl, rfl, rfl, rfl, rfl, rfl, rfl, rfl, rfl, rfl, rfl, rfl, rfl, rfl, rfl, rfl, rfl, rfl, rfl, rfl, rfl, rfl, rfl, rfl⟩
theorem mrf14 (i : Nat) : mrf 14 i = 15 + 2 * i := rfl
theorem mrf45 (i : Nat) : mrf 45 i = 46 + 2 * i := rfl
theorem sI_1 {τ : St} {k j : Nat} {v : Int32} (a b : Nat) : (sI τ k j v).1 a b = if a = k then (if b = j then v else τ.1 a b) else τ.1 a b := rfl
theorem sI_2 {τ : St} {k j : Nat} {v : Int32} : (sI τ k j v).2 = τ.2 := rfl
theorem sL_1 {τ : St} {k j : Nat} {v : Int64} : (sL τ k j v).1 = τ.1 := rfl
theorem sL_2 {τ : St} {k j : Nat} {v : Int64} (a b : Nat) : (sL τ k j v).2 a b = if a = k then (if b = j then v else τ.2 a b) else τ.2 a b := rfl
theorem sA_1 {τ : St} {k : Nat} {f : Nat → Int32} (a b : Nat) : (sA τ k f).1 a b = if a = k then f b else τ.1 a b := rfl
theorem sA_2 {τ : St} {k : Nat} {f : Nat → Int32} : (sA τ k f).2 = τ.2 := rfl
/-- a change of the cells cs and of the fields fs alone -/
def Fr (cs : List Nat) (fs : List (Nat × Nat)) (τ τ' : St) : Prop := ∀ k j, k ∉ cs → (k, j) ∉ fs → τ'.1 k j = τ.1 k j ∧ τ'.2 k j = τ.2 k j
section FR
variable {cs cs' : List Nat} {fs fs' : List (Nat × Nat)} {τ τ' τ'' : St}
theorem Fr.rf : Fr cs fs τ τ := fun _ _ _ _ => ⟨rfl, rfl⟩
theorem Fr.tr (h : Fr cs fs τ τ') (h' : Fr cs fs τ' τ'') : Fr cs fs τ τ'' := fun k j a b => ⟨((h' k j a b).1).trans (h k j a b).1, ((h' k j a b).2).trans (h k j a b).2⟩
def subF (cs : List Nat) (fs : List (Nat × Nat)) (cs' : List Nat) (fs' : List (Nat × Nat)) : Bool := cs.all (fun k => cs'.contains k) && fs.all (fun q => cs'.contains q.1 || fs'.contains q)
theorem Fr.wk (h : Fr cs fs τ τ') (hs : subF cs fs cs' fs' = true) : Fr cs' fs' τ τ' := fun k j a b => by
  simp only [subF, Bool.and_eq_true, List.all_eq_true, Bool.or_eq_true, List.contains_iff_mem] at hs
  refine h k j (fun z => a (hs.1 k z)) (fun z => ?_)
  rcases hs.2 _ z with q | q
  · exact a q
  · exact b q
theorem Fr.i {k j : Nat} {v : Int32} (h : Fr cs fs τ τ') (hk : subF [] [(k, j)] cs fs = true) : Fr cs fs τ (sI τ' k j v) := fun a b ha hb => by
  refine ⟨?_, (h a b ha hb).2⟩
  rw [sI_1]
  by_cases e : a = k
  · subst e
    by_cases e2 : b = j
    · subst e2
      simp only [subF, Bool.and_eq_true, List.all_eq_true, Bool.or_eq_true, List.contains_iff_mem] at hk
      rcases hk.2 (a, b) (by simp) with q | q
      · exact absurd q ha
      · exact absurd q hb
    · rw [if_pos rfl, if_neg e2]; exact (h a b ha hb).1
  · rw [if_neg e]; exact (h a b ha hb).1
theorem Fr.ic {k j : Nat} {v : Int32} (h : Fr cs fs τ τ') (hk : cs.contains k = true) : Fr cs fs τ (sI τ' k j v) := h.i (by simp only [subF, List.all_nil, List.all_cons, hk, Bool.true_or, Bool.and_self])
theorem Fr.l {k j : Nat} {v : Int64} (h : Fr cs fs τ τ') (hk : subF [] [(k, j)] cs fs = true) : Fr cs fs τ (sL τ' k j v) := fun a b ha hb => by
  refine ⟨(h a b ha hb).1, ?_⟩
  rw [sL_2]
  by_cases e : a = k
  · subst e
    by_cases e2 : b = j
    · subst e2
      simp only [subF, Bool.and_eq_true, List.all_eq_true, Bool.or_eq_true, List.contains_iff_mem] at hk
      rcases hk.2 (a, b) (by simp) with q | q
      · exact absurd q ha
      · exact absurd q hb
    · rw [if_pos rfl, if_neg e2]; exact (h a b ha hb).2
  · rw [if_neg e]; exact (h a b ha hb).2
theorem Fr.lc {k j : Nat} {v : Int64} (h : Fr cs fs τ τ') (hk : cs.contains k = true) : Fr cs fs τ (sL τ' k j v) := h.l (by simp only [subF, List.all_nil, List.all_cons, hk, Bool.true_or, Bool.and_self])
theorem Fr.a {k : Nat} {f : Nat → Int32} (h : Fr cs fs τ τ') (hk : cs.contains k = true) : Fr cs fs τ (sA τ' k f) := fun a b ha hb => by
  refine ⟨?_, (h a b ha hb).2⟩
  rw [sA_1, if_neg]
  · exact (h a b ha hb).1
  · intro e
    subst e
    exact ha (List.contains_iff_mem.mp hk)
def disF (cs : List Nat) (fs : List (Nat × Nat)) (D : List Nat) (E : List (Nat × Nat)) : Bool := cs.all (fun k => !D.contains k && E.all (fun q => !(Nat.beq q.1 k))) && fs.all (fun q => !D.contains q.1 && !E.contains q)
theorem Fr.D {D : List Nat} {E : List (Nat × Nat)} (h : Fr cs fs τ τ') (hd : disF cs fs D E = true) (k j : Nat) (hk : D.contains k = true) : τ'.1 k j = τ.1 k j ∧ τ'.2 k j = τ.2 k j := by
  simp only [disF, Bool.and_eq_true, List.all_eq_true, Bool.not_eq_true'] at hd
  refine h k j (fun z => ?_) (fun z => ?_)
  · have := (hd.1 k z).1; rw [hk] at this; cases this
  · have := (hd.2 _ z).1; simp only at this; rw [hk] at this; cases this
theorem Fr.E {D : List Nat} {E : List (Nat × Nat)} (h : Fr cs fs τ τ') (hd : disF cs fs D E = true) (k j : Nat) (hk : E.contains (k, j) = true) : τ'.1 k j = τ.1 k j ∧ τ'.2 k j = τ.2 k j := by
  simp only [disF, Bool.and_eq_true, List.all_eq_true, Bool.not_eq_true'] at hd
  refine h k j (fun z => ?_) (fun z => ?_)
  · have := (hd.1 k z).2 _ (List.contains_iff_mem.mp hk)
    simp only at this
    have e : Nat.beq k k = true := Nat.beq_refl k
    rw [e] at this; cases this
  · have := (hd.2 _ z).2; rw [hk] at this; cases this
/-- one place that is unchanged -/
theorem Fr.u1 (h : Fr cs fs τ τ') (k j : Nat) (hd : disF cs fs [] [(k, j)] = true) : τ'.1 k j = τ.1 k j := (h.E hd k j (by simp)).1
theorem Fr.u2 (h : Fr cs fs τ τ') (k j : Nat) (hd : disF cs fs [] [(k, j)] = true) : τ'.2 k j = τ.2 k j := (h.E hd k j (by simp)).2
/-- a cell that is unchanged -/
theorem Fr.c1 (h : Fr cs fs τ τ') (k : Nat) (hd : disF cs fs [k] [] = true) (j : Nat) : τ'.1 k j = τ.1 k j := (h.D hd k j (by simp)).1
theorem Fr.c2 (h : Fr cs fs τ τ') (k : Nat) (hd : disF cs fs [k] [] = true) (j : Nat) : τ'.2 k j = τ.2 k j := (h.D hd k j (by simp)).2
end FR
/-- a moment of the class: a cell, and its places behind it -/
def isM (k : Nat) : Prop := isA 1 k ∧ isA 14 (k + 1) ∧ len (k + 1) = 8 ∧ rtab k 0 = k + 1
theorem isM_now : isM 9 := ⟨⟨Nat.le_of_ble_eq_true rfl, rfl⟩, ⟨Nat.le_of_ble_eq_true rfl, rfl⟩, rfl, rfl⟩
theorem isM_before : isM 11 := ⟨⟨Nat.le_of_ble_eq_true rfl, rfl⟩, ⟨Nat.le_of_ble_eq_true rfl, rfl⟩, rfl, rfl⟩
theorem isM_past {i : Nat} (h : i < 15) : isM (15 + 2 * i) := by
  match i, h with
  | 0, _ => exact ⟨⟨Nat.le_of_ble_eq_true rfl, rfl⟩, ⟨Nat.le_of_ble_eq_true rfl, rfl⟩, rfl, rfl⟩
  | 1, _ => exact ⟨⟨Nat.le_of_ble_eq_true rfl, rfl⟩, ⟨Nat.le_of_ble_eq_true rfl, rfl⟩, rfl, rfl⟩
  | 2, _ => exact ⟨⟨Nat.le_of_ble_eq_true rfl, rfl⟩, ⟨Nat.le_of_ble_eq_true rfl, rfl⟩, rfl, rfl⟩
  | 3, _ => exact ⟨⟨Nat.le_of_ble_eq_true rfl, rfl⟩, ⟨Nat.le_of_ble_eq_true rfl, rfl⟩, rfl, rfl⟩
  | 4, _ => exact ⟨⟨Nat.le_of_ble_eq_true rfl, rfl⟩, ⟨Nat.le_of_ble_eq_true rfl, rfl⟩, rfl, rfl⟩
  | 5, _ => exact ⟨⟨Nat.le_of_ble_eq_true rfl, rfl⟩, ⟨Nat.le_of_ble_eq_true rfl, rfl⟩, rfl, rfl⟩
  | 6, _ => exact ⟨⟨Nat.le_of_ble_eq_true rfl, rfl⟩, ⟨Nat.le_of_ble_eq_true rfl, rfl⟩, rfl, rfl⟩
  | 7, _ => exact ⟨⟨Nat.le_of_ble_eq_true rfl, rfl⟩, ⟨Nat.le_of_ble_eq_true rfl, rfl⟩, rfl, rfl⟩
  | 8, _ => exact ⟨⟨Nat.le_of_ble_eq_true rfl, rfl⟩, ⟨Nat.le_of_ble_eq_true rfl, rfl⟩, rfl, rfl⟩
  | 9, _ => exact ⟨⟨Nat.le_of_ble_eq_true rfl, rfl⟩, ⟨Nat.le_of_ble_eq_true rfl, rfl⟩, rfl, rfl⟩
  | 10, _ => exact ⟨⟨Nat.le_of_ble_eq_true rfl, rfl⟩, ⟨Nat.le_of_ble_eq_true rfl, rfl⟩, rfl, rfl⟩
  | 11, _ => exact ⟨⟨Nat.le_of_ble_eq_true rfl, rfl⟩, ⟨Nat.le_of_ble_eq_true rfl, rfl⟩, rfl, rfl⟩
  | 12, _ => exact ⟨⟨Nat.le_of_ble_eq_true rfl, rfl⟩, ⟨Nat.le_of_ble_eq_true rfl, rfl⟩, rfl, rfl⟩
  | 13, _ => exact ⟨⟨Nat.le_of_ble_eq_true rfl, rfl⟩, ⟨Nat.le_of_ble_eq_true rfl, rfl⟩, rfl, rfl⟩
  | 14, _ => exact ⟨⟨Nat.le_of_ble_eq_true rfl, rfl⟩, ⟨Nat.le_of_ble_eq_true rfl, rfl⟩, rfl, rfl⟩
  | n + 15, h => omega
theorem isM_kept {i : Nat} (h : i < 3) : isM (46 + 2 * i) := by
  match i, h with
  | 0, _ => exact ⟨⟨Nat.le_of_ble_eq_true rfl, rfl⟩, ⟨Nat.le_of_ble_eq_true rfl, rfl⟩, rfl, rfl⟩
  | 1, _ => exact ⟨⟨Nat.le_of_ble_eq_true rfl, rfl⟩, ⟨Nat.le_of_ble_eq_true rfl, rfl⟩, rfl, rfl⟩
  | 2, _ => exact ⟨⟨Nat.le_of_ble_eq_true rfl, rfl⟩, ⟨Nat.le_of_ble_eq_true rfl, rfl⟩, rfl, rfl⟩
  | n + 3, h => omega
