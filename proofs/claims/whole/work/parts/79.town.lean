/-! PAIRS: town -/
def tnL (v o : Nat) : Nat := if o = 0 then 0 else v - o
/-- who is at turn looks at offers of k more and higher ones, r of them at most -/
def twL (v : Nat) (P : Nat → Nat × Nat × Nat) (o : Nat) : Nat → Nat → Nat × Nat × Nat → Nat × Nat × Nat
  | 0, _, acc => acc
  | r + 1, k, acc => if v < o + k then acc else twL v P o r (k + 1) (if acc.1 < (P (o + k)).2.1 then ((P (o + k)).2.1, (P (o + k)).1, k) else acc)
/-- with j turns left, behind an offer o: what who is at turn has, the other one, and how much more is offered -/
def TW (v : Nat) : Nat → Nat → Nat × Nat × Nat
  | 0, o => (0, tnL v o, 0)
  | j + 1, o => twL v (TW v j) o 3 1 (0, tnL v o, 0)
theorem twL_ok {v o : Nat} {P : Nat → Nat × Nat × Nat} (hP : ∀ p, (P p).1 ≤ v ∧ (P p).2.1 ≤ v) : ∀ (r k : Nat) (acc : Nat × Nat × Nat), 1 ≤ k → k + r = 4 → (acc.1 ≤ v ∧ acc.2.1 ≤ v ∧ acc.2.2 ≤ 3 ∧ (acc.2.2 = 0 → acc.2.1 = tnL v o) ∧ (acc.2.2 ≠ 0 → acc.2.1 = (P (o + acc.2.2)).1 ∧ o + acc.2.2 ≤ v)) → (fun x : Nat × Nat × Nat => x.1 ≤ v ∧ x.2.1 ≤ v ∧ x.2.2 ≤ 3 ∧ (x.2.2 = 0 → x.2.1 = tnL v o) ∧ (x.2.2 ≠ 0 → x.2.1 = (P (o + x.2.2)).1 ∧ o + x.2.2 ≤ v)) (twL v P o r k acc)
  | 0, k, acc, _, _, h => h
  | r + 1, k, acc, hk, hr, h => by
    rw [twL]
    split
    · exact h
    · next c =>
      refine twL_ok hP r (k + 1) _ (by omega) (by omega) ?_
      split
      · exact ⟨(hP _).2, (hP _).1, by show k ≤ 3; omega, fun z => by have : k = 0 := z; omega, fun _ => ⟨rfl, by show o + k ≤ v; omega⟩⟩
      · exact h
theorem tnL_le (v o : Nat) : tnL v o ≤ v := by unfold tnL; split <;> omega
theorem TW_ok (v : Nat) : ∀ (j o : Nat), (TW v j o).1 ≤ v ∧ (TW v j o).2.1 ≤ v
  | 0, o => ⟨Nat.zero_le _, tnL_le v o⟩
  | j + 1, o => by
    have := twL_ok (v := v) (o := o) (P := TW v j) (TW_ok v j) 3 1 (0, tnL v o, 0) (by omega) (by omega) ⟨Nat.zero_le _, tnL_le v o, by simp, fun _ => rfl, fun z => absurd rfl z⟩
    exact ⟨this.1, this.2.1⟩
section TOWN
variable {d v k : Nat} {Q : Qt} {τ : St}
theorem s_leftOf {o : Nat} (hv : v ≤ 60) (ho : o ≤ v) (hQ : Q (some (.int (nI (tnL v o)))) τ) : Cl (d + 1) m_Town_leftOf [.int (nI v), .int (nI o)] τ Q := by
  rw [N_Town_leftOf]
  simp only [E_Town_leftOf, fIsA, fRt, fLen, fLit, fBool]
  unfold tnL at hQ
  refine ⟨fun c => ?_, fun c => ?_⟩
  · have c := (nI_leI (b := 0) (by omega) (by omega)).mp c
    rw [if_pos (by omega)] at hQ
    exact hQ
  · have c : o ≠ 0 := fun z => c (by rw [z]; exact Int32.le_refl _)
    rw [if_neg c] at hQ
    rw [pk_sub ho]
    exact hQ
/-- what a turn leaves -/
def tkT (τ : St) (o : Nat) (acc : Nat × Nat × Nat) : St := if o = 0 then sI (sI (sI τ 67 o (nI acc.1)) 68 o (nI acc.2.1)) 66 2 (nI acc.2.2) else sI (sI τ 67 o (nI acc.1)) 68 o (nI acc.2.1)
theorem s_takeTurn {o : Nat} {P : Nat → Nat × Nat × Nat} (hv : v ≤ 60) (ho : o ≤ v) (hP : ∀ p, (P p).1 ≤ v ∧ (P p).2.1 ≤ v) (h : ∀ p, o < p → p ≤ v → τ.1 67 p = nI (P p).1 ∧ τ.1 68 p = nI (P p).2.1) (hQ : Q none (tkT τ o (twL v P o 3 1 (0, tnL v o, 0)))) : Cl (d + 2) m_Town_takeTurn [.ref 66, .int (nI v), .int (nI o)] τ Q := by
  have loop : ∀ (r k : Nat) (acc : Nat × Nat × Nat), 1 ≤ k → k + r = 4 → acc.1 ≤ v → Q none (tkT τ o (twL v P o r k acc)) → Rs M_Town_takeTurn (d + 1) Q 15 [some (.ref 66), some (.int (nI v)), some (.int (nI o)), some (.int (nI acc.1)), some (.int (nI acc.2.1)), some (.int (nI acc.2.2)), some (.int (nI k))] [] τ := by
    intro r
    induction r with
    | zero =>
      intro k acc h1 h2 h3 hq
      have hq : Q none (tkT τ o acc) := hq
      unfold tkT at hq
      rw [Rs_eq]
      simp only [E_Town_takeTurn, fIsA, fRt, fLen, fLit, fBool, nI_clamp (show o < 2 ^ 31 by omega), nI_add]
      refine ⟨fun _ => ⟨vp_in_nI (by omega) (by omega), vp_in_nI (by omega) (by omega), fun z => ?_, fun z => ?_⟩, fun z => absurd (nI_lt (a := 3) (by omega) (by omega)) z⟩
      · rw [if_neg (fun w => z (by rw [w]; rfl))] at hq; exact hq
      · rw [if_pos ((nI_eq (b := 0) (by omega) (by omega)).mp z)] at hq; exact hq
    | succ r ih =>
      intro k acc h1 h2 h3 hq
      rw [twL] at hq
      rw [Rs_eq]
      simp only [E_Town_takeTurn, fIsA, fRt, fLen, fLit, fBool, nI_clamp (show o < 2 ^ 31 by omega), nI_add, nI_1, nI_clamp (show o + k < 2 ^ 31 by omega)]
      refine ⟨fun z => absurd z (nI_nlt (a := 3) (by omega) (by omega)), fun _ => ⟨fun z => ?_, fun z => ⟨fun z2 => ?_, fun z2 => ?_⟩⟩⟩
      · rw [if_pos ((nI_ltI (by omega) (by omega)).mp z)] at hq
        unfold tkT at hq
        refine ⟨vp_in_nI (by omega) (by omega), vp_in_nI (by omega) (by omega), fun z => ?_, fun z => ?_⟩
        · rw [if_neg (fun w => z (by rw [w]; rfl))] at hq; exact hq
        · rw [if_pos ((nI_eq (b := 0) (by omega) (by omega)).mp z)] at hq; exact hq
      · have z2 := (nI_ltI (a := 60) (by omega) (by omega)).mp z2
        exact absurd (nI_lt (show v < o + k by omega) (by omega)) z
      · have z : ¬ v < o + k := fun w => z (nI_lt w (by omega))
        rw [if_neg z] at hq
        obtain ⟨e1, e2⟩ := h (o + k) (by omega) (by omega)
        have hp := hP (o + k)
        rw [e1, e2]
        refine ⟨vp_in_nI (by omega) (by omega), fun c => ?_, fun c => ?_⟩
        · have c := (nI_leI (by omega) (by omega)).mp c
          rw [if_neg (by omega)] at hq
          exact ih (k + 1) acc (by omega) (by omega) h3 hq
        · have c : acc.1 < (P (o + k)).2.1 := Nat.lt_of_not_le (fun w => c (nI_le w (by omega)))
          rw [if_pos c] at hq
          exact ⟨vp_in_nI (by omega) (by omega), vp_in_nI (by omega) (by omega), ih (k + 1) _ (by omega) (by omega) hp.2 hq⟩
  rw [N_Town_takeTurn]
  simp only [E_Town_takeTurn, fIsA, fRt, fLen, fLit, fBool]
  refine s_leftOf hv ho ?_
  simp only [oT, E_Town_takeTurn, fIsA, fRt, fLen, fLit, fBool]
  exact loop 3 1 (0, tnL v o, 0) (by omega) (by omega) (Nat.zero_le _) hQ
/-- the class's rows hold the values with j turns left, from place lo on, below hi -/
def TCo (v j lo hi : Nat) (τ : St) : Prop := ∀ p, lo ≤ p → p < hi → p ≤ v → τ.1 67 p = nI (TW v j p).1 ∧ τ.1 68 p = nI (TW v j p).2.1
theorem s_settle (hv : v ≤ 60) (hk1 : 1 ≤ k) (hk : k ≤ 20) (hQ : ∀ τ', Fr [67, 68] [(66, 2)] τ τ' → TCo v k 0 100 τ' → τ'.1 66 2 = nI (TW v k 0).2.2 → Q none τ') : Cl (d + 3) m_Town_settle [.ref 66, .int (nI v), .int (nI k)] τ Q := by
  -- a turn's places
  have inner : ∀ (m o j : Nat) (τ1 : St) (Q' : Qt), o + m = v + 1 → j < k → Fr [67, 68] [(66, 2)] τ τ1 → TCo v (j + 1) 0 o τ1 → TCo v j o 100 τ1 → (0 < o → τ1.1 66 2 = nI (TW v (j + 1) 0).2.2) →
      (∀ τ', Fr [67, 68] [(66, 2)] τ τ' → TCo v (j + 1) 0 100 τ' → τ'.1 66 2 = nI (TW v (j + 1) 0).2.2 → ∀ l, Rs M_Town_settle (d + 2) Q' 39 [some (.ref 66), some (.int (nI v)), some (.int (nI k)), some (.int (nI (j + 1))), l] [] τ') → Rs M_Town_settle (d + 2) Q' 47 [some (.ref 66), some (.int (nI v)), some (.int (nI k)), some (.int (nI j)), some (.int (nI o))] [] τ1 := by
    intro m
    induction m with
    | zero =>
      intro o j τ1 Q' hi hj fr t1 t2 h0 hq
      rw [Rs_eq]
      simp only [E_Town_settle, fIsA, fRt, fLen, fLit, fBool, nI_1]
      exact ⟨fun _ => hq τ1 fr (fun p p1 p2 p3 => t1 p p1 (by omega) p3) (h0 (by omega)) _, fun z => absurd (nI_lt (by omega) (by omega)) z⟩
    | succ m ih =>
      intro o j τ1 Q' hi hj fr t1 t2 h0 hq
      rw [Rs_eq]
      simp only [E_Town_settle, fIsA, fRt, fLen, fLit, fBool, nI_1]
      refine ⟨fun z => absurd z (nI_nlt (by omega) (by omega)), fun _ => ⟨fun z => absurd z (nI_nlt (a := 60) (by omega) (by omega)), fun _ => ?_⟩⟩
      refine s_takeTurn (P := TW v j) hv (by omega) (TW_ok v j) (fun p p1 p2 => t2 p (by omega) (by omega) p2) ?_
      simp only [oN, E_Town_settle, fIsA, fRt, fLen, fLit, fBool, nI_1]
      rw [show twL v (TW v j) o 3 1 (0, tnL v o, 0) = TW v (j + 1) o from rfl]
      have ft : Fr [67, 68] [(66, 2)] τ (tkT τ1 o (TW v (j + 1) o)) := by
        unfold tkT
        split
        · exact ((fr.ic rfl).ic rfl).i rfl
        · exact (fr.ic rfl).ic rfl
      have at67 : ∀ p, (tkT τ1 o (TW v (j + 1) o)).1 67 p = if p = o then nI (TW v (j + 1) o).1 else τ1.1 67 p := fun p => by
        unfold tkT
        split <;> simp only [sI_1, reduceIte, Nat.reduceEqDiff]
      have at68 : ∀ p, (tkT τ1 o (TW v (j + 1) o)).1 68 p = if p = o then nI (TW v (j + 1) o).2.1 else τ1.1 68 p := fun p => by
        unfold tkT
        split <;> simp only [sI_1, reduceIte, Nat.reduceEqDiff]
      refine ih (o + 1) j _ Q' (by omega) hj ft (fun p p1 p2 p3 => ?_) (fun p p1 p2 p3 => ?_) (fun _ => ?_) hq
      · rw [at67, at68]
        by_cases c : p = o
        · subst c; rw [if_pos rfl, if_pos rfl]; exact ⟨rfl, rfl⟩
        · rw [if_neg c, if_neg c]; exact t1 p p1 (by omega) p3
      · rw [at67, at68, if_neg (by omega), if_neg (by omega)]
        exact t2 p (by omega) p2 p3
      · unfold tkT
        split
        · next c => subst c; simp only [sI_1, reduceIte, Nat.reduceEqDiff]
        · next c =>
          simp only [sI_1, reduceIte, Nat.reduceEqDiff]
          exact h0 (by omega)
  have turns : ∀ (m j : Nat) (τ1 : St) (l : Option Value), j + m = k → Fr [67, 68] [(66, 2)] τ τ1 → TCo v j 0 100 τ1 → (0 < j → τ1.1 66 2 = nI (TW v j 0).2.2) → Rs M_Town_settle (d + 2) Q 39 [some (.ref 66), some (.int (nI v)), some (.int (nI k)), some (.int (nI j)), l] [] τ1 := by
    intro m
    induction m with
    | zero =>
      intro j τ1 l hi fr t1 h0
      obtain rfl : j = k := by omega
      rw [Rs_eq]
      simp only [E_Town_settle, fIsA, fRt, fLen, fLit, fBool]
      exact ⟨fun _ => hQ τ1 fr t1 (h0 hk1), fun z => absurd (Int32.le_refl _) z⟩
    | succ m ih =>
      intro j τ1 l hi fr t1 h0
      rw [Rs_eq]
      simp only [E_Town_settle, fIsA, fRt, fLen, fLit, fBool]
      refine ⟨fun z => absurd z (nI_ge (by omega) (by omega)), fun _ => ?_⟩
      exact inner (v + 1) 0 j τ1 Q (by omega) (by omega) fr (fun p p1 p2 => absurd p2 (Nat.not_lt_zero p)) t1 (fun z => absurd z (Nat.lt_irrefl 0)) (fun τ' f' t' h' l' => ih (j + 1) τ' l' (by omega) f' t' (fun _ => h'))
  have fst : ∀ (m o : Nat) (τ1 : St), o + m = v + 1 → Fr [67, 68] [(66, 2)] τ τ1 → TCo v 0 0 o τ1 → Rs M_Town_settle (d + 2) Q 2 [some (.ref 66), some (.int (nI v)), some (.int (nI k)), some (.int (nI o)), none] [] τ1 := by
    intro m
    induction m with
    | zero =>
      intro o τ1 hi fr t1
      rw [Rs_eq]
      simp only [E_Town_settle, fIsA, fRt, fLen, fLit, fBool]
      exact ⟨fun _ => turns k 0 τ1 _ (by omega) fr (fun p p1 p2 p3 => t1 p p1 (by omega) p3) (fun z => absurd z (Nat.lt_irrefl 0)), fun z => absurd (nI_lt (by omega) (by omega)) z⟩
    | succ m ih =>
      intro o τ1 hi fr t1
      rw [Rs_eq]
      simp only [E_Town_settle, fIsA, fRt, fLen, fLit, fBool, nI_clamp (show o < 2 ^ 31 by omega)]
      refine ⟨fun z => absurd z (nI_nlt (by omega) (by omega)), fun _ => ⟨fun z => absurd z (nI_nlt (a := 60) (by omega) (by omega)), fun _ => ⟨vp_in_nI (by omega) (by omega), ?_⟩⟩⟩
      refine s_leftOf hv (by omega) ?_
      simp only [oT, E_Town_settle, fIsA, fRt, fLen, fLit, fBool, nI_1, nI_clamp (show o < 2 ^ 31 by omega)]
      refine ⟨vp_in_nI (by omega) (by omega), ih (o + 1) _ (by omega) ((fr.ic rfl).ic rfl) (fun p p1 p2 p3 => ?_)⟩
      simp only [sI_1, reduceIte, Nat.reduceEqDiff]
      by_cases c : p = o
      · subst c; rw [if_pos rfl, if_pos rfl]; exact ⟨rfl, rfl⟩
      · rw [if_neg c, if_neg c]; exact t1 p p1 (by omega) p3
  rw [N_Town_settle]
  simp only [E_Town_settle, fIsA, fRt, fLen, fLit, fBool]
  exact fst (v + 1) 0 τ (by omega) Fr.rf (fun p p1 p2 => absurd p2 (Nat.not_lt_zero p))
end TOWN
