/-! WAYS: pulls, the class -/
def vK (n : Nat) (S a : Nat → Int32) : Int32 := if n = 0 then bas a else (runC S a n 0 []).headD 0
/-- what the table of an hour holds -/
def drT (n : Nat) (S : Nat → Int32) (w : Int32) (h i : Nat) : Int32 := clp (vK n S (aq w (if 0 < nI (i / 2) - 9 then nI (i / 2) - 9 else 0) (if 0 < -(nI (i / 2) - 9) then -(nI (i / 2) - 9) else 0) (nI (i % 2)) (nI h)))
/-- hours that are ready have their pulls -/
def PuI (τ : St) (n : Nat) (S : Nat → Int32) (w : Int32) : Prop := ∀ h, h < 10 → bt (τ.1 60 1) h = true → ∀ i, i < 38 → τ.1 61 (38 * h + i) = drT n S w h i
theorem s_pullsLoop {d ρ n h : Nat} {Q : Qt} {τ : St} {S : Nat → Int32} {w kd : Int32} (hρ : ρ = 53 ∨ ρ = 56) (hn : n ≤ 40) (h1 : τ.1 ρ 1 = nI n) (h2 : ∀ j, j < n → τ.1 (ρ + 1) j = S j) (hok : 0 < n → okR (fun i => kdC (S i)) n 0 0) (hh : h < 10) (hb : τ.1 60 2 = nI (38 * h))
    (hQ : ∀ τ', Fr [55, 58, 61] [(53, 3), (56, 3)] τ τ' → (∀ j, τ'.1 61 j = if 38 * h ≤ j ∧ j < 38 * h + 38 then drT n S w h (j - 38 * h) else τ.1 61 j) → Q none τ') : ∀ (u k : Nat) (τ1 : St), k + u = 38 → Fr [55, 58, 61] [(53, 3), (56, 3)] τ τ1 → (∀ j, τ1.1 61 j = if 38 * h ≤ j ∧ j < 38 * h + k then drT n S w h (j - 38 * h) else τ.1 61 j) → Rs M_Pulls_turnTo (d + 3) Q 50 [some (.ref 60), some (.int (nI h)), some (.int kd), some (.ref ρ), some (.int w), some (.int (nI k))] [] τ1 := by
  intro u
  induction u with
  | zero =>
    intro k τ1 hk fr ht
    obtain rfl : k = 38 := by omega
    rw [Rs_eq]
    simp only [E_Pulls_turnTo, fIsA, fRt, fLen, fLit, fBool]
    exact ⟨fun _ => hQ τ1 fr ht, fun z => absurd (Int32.le_refl _) z⟩
  | succ u ih =>
    intro k τ1 hk fr ht
    have dv : nI k / 2 = nI (k / 2) := pk_div (d := 2) (by omega) (by omega) (by omega)
    have rm : nI k - nI k / 2 * 2 = nI (k % 2) := pk_rem (d := 2) (by omega) (by omega) (by omega)
    rw [dv] at rm
    have b1 : τ1.1 60 2 = nI (38 * h) := (fr.u1 60 2 rfl).trans hb
    obtain ⟨r1, _⟩ := rho hρ
    have q1 : τ1.1 ρ 1 = nI n := by
      rcases hρ with rfl | rfl
      · exact (fr.u1 53 1 rfl).trans h1
      · exact (fr.u1 56 1 rfl).trans h1
    have q2 : ∀ j, j < n → τ1.1 (ρ + 1) j = S j := fun j hj => by
      rcases hρ with rfl | rfl
      · exact (fr.c1 54 rfl j).trans (h2 j hj)
      · exact (fr.c1 57 rfl j).trans (h2 j hj)
    rw [Rs_eq]
    simp only [E_Pulls_turnTo, fIsA, fRt, fLen, fLit, fBool, dv, rm, b1, nI_1]
    refine ⟨fun z => absurd z (nI_ge (b := 38) (by omega) (by omega)), fun _ => ⟨by decide, by decide, r1, ?_⟩⟩
    refine s_dragOf (a := aq w (if 0 < nI (k / 2) - 9 then nI (k / 2) - 9 else 0) (if 0 < -(nI (k / 2) - 9) then -(nI (k / 2) - 9) else 0) (nI (k % 2)) (nI h)) hρ rfl rfl hn q1 q2 hok (fun v τ2 v0 v1 f2 => ?_)
    have f2' : Fr [55, 58] [(53, 3), (56, 3)] τ1 τ2 := by
      rcases hρ with rfl | rfl
      · exact f2.wk rfl
      · exact f2.wk rfl
    have ev : clp v = drT n S w h k := by
      unfold drT vK
      by_cases c : n = 0
      · rw [if_pos c, v0 c]
      · rw [if_neg c, v1 (by omega)]; rfl
    simp only [oT, E_Pulls_turnTo, fIsA, fRt, fLen, fLit, fBool, nI_1, nI_add, nI_clamp (show 38 * h + k < 2 ^ 31 by omega), ev]
    refine ⟨vp_in_nI (by omega) (by omega), ih (k + 1) _ (by omega) ((fr.tr (f2'.wk rfl)).ic rfl) (fun j => ?_)⟩
    simp only [sI_1, reduceIte]
    by_cases q : j = 38 * h + k
    · rw [if_pos q, if_pos ⟨by omega, by omega⟩, show j - 38 * h = k by omega]
    · rw [if_neg q, f2'.c1 61 rfl, ht j]
      by_cases c : 38 * h ≤ j ∧ j < 38 * h + k
      · rw [if_pos c, if_pos ⟨c.1, by omega⟩]
      · rw [if_neg c, if_neg (fun w => c ⟨w.1, by omega⟩)]
theorem s_PturnTo {d ρ n h : Nat} {Q : Qt} {τ : St} {S : Nat → Int32} {w kd : Int32} (hρ : ρ = 53 ∨ ρ = 56) (hn : n ≤ 40) (h1 : τ.1 ρ 1 = nI n) (h2 : ∀ j, j < n → τ.1 (ρ + 1) j = S j) (hok : 0 < n → okR (fun i => kdC (S i)) n 0 0) (hh : h < 10) (pu : PuI τ n S w)
    (hQ : ∀ τ', Fr [55, 58, 61] [(53, 3), (56, 3), (60, 1), (60, 2), (60, 3)] τ τ' → PuI τ' n S w → bt (τ'.1 60 1) h = true → τ'.1 60 2 = nI (38 * h) → τ'.1 60 3 = kd → Q none τ') : Cl (d + 4) m_Pulls_turnTo [.ref 60, .int (nI h), .int kd, .ref ρ, .int w] τ Q := by
  have bm : nI h * 38 = nI (38 * h) := by rw [show (38 : Int32) = nI 38 from rfl, Nat.mul_comm 38 h]; exact pk_mul h 38
  rw [N_Pulls_turnTo]
  simp only [E_Pulls_turnTo, fIsA, fRt, fLen, fLit, fBool, bm, sI_1, reduceIte, Nat.reduceEqDiff]
  refine ⟨fun z => absurd z (nI_pos (by omega)), fun _ => ⟨fun _ => ?_, fun z => absurd (nI_lt (b := 10) hh (by omega)) z⟩⟩
  simp only [ubit (show h < 32 by omega)]
  cases c : bt (τ.1 60 1) h with
  | true =>
    refine ⟨fun _ => ?_, fun z => absurd z (by decide)⟩
    refine hQ _ (((Fr.rf.i rfl).i rfl)) (fun h' b1 b2 i b3 => ?_) ?_ ?_ ?_
    · simp only [sI_1, reduceIte, Nat.reduceEqDiff] at b2 ⊢
      exact pu h' b1 b2 i b3
    · simp only [sI_1, reduceIte, Nat.reduceEqDiff]
      exact c
    · simp only [sI_1, reduceIte, Nat.reduceEqDiff]
    · simp only [sI_1, reduceIte, Nat.reduceEqDiff]
  | false =>
    refine ⟨fun z => absurd rfl z, fun _ => ?_⟩
    have q1 : ∀ j, (sI (sI (sI τ 60 3 kd) 60 2 (nI (38 * h))) 60 1 (τ.1 60 1 ||| (1 <<< (nI h &&& 31)))).1 ρ j = τ.1 ρ j := fun j => by
      rcases hρ with rfl | rfl <;> simp only [sI_1, reduceIte, Nat.reduceEqDiff]
    have q2 : ∀ j, (sI (sI (sI τ 60 3 kd) 60 2 (nI (38 * h))) 60 1 (τ.1 60 1 ||| (1 <<< (nI h &&& 31)))).1 (ρ + 1) j = τ.1 (ρ + 1) j := fun j => by
      rcases hρ with rfl | rfl <;> simp only [sI_1, reduceIte, Nat.reduceEqDiff, Nat.reduceAdd]
    have q3 : ∀ j, (sI (sI (sI τ 60 3 kd) 60 2 (nI (38 * h))) 60 1 (τ.1 60 1 ||| (1 <<< (nI h &&& 31)))).1 61 j = τ.1 61 j := fun j => by
      simp only [sI_1, reduceIte, Nat.reduceEqDiff]
    have q4 : (sI (sI (sI τ 60 3 kd) 60 2 (nI (38 * h))) 60 1 (τ.1 60 1 ||| (1 <<< (nI h &&& 31)))).1 60 2 = nI (38 * h) := by
      simp only [sI_1, reduceIte, Nat.reduceEqDiff]
    have q5 : (sI (sI (sI τ 60 3 kd) 60 2 (nI (38 * h))) 60 1 (τ.1 60 1 ||| (1 <<< (nI h &&& 31)))).1 60 3 = kd := by
      simp only [sI_1, reduceIte, Nat.reduceEqDiff]
    have q6 : (sI (sI (sI τ 60 3 kd) 60 2 (nI (38 * h))) 60 1 (τ.1 60 1 ||| (1 <<< (nI h &&& 31)))).1 60 1 = τ.1 60 1 ||| (1 <<< (nI h &&& 31)) := by
      simp only [sI_1, reduceIte, Nat.reduceEqDiff]
    have f1 : Fr [55, 58, 61] [(53, 3), (56, 3), (60, 1), (60, 2), (60, 3)] τ (sI (sI (sI τ 60 3 kd) 60 2 (nI (38 * h))) 60 1 (τ.1 60 1 ||| (1 <<< (nI h &&& 31)))) := ((Fr.rf.i rfl).i rfl).i rfl
    generalize (sI (sI (sI τ 60 3 kd) 60 2 (nI (38 * h))) 60 1 (τ.1 60 1 ||| (1 <<< (nI h &&& 31)))) = τ2 at q1 q2 q3 q4 q5 q6 f1 ⊢
    refine s_pullsLoop (n := n) (S := S) hρ hn ((q1 1).trans h1) (fun j hj => (q2 j).trans (h2 j hj)) hok hh q4 (fun τ' f t => ?_) 38 0 τ2 (by omega) Fr.rf (fun j => by rw [if_neg (fun w => by omega)])
    have e1 : τ'.1 60 1 = τ.1 60 1 ||| (1 <<< (nI h &&& 31)) := (f.u1 60 1 rfl).trans q6
    refine hQ τ' (f1.tr (f.wk rfl)) (fun h' b1 b2 i b3 => ?_) ?_ ((f.u1 60 2 rfl).trans q4) ((f.u1 60 3 rfl).trans q5)
    · rw [t]
      by_cases z : h' = h
      · subst z
        rw [if_pos ⟨by omega, by omega⟩, show 38 * h' + i - 38 * h' = i by omega]
      · rw [if_neg (fun w => by omega), q3]
        rw [e1, b_or, shl1 (by omega) (by omega), decide_eq_false z, Bool.or_false] at b2
        exact pu h' b1 b2 i b3
    · rw [e1, b_or, shl1 (by omega) (by omega), decide_eq_true rfl, Bool.or_true]
/-- the pull of a rise, with planks or without -/
theorem drT_pl {n m : Nat} {S S' : Nat → Int32} {ht : Nat → Nat} {w : Int32} {r : Nat → Int32} {f q i h p : Nat} (e : ∀ a, vK n S a = vR m S' a) (hf : ht f ≤ 9) (hq : ht q ≤ 9) (hp : p ≤ 1) (hr : r q = nI p) : (if i % 4 = 3 then drT n S w h ((ht q + 9 - ht f) * 2 + p) + drT n S w h ((ht q + 9 - ht f) * 2 + p) / 2 else drT n S w h ((ht q + 9 - ht f) * 2 + p)) = plF ht m S' w r (nI h) i f q := by
  have e1 : nI (((ht q + 9 - ht f) * 2 + p) / 2) - 9 = nI (ht q) - nI (ht f) := by
    rw [show ((ht q + 9 - ht f) * 2 + p) / 2 = ht q + 9 - ht f by omega]
    rw [show nI (ht q + 9 - ht f) = nI (ht q + 9) - nI (ht f) from (pk_sub (by omega)).symm, ← nI_add]
    show nI (ht q) + 9 - nI (ht f) - 9 = _
    generalize nI (ht q) = x
    generalize nI (ht f) = y
    rw [Int32.sub_eq_add_neg, Int32.sub_eq_add_neg, Int32.sub_eq_add_neg, Int32.add_assoc, Int32.add_assoc, Int32.add_comm (-y) (-9), ← Int32.add_assoc 9, Int32.add_right_neg, Int32.zero_add]
  have e2 : -(nI (ht q) - nI (ht f)) = nI (ht f) - nI (ht q) := Int32.neg_sub
  have e3 : nI (((ht q + 9 - ht f) * 2 + p) % 2) = r q := by rw [hr, show ((ht q + 9 - ht f) * 2 + p) % 2 = p by omega]
  unfold plF drT
  rw [e1, e2, e3, e]
