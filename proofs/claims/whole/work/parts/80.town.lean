/-! PAIRS: town, the reference -/
theorem pdI (o : Nat) : nI (o + 1) + -1 = nI o := by
  rw [← nI_1, Int32.add_assoc, show (1 : Int32) + -1 = 0 from by decide, Int32.add_zero]
/-- the reference's rows hold the values of turn t, from place lo on -/
def TMo (v k t lo : Nat) (τ : St) : Prop := ∀ p, lo ≤ p → p ≤ v → τ.1 92 (21 * p + t) = nI (TW v (k - t) p).1 ∧ τ.1 93 (21 * p + t) = nI (TW v (k - t) p).2.1
theorem i21 (p t : Nat) : 21 * nI p + nI t = nI (21 * p + t) := by
  rw [show (21 : Int32) * nI p = nI (21 * p) from pk_mul 21 p]; exact nI_add _ _
theorem Mtown_ex {v o t c a : Nat} {τ1 : St} {K : St → Prop} (hv : v ≤ 60) (ht : t < 20) (ho : o ≤ v) (hc : c ≠ 0 → o + c ≤ v) (ha : c ≠ 0 → τ1.1 92 (21 * (o + c) + (t + 1)) = nI a) (h0 : c = 0 → K τ1) (h1 : c ≠ 0 → K (sI τ1 93 (21 * o + t) (nI a))) :
    vp_in (nI (21 * o + t)) 1281 ∧ (nI (if c = 0 then 0 else o + c) ≤ 0 → K τ1) ∧ (¬ nI (if c = 0 then 0 else o + c) ≤ 0 → vp_in (nI (21 * o + t)) 1281 ∧ vp_in (nI (21 * (if c = 0 then 0 else o + c) + t + 1)) 1281 ∧ vp_in (nI (21 * o + t)) 1281 ∧ K (sI τ1 93 (21 * o + t) (τ1.1 92 (nI (21 * (if c = 0 then 0 else o + c) + t + 1)).toNatClampNeg))) := by
  by_cases q : c = 0
  · rw [if_pos q]
    exact ⟨vp_in_nI (by omega) (by omega), fun _ => h0 q, fun z => absurd (Int32.le_refl _) z⟩
  · rw [if_neg q]
    have := hc q
    have e := ha q
    refine ⟨vp_in_nI (by omega) (by omega), fun z => absurd ((nI_leI (b := 0) (by omega) (by omega)).mp z) (by omega), fun _ => ⟨vp_in_nI (by omega) (by omega), vp_in_nI (by omega) (by omega), vp_in_nI (by omega) (by omega), ?_⟩⟩
    rw [nI_clamp (by omega), Nat.add_assoc, e]
    exact h1 q
theorem Mtown_in {d v k t o j : Nat} {Q : Qt} {τ0 : St} (hv : v ≤ 60) (hk : k ≤ 20) (ho : o ≤ v) (hj : k = t + 1 + j) (hP : ∀ p, p ≤ v → τ0.1 92 (21 * p + (t + 1)) = nI (TW v j p).1 ∧ τ0.1 93 (21 * p + (t + 1)) = nI (TW v j p).2.1)
    (hQ : ∀ (τ' : St) (l6 l7 : Option Value), Fr [92, 93, 94] [] τ0 τ' → (∀ q, q ≠ 21 * o + t → τ'.1 92 q = τ0.1 92 q ∧ τ'.1 93 q = τ0.1 93 q ∧ τ'.1 94 q = τ0.1 94 q) → τ'.1 92 (21 * o + t) = nI (TW v (j + 1) o).1 → τ'.1 93 (21 * o + t) = nI (TW v (j + 1) o).2.1 → τ'.1 94 (21 * o + t) = nI (if (TW v (j + 1) o).2.2 = 0 then 0 else o + (TW v (j + 1) o).2.2) → Rs M_M_town d Q 40 [some (.ref 69), some (.int (nI v)), some (.int (nI k)), some (.int (nI t)), some (.int (nI o + -1)), some (.int (nI (21 * o + t))), l6, l7] [] τ') :
    ∀ (r m : Nat) (acc : Nat × Nat × Nat) (τ1 : St) (l7 : Option Value), 1 ≤ m → m + r = 4 → Fr [92, 93, 94] [] τ0 τ1 → (∀ q, q ≠ 21 * o + t → τ1.1 92 q = τ0.1 92 q ∧ τ1.1 93 q = τ0.1 93 q ∧ τ1.1 94 q = τ0.1 94 q) → τ1.1 92 (21 * o + t) = nI acc.1 → τ1.1 93 (21 * o + t) = nI (tnL v o) → τ1.1 94 (21 * o + t) = nI (if acc.2.2 = 0 then 0 else o + acc.2.2) →
      (acc.1 ≤ v ∧ acc.2.1 ≤ v ∧ acc.2.2 ≤ 3 ∧ (acc.2.2 = 0 → acc.2.1 = tnL v o) ∧ (acc.2.2 ≠ 0 → acc.2.1 = (TW v j (o + acc.2.2)).1 ∧ o + acc.2.2 ≤ v)) → twL v (TW v j) o r m acc = TW v (j + 1) o → Rs M_M_town d Q 93 [some (.ref 69), some (.int (nI v)), some (.int (nI k)), some (.int (nI t)), some (.int (nI o)), some (.int (nI (21 * o + t))), some (.int (nI m)), l7] [] τ1 := by
  have ex : ∀ (m : Nat) (acc : Nat × Nat × Nat) (τ1 : St) (l7 : Option Value), Fr [92, 93, 94] [] τ0 τ1 → (∀ q, q ≠ 21 * o + t → τ1.1 92 q = τ0.1 92 q ∧ τ1.1 93 q = τ0.1 93 q ∧ τ1.1 94 q = τ0.1 94 q) → τ1.1 92 (21 * o + t) = nI acc.1 → τ1.1 93 (21 * o + t) = nI (tnL v o) → τ1.1 94 (21 * o + t) = nI (if acc.2.2 = 0 then 0 else o + acc.2.2) →
      (acc.1 ≤ v ∧ acc.2.1 ≤ v ∧ acc.2.2 ≤ 3 ∧ (acc.2.2 = 0 → acc.2.1 = tnL v o) ∧ (acc.2.2 ≠ 0 → acc.2.1 = (TW v j (o + acc.2.2)).1 ∧ o + acc.2.2 ≤ v)) → acc = TW v (j + 1) o →
      vp_in (nI (21 * o + t)) 1281 ∧ (nI (if acc.2.2 = 0 then 0 else o + acc.2.2) ≤ 0 → Rs M_M_town d Q 40 [some (.ref 69), some (.int (nI v)), some (.int (nI k)), some (.int (nI t)), some (.int (nI o + -1)), some (.int (nI (21 * o + t))), some (.int (nI m)), l7] [] τ1) ∧ (¬ nI (if acc.2.2 = 0 then 0 else o + acc.2.2) ≤ 0 → vp_in (nI (21 * o + t)) 1281 ∧ vp_in (nI (21 * (if acc.2.2 = 0 then 0 else o + acc.2.2) + t + 1)) 1281 ∧ vp_in (nI (21 * o + t)) 1281 ∧ Rs M_M_town d Q 40 [some (.ref 69), some (.int (nI v)), some (.int (nI k)), some (.int (nI t)), some (.int (nI o + -1)), some (.int (nI (21 * o + t))), some (.int (nI m)), l7] [] (sI τ1 93 (21 * o + t) (τ1.1 92 (nI (21 * (if acc.2.2 = 0 then 0 else o + acc.2.2) + t + 1)).toNatClampNeg))) := fun m acc τ1 l7 fr hs h92 h93 h94 hok he => by
    refine Mtown_ex (a := acc.2.1) (K := fun τ' => Rs M_M_town d Q 40 [some (.ref 69), some (.int (nI v)), some (.int (nI k)), some (.int (nI t)), some (.int (nI o + -1)), some (.int (nI (21 * o + t))), some (.int (nI m)), l7] [] τ') hv (by omega) ho (fun z => (hok.2.2.2.2 z).2) (fun z => ?_) (fun z => ?_) (fun z => ?_)
    · have w := hok.2.2.2.2 z
      rw [(hs _ (by omega)).1, (hP _ w.2).1, w.1]
    · refine hQ τ1 _ l7 fr hs (by rw [← he]; exact h92) (by rw [← he, hok.2.2.2.1 z]; exact h93) (by rw [← he]; exact h94)
    · refine hQ _ _ l7 (fr.ic rfl) (fun q hq => ?_) (by rw [← he]; exact h92) (by rw [← he]; simp only [sI_1, reduceIte, Nat.reduceEqDiff]) (by rw [← he]; exact h94)
      have := hs q hq
      simp only [sI_1, reduceIte, Nat.reduceEqDiff]
      rw [if_neg hq]
      exact this
  intro r
  induction r with
  | zero =>
    intro m acc τ1 l7 h1 h2 fr hs h92 h93 h94 hok he
    have he : acc = TW v (j + 1) o := he
    rw [Rs_eq]
    simp only [E_M_town, fIsA, fRt, fLen, fLit, fBool, nI_clamp (show 21 * o + t < 2 ^ 31 by omega), h94, i21, nI_1, nI_add]
    exact ⟨fun _ => ex m acc τ1 l7 fr hs h92 h93 h94 hok he, fun z => absurd (nI_lt (a := 3) (by omega) (by omega)) z⟩
  | succ r ih =>
    intro m acc τ1 l7 h1 h2 fr hs h92 h93 h94 hok he
    rw [twL] at he
    rw [Rs_eq]
    simp only [E_M_town, fIsA, fRt, fLen, fLit, fBool, nI_clamp (show 21 * o + t < 2 ^ 31 by omega), h94, i21, nI_1, nI_add, h92]
    refine ⟨fun z => absurd z (nI_nlt (a := 3) (by omega) (by omega)), fun _ => ⟨fun z => absurd z (nI_ge (by omega) (by omega)), fun _ => ⟨fun z => ?_, fun z => ?_⟩⟩⟩
    · rw [if_pos ((nI_ltI (by omega) (by omega)).mp z)] at he
      exact ex m acc τ1 l7 fr hs h92 h93 h94 hok he
    · have z : ¬ v < o + m := fun w => z (nI_lt w (by omega))
      rw [if_neg z] at he
      have hp := TW_ok v j (o + m)
      have e1 : τ1.1 93 (21 * (o + m) + t + 1) = nI (TW v j (o + m)).2.1 := by
        rw [Nat.add_assoc, (hs _ (by omega)).2.1]; exact (hP (o + m) (by omega)).2
      rw [nI_clamp (show 21 * (o + m) + t + 1 < 2 ^ 31 by omega), e1]
      have h11 := hok.1
      refine ⟨vp_in_nI (by omega) (by omega), vp_in_nI (by omega) (by omega), fun c => ?_, fun c => ?_⟩
      · have c := (nI_leI (by omega) (by omega)).mp c
        rw [if_neg (by omega)] at he
        exact ih (m + 1) acc τ1 _ (by omega) (by omega) fr hs h92 h93 h94 hok he
      · have c : acc.1 < (TW v j (o + m)).2.1 := Nat.lt_of_not_le (fun w => c (nI_le w (by omega)))
        rw [if_pos c] at he
        refine ⟨vp_in_nI (by omega) (by omega), vp_in_nI (by omega) (by omega), vp_in_nI (by omega) (by omega), ?_⟩
        refine ih (m + 1) _ _ _ (by omega) (by omega) ((fr.ic rfl).ic rfl) (fun q hq => ?_) ?_ ?_ ?_ ⟨hp.2, hp.1, by show m ≤ 3; omega, fun w => by have : m = 0 := w; omega, fun _ => ⟨rfl, by show o + m ≤ v; omega⟩⟩ he
        · have := hs q hq
          simp only [sI_1, reduceIte, Nat.reduceEqDiff]
          rw [if_neg hq, if_neg hq]
          exact this
        · simp only [sI_1, reduceIte, Nat.reduceEqDiff]
        · simp only [sI_1, reduceIte, Nat.reduceEqDiff]
          exact h93
        · simp only [sI_1, reduceIte, Nat.reduceEqDiff]
          rw [if_neg (show ¬ m = 0 by omega)]
