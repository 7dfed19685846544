/-! WAYS: noise on an easy way -/
def noN (p k : Nat) : Nat := if k = 1 then p / 10 / 2 else if k = 2 then p / 10 * 2 else p / 10
theorem noN_le {p k : Nat} (h : p ≤ 1498) : noN p k ≤ 300 := by
  unfold noN
  split
  · omega
  · split <;> omega
theorem noN_eq {p k : Nat} (h : p ≤ 1498) : noi (nI p) k = nI (noN p k) := by
  have d10 : nI p / 10 = nI (p / 10) := pk_div (d := 10) (by omega) (by omega) (by omega)
  unfold noi noN
  rw [d10]
  by_cases c : k = 1
  · rw [if_pos c, if_pos c]
    exact pk_div (d := 2) (by omega) (by omega) (by omega)
  · rw [if_neg c, if_neg c]
    by_cases c2 : k = 2
    · rw [if_pos c2, if_pos c2]
      exact pk_mul _ 2
    · rw [if_neg c2, if_neg c2]
def nzA (P : Nat → Nat → Nat) (k : Nat) : Nat → Nat → List Nat → Nat
  | a, _, [] => a
  | a, f, q :: l => nzA P k (a + noN (P f q) k) q l
theorem nzA_le {P : Nat → Nat → Nat} {k : Nat} (hP : ∀ f q, P f q ≤ 1498) : ∀ (l : List Nat) (a f : Nat), nzA P k a f l ≤ a + 300 * l.length
  | [], a, f => Nat.le_refl _
  | q :: l, a, f => by
    have := nzA_le hP (k := k) l (a + noN (P f q) k) q
    have := noN_le (k := k) (hP f q)
    rw [List.length_cons]
    show nzA P k (a + noN (P f q) k) q l ≤ _
    omega
theorem s_WnoiseFrom {d R C m i f : Nat} {kd ht c : Nat → Nat} {S r : Nat → Int32} {w hh : Int32} {P : Nat → Nat → Nat} {Q : Qt} {τ : St} {l : List Nat} (g : GI τ R C kd ht) (wa : WzI R C ht m S w r hh i τ) (hP : ∀ f q, plF ht m S w r hh i f q = nI (P f q) ∧ P f q ≤ 1498) (hc : ∀ f, f < R * C → τ.1 62 f = nI (c f) ∧ c f ≤ 2 ^ 30) (hf : f < R * C) (hp : pth kd R C P 1498 64 c f l) (hn : l.length ≤ 35) (hQ : Q (some (.int (nI (nzA P (i % 4) 0 f l)))) τ) : Cl (d + 5) m_Ways_noiseFrom [.ref 59, .int (nI f), .int (nI (i % 4))] τ Q := by
  have g36 := g.n36
  have loop : ∀ (l : List Nat) (n f' a : Nat) (l6 : Option Value), pth kd R C P 1498 64 c f' l → f' < R * C → n + l.length ≤ 35 → Q (some (.int (nI (nzA P (i % 4) a f' l)))) τ → Rs M_Ways_noiseFrom (d + 4) Q 8 [some (.ref 59), some (.int (nI f)), some (.int (nI (i % 4))), some (.int (nI a)), some (.int (nI f')), some (.int (nI n)), l6] [] τ := by
    intro l
    induction l with
    | nil =>
      intro n f' a l6 hp hf' hn hQ
      rw [Rs_eq]
      simp only [E_Ways_noiseFrom, fIsA, fRt, fLen, fLit, fBool]
      refine ⟨fun _ => hQ, fun _ => ?_⟩
      refine s_WnextOn (lim := 1498) (s := 64) g wa hP hc hf' (by omega) (by omega) (fun o ho => ?_)
      obtain rfl := onB_uq ho hp
      rw [show oI none = -1 from rfl]
      simp only [oT, oN, E_Ways_noiseFrom, fIsA, fRt, fLen, fLit, fBool]
      exact hQ
    | cons q l ih =>
      intro n f' a l6 hp hf' hn hQ
      rw [List.length_cons] at hn
      have hq := (hp.1.1 q rfl).1
      have hpq := (hP f' q).2
      rw [Rs_eq]
      simp only [E_Ways_noiseFrom, fIsA, fRt, fLen, fLit, fBool]
      refine ⟨fun z => absurd z (nI_ge (b := 36) (by omega) (by omega)), fun _ => ?_⟩
      refine s_WnextOn (lim := 1498) (s := 64) g wa hP hc hf' (by omega) (by omega) (fun o ho => ?_)
      obtain rfl := onB_uq ho hp.1
      have ne : (nI q = -1) = False := eq_false (fun z => absurd (z ▸ nI_pos (show q < 2 ^ 31 by omega)) (by decide))
      rw [show oI (some q) = nI q from rfl]
      simp only [oT, oN, E_Ways_noiseFrom, fIsA, fRt, fLen, fLit, fBool, ne]
      refine wa.pt g hf' hq ?_
      simp only [oT, oN, E_Ways_noiseFrom, fIsA, fRt, fLen, fLit, fBool, (hP f' q).1]
      refine s_Hnoi (Nat.mod_lt _ (by decide)) ?_
      simp only [oT, oN, E_Ways_noiseFrom, fIsA, fRt, fLen, fLit, fBool, noN_eq hpq, nI_add, nI_1]
      exact ih (n + 1) q (a + noN (P f' q) (i % 4)) _ hp.2 hq (by omega) hQ
  rw [N_Ways_noiseFrom]
  simp only [E_Ways_noiseFrom, fIsA, fRt, fLen, fLit, fBool]
  exact loop l 0 f 0 none hp hf (by omega) hQ
theorem WyI.fr {cs : List Nat} {fs : List (Nat × Nat)} {ρ n : Nat} {S : Nat → Int32} {w : Int32} {P : Int64} {τ τ' : St} (h : WyI τ ρ n S w P) (f : Fr cs fs τ τ') (hd : disF cs fs [61] [(59, 2), (59, 3), (59, 4), (60, 1)] = true) : WyI τ' ρ n S w P := by
  obtain ⟨a, b, c, e⟩ := h
  refine ⟨((f.E hd 59 2 rfl).1).trans a, ((f.E hd 59 3 rfl).1).trans b, ((f.E hd 59 4 rfl).2).trans c, fun k k1 k2 j k3 => ?_⟩
  rw [(f.E hd 60 1 rfl).1] at k2
  rw [(f.D hd 61 _ rfl).1]
  exact e k k1 k2 j k3
/-- the best of nights, of the first n -/
def bst (z : Nat → Nat) : Nat → Option (Nat × Nat)
  | 0 => none
  | n + 1 => match bst z n with
    | none => some (n, z n)
    | some (b, L) => if z n < L then some (n, z n) else some (b, L)
theorem bst_le {z : Nat → Nat} {M : Nat} (hz : ∀ n, z n ≤ M) : ∀ n, match bst z n with
    | none => n = 0
    | some (b, L) => b < n ∧ L ≤ M
  | 0 => rfl
  | n + 1 => by
    have ih := bst_le hz n
    have h := hz n
    show match (match bst z n with
      | none => some (n, z n)
      | some (b, L) => if z n < L then some (n, z n) else some (b, L)) with
      | none => n + 1 = 0
      | some (b, L) => b < n + 1 ∧ L ≤ M
    cases e : bst z n with
    | none => exact ⟨Nat.lt_succ_self n, h⟩
    | some p =>
      obtain ⟨b, L⟩ := p
      rw [e] at ih
      have ih : b < n ∧ L ≤ M := ih
      by_cases c : z n < L
      · show match (if z n < L then some (n, z n) else some (b, L)) with
          | none => n + 1 = 0
          | some (b, L) => b < n + 1 ∧ L ≤ M
        rw [if_pos c]
        exact ⟨Nat.lt_succ_self n, h⟩
      · show match (if z n < L then some (n, z n) else some (b, L)) with
          | none => n + 1 = 0
          | some (b, L) => b < n + 1 ∧ L ≤ M
        rw [if_neg c]
        exact ⟨by omega, ih.2⟩
