/-! PAIRS: planks, the class's search -/
def lcV (L : Nat) : Nat := if L < 1000000 then L else 1499
theorem pn_more {a b : Nat} (h : a ≤ b) (hb : b < 36) (q : Nat) : bitL (lN (pn a b)) q = true ↔ q = b ∨ q = a := by
  rw [← pn_bits h hb, bL_or, Bool.or_eq_true, one_bit (n := 36) hb (Nat.le_refl _) q, one_bit (n := 36) (show a < 36 by omega) (Nat.le_refl _) q]
theorem pn_cnt {a b : Nat} (h : a ≤ b) (hb : b < 36) : bL (lN (pn a b)) = nI (if a = b then 1 else 2) := by
  have moreB := pn_more h hb
  have bm := bL_cn (x := lN (pn a b)) (fun f h => by rcases (moreB f).mp h with e | e <;> omega)
  have cm := cn_of moreB 36
  rw [if_pos hb] at cm
  rw [bm, cm]
  congr 1
  by_cases e : a = b
  · rw [if_pos e, if_neg (fun w => w.2 e)]
  · rw [if_neg e, if_pos ⟨by omega, e⟩]
theorem pn_fre {a b : Nat} {F : Nat → Prop} {FX : Int64} (h : a ≤ b) (hb : b < 36) (fB : ∀ q, bitL FX q = true ↔ F q) : (lN (pn a b)) &&& (FX ^^^ (-1)) = 0 ↔ F a ∧ F b := by
  have moreB := pn_more h hb
  constructor
  · intro e0
    have : ∀ q, q < 64 → bitL (lN (pn a b)) q = true → F q := fun q hq b2 => by
      refine Classical.byContradiction (fun nf => ?_)
      have : bitL ((lN (pn a b)) &&& (FX ^^^ (-1))) q = true := by
        rw [bL_and, b2, bL_xor, bL_m1 q hq]
        cases c : bitL FX q with
        | true => exact absurd ((fB q).mp c) nf
        | false => rfl
      rw [e0, bL_0] at this
      exact absurd this (by decide)
    exact ⟨this a (by omega) ((moreB a).mpr (Or.inr rfl)), this b (by omega) ((moreB b).mpr (Or.inl rfl))⟩
  · rintro ⟨fl, fh⟩
    refine bL_ext (fun q hq => ?_)
    rw [bL_and, bL_xor, bL_m1 q hq, bL_0]
    cases c : bitL (lN (pn a b)) q with
    | false => rfl
    | true =>
      have : bitL FX q = true := by
        rcases (moreB q).mp c with e | e
        · rw [e]; exact (fB b).mpr fh
        · rw [e]; exact (fB a).mpr fl
      rw [this]
      rfl
theorem fre_cnt {FX : Int64} {F : Nat → Prop} (fB : ∀ q, bitL FX q = true ↔ F q) (hF : ∀ q, F q → q < 36) : ∃ c, c ≤ 36 ∧ bL FX = nI c ∧ (1 ≤ c ↔ ∃ a, F a) ∧ (2 ≤ c ↔ ∃ a b, a < b ∧ F a ∧ F b) := by
  refine ⟨cnL FX 36, cnL_le FX 36, bL_cn (fun f h => hF f ((fB f).mp h)), ⟨fun h => ?_, fun ⟨a, h⟩ => cn_one' ((fB a).mpr h) 36 (hF a h)⟩, ⟨fun h => ?_, fun ⟨a, b, ab, h1, h2⟩ => cn_two' ab ((fB a).mpr h1) ((fB b).mpr h2) 36 (hF b h2)⟩⟩
  · obtain ⟨a, _, h⟩ := cn_one 36 h
    exact ⟨a, (fB a).mp h⟩
  · obtain ⟨a, b, ab, _, h1, h2⟩ := cn_two 36 h
    exact ⟨a, b, ab, (fB a).mp h1, (fB b).mp h2⟩
def tpI (kd ht : Nat → Nat) (R C m : Nat) (S : Nat → Int32) (w : Int32) (r : Nat → Int32) (i : Nat) (Pr : Nat → Prop) (τ1 τ3 : St) : Prop := ∃ L B r0, Fr [] [(59, 4), (59, 6), (59, 7)] τ1 τ3 ∧ WzI R C ht m S w r0 (r 47) i τ3 ∧ stB (vN kd ht R C m S w r i) Pr L B ∧ τ3.1 59 6 = nI (lcV L) ∧ τ3.2 59 7 = lN B ∧ B < 2 ^ 36
theorem tpI.cg {kd ht : Nat → Nat} {R C m i : Nat} {S r : Nat → Int32} {w : Int32} {Pr Pr' : Nat → Prop} {τ1 τ3 : St} (h : tpI kd ht R C m S w r i Pr τ1 τ3) (e : ∀ N, Pr N ↔ Pr' N) : tpI kd ht R C m S w r i Pr' τ1 τ3 := by
  obtain ⟨L, B, r0, a, b, c, x⟩ := h
  exact ⟨L, B, r0, a, b, stB_cg e c, x⟩
theorem s_try1 {d R C m i N : Nat} {kd ht : Nat → Nat} {S r : Nat → Int32} {w : Int32} {Pr : Nat → Prop} {Q : Qt} {τ1 τ3 : St} (g1 : GI τ1 R C kd ht) (hpl : ∀ q, q < R * C → r q = if bitL (τ1.2 9 3) q then 1 else 0) (hv : ∀ N, vN kd ht R C m S w r i N ≤ 1498) (tp : tpI kd ht R C m S w r i Pr τ1 τ3) (hN : N < 2 ^ 36) (ord : ∀ N', Pr N' → N' < N ∨ N' = 0) (hQ : ∀ τ4, tpI kd ht R C m S w r i (fun N' => Pr N' ∨ N' = N) τ1 τ4 → Q none τ4) : Cl (d + 8) m_Ways_tryPlanks [.ref 59, .long (τ3.2 9 3), .long (lN N)] τ3 Q := by
  obtain ⟨L, B, r0, f3, wz3, st, a6, a7, hB⟩ := tp
  have hvN := hv N
  have hvB := hv B
  have lc : lcV L ≤ 1499 ∧ (vN kd ht R C m S w r i N < lcV L ↔ vN kd ht R C m S w r i N < L) := by
    unfold lcV
    rcases st with ⟨a, _⟩ | ⟨a, b, c, _⟩
    · rw [if_neg (by omega)]
      omega
    · rw [if_pos a]
      omega
  have hv7 : vN kd ht R C m S w r i N ≤ 1000000 := by omega
  refine s_WtryPlanks (r := r) (g1.fr f3 rfl) wz3 (fun q hq => by rw [f3.u2 9 3 rfl]; exact hpl q hq) a6 lc.1 hvN (fun lt τ4 f4 wz4 b6 b7 => ?_) (fun nlt τ4 f4 wz4 b6 b7 => ?_)
  · have lt := lc.2.mp lt
    refine hQ τ4 ⟨vN kd ht R C m S w r i N, N, _, f3.tr f4, wz4, stB_take hv7 st (Or.inl lt), ?_, b7, hN⟩
    rw [b6]
    unfold lcV
    rw [if_pos (by omega)]
  · have nlt : ¬ vN kd ht R C m S w r i N < L := fun w => nlt (lc.2.mpr w)
    refine hQ τ4 ⟨L, B, _, f3.tr f4, wz4, stB_keep hv7 st (fun w => ?_), b6.trans a6, b7.trans a7, hB⟩
    rcases w with w | ⟨_, w⟩
    · exact nlt w
    · rcases st with ⟨_, b, _⟩ | ⟨_, b, _, _⟩
      · omega
      · rcases ord B b with o | o <;> omega
theorem s_Hlow {d R C m i kk hg : Nat} {kd ht : Nat → Nat} {S r : Nat → Int32} {w : Int32} {FX : Int64} {Q : Qt} {τ1 : St} (g1 : GI τ1 R C kd ht) (hpl : ∀ q, q < R * C → r q = if bitL (τ1.2 9 3) q then 1 else 0) (hv : ∀ N, vN kd ht R C m S w r i N ≤ 1498) (hk : kk ≤ 2) (fB : ∀ q, bitL FX q = true ↔ fre kd R C r q) (hgl : hg < R * C)
    (hQ : ∀ (l6 l7 : Option Value) (τ3 : St), tpI kd ht R C m S w r i (PC (fre kd R C r) kk (hg + 1) 0) τ1 τ3 → Rs M_H_planks (d + 8) Q 96 [some (.ref 0), some (.int w), some (.int (nI kk)), some (.long FX), none, some (.int (nI (hg + 1))), l6, l7, none] [] τ3) : ∀ (v lw : Nat) (τ3 : St) (l7 : Option Value), lw + v = hg + 1 → tpI kd ht R C m S w r i (PC (fre kd R C r) kk hg lw) τ1 τ3 → Rs M_H_planks (d + 8) Q 111 [some (.ref 0), some (.int w), some (.int (nI kk)), some (.long FX), none, some (.int (nI hg)), some (.int (nI lw)), l7, none] [] τ3 := by
  have hn := g1.n36
  intro v
  induction v with
  | zero =>
    intro lw τ3 l7 hv2 tp
    obtain rfl : lw = hg + 1 := by omega
    rw [Rs_eq]
    simp only [E_H_planks, fIsA, fRt, fLen, fLit, fBool, nI_1]
    refine ⟨fun _ => hQ _ _ τ3 (tp.cg (fun N => or_congr Iff.rfl ⟨fun ⟨a, b, o, x⟩ => ⟨a, b, by omega, x⟩, fun ⟨a, b, o, x⟩ => ⟨a, b, by have := x.1; omega, x⟩⟩)), fun z => absurd (nI_lt (show hg < hg + 1 by omega) (by omega)) z⟩
  | succ v ih2 =>
    intro lw τ3 l7 hv2 tp
    have hlw : lw ≤ hg := by omega
    have skip : ¬ ((kk = 1 ∧ lw = hg ∨ kk = 2 ∧ lw < hg) ∧ fre kd R C r lw ∧ fre kd R C r hg) → ∀ l7, Rs M_H_planks (d + 8) Q 111 [some (.ref 0), some (.int w), some (.int (nI kk)), some (.long FX), none, some (.int (nI hg)), some (.int (nI (lw + 1))), l7, none] [] τ3 := fun nv l7 => ih2 (lw + 1) τ3 l7 (by omega) (tp.cg (fun N => or_congr Iff.rfl ⟨fun ⟨a, b, o, x⟩ => ⟨a, b, by omega, x⟩, fun ⟨a, b, o, x⟩ => ⟨a, b, by
      rcases o with o | ⟨o, o2⟩
      · exact Or.inl o
      · by_cases e : a = lw
        · subst e o
          exact absurd ⟨x.2.1, x.2.2.1, x.2.2.2.1⟩ nv
        · exact Or.inr ⟨o, by omega⟩, x⟩⟩))
    rw [Rs_eq]
    simp only [E_H_planks, fIsA, fRt, fLen, fLit, fBool, pn_bits hlw (show hg < 36 by omega)]
    refine ⟨fun z => ?_, fun _ => ?_⟩
    · have := (nI_ltI (by omega) (by omega)).mp z
      omega
    refine s_bitsL ?_
    have hb := pn_fre (F := fre kd R C r) hlw (show hg < 36 by omega) fB
    have c3 : (if lw = hg then 1 else 2) ≤ 2 := by split <;> omega
    simp only [oT, oN, E_H_planks, fIsA, fRt, fLen, fLit, fBool, pn_cnt hlw (show hg < 36 by omega), nI_1]
    refine ⟨fun z => skip (fun w => z (by
      congr 1
      rcases w.1 with ⟨x, y⟩ | ⟨x, y⟩
      · rw [if_pos y]; omega
      · rw [if_neg (by omega)]; omega)) _, fun z => ?_⟩
    have z := (nI_eq (by omega) (by omega)).mp z
    have shape : kk = 1 ∧ lw = hg ∨ kk = 2 ∧ lw < hg := by
      by_cases e : lw = hg
      · rw [if_pos e] at z; omega
      · rw [if_neg e] at z; omega
    refine ⟨fun y => skip (fun w => y (lcmp0.mpr (hb.mpr w.2))) _, fun y => ?_⟩
    obtain ⟨fl, fh⟩ := hb.mp (lcmp0.mp y)
    refine s_try1 g1 hpl hv tp (Nat.lt_of_lt_of_le (pn_lt hlw) (Nat.pow_le_pow_right (by omega) (by omega))) (fun N' h => ?_) (fun τ4 tp4 => ?_)
    · rcases h with ⟨_, h⟩ | ⟨a, b, o, x1, x2, _, _, x5⟩
      · exact Or.inr h
      · rw [x5]
        exact Or.inl (pn_ord x1 (by omega) o)
    · simp only [oT, oN, E_H_planks, fIsA, fRt, fLen, fLit, fBool, nI_1]
      refine ih2 (lw + 1) τ4 _ (by omega) (tp4.cg (fun N => ?_))
      constructor
      · rintro ((h | ⟨a, b, o, x⟩) | h)
        · exact Or.inl h
        · exact Or.inr ⟨a, b, by omega, x⟩
        · exact Or.inr ⟨lw, hg, Or.inr ⟨rfl, by omega⟩, hlw, shape, fl, fh, h⟩
      · rintro (h | ⟨a, b, o, x⟩)
        · exact Or.inl (Or.inl h)
        · by_cases e : a = lw ∧ b = hg
          · obtain ⟨rfl, rfl⟩ := e
            exact Or.inr x.2.2.2.2
          · exact Or.inl (Or.inr ⟨a, b, by omega, x⟩)
theorem s_Hhigh {d R C m i kk : Nat} {kd ht : Nat → Nat} {S r : Nat → Int32} {w : Int32} {FX : Int64} {Q : Qt} {τ1 : St} (g1 : GI τ1 R C kd ht) (hpl : ∀ q, q < R * C → r q = if bitL (τ1.2 9 3) q then 1 else 0) (hv : ∀ N, vN kd ht R C m S w r i N ≤ 1498) (hk : kk ≤ 2) (fB : ∀ q, bitL FX q = true ↔ fre kd R C r q) (ex : ∃ N, SF (fre kd R C r) kk 0 0 N)
    (good : ∀ L B, L < 1000000 → stB (vN kd ht R C m S w r i) (SF (fre kd R C r) kk 0 0) L B → ∀ τ', Fr [4] [(3, 1), (59, 4), (59, 6), (59, 7)] τ1 τ' → τ'.1 3 1 = 1 → τ'.2 4 0 = lN B → Q (some (.int (nI L))) τ') : ∀ (u hg : Nat) (τ3 : St) (l6 l7 : Option Value), hg + u = R * C → tpI kd ht R C m S w r i (PC (fre kd R C r) kk hg 0) τ1 τ3 → Rs M_H_planks (d + 8) Q 96 [some (.ref 0), some (.int w), some (.int (nI kk)), some (.long FX), none, some (.int (nI hg)), l6, l7, none] [] τ3 := by
  intro u
  induction u with
  | zero =>
    intro hg τ3 l6 l7 hu tp
    obtain rfl : hg = R * C := by omega
    obtain ⟨L, B, r0, f3, wz3, st, a6, a7, hB⟩ := tp
    have g3 := g1.fr f3 rfl
    have stF := stB_cg (PC_SF hk (fun a (h : fre kd R C r a) => h.1)) st
    have hL : L < 1000000 := by
      refine Nat.lt_of_not_le (fun wl => ?_)
      obtain ⟨N, hN⟩ := ex
      have hvN := hv N
      rcases stF with ⟨_, _, c⟩ | ⟨a, _⟩
      · have := c N hN
        omega
      · omega
    have e6 : τ3.1 59 6 = nI L := by
      rw [a6]
      unfold lcV
      rw [if_pos hL]
    rw [Rs_eq]
    simp only [E_H_planks, fIsA, fRt, fLen, fLit, fBool, g3.2.1, a7]
    refine ⟨fun _ => ?_, fun z => absurd (Int32.le_refl _) z⟩
    refine s_RowOnly ?_
    have en := good L B hL stF (sI (sL (sI τ3 3 1 0) 4 0 (lN B)) 3 1 1) ((((f3.wk rfl).i rfl).lc rfl).i rfl) rfl rfl
    have e6' : (sI (sL (sI τ3 3 1 0) 4 0 (lN B)) 3 1 1).1 59 6 = nI L := by
      simp only [sI_1, sL_1, reduceIte, Nat.reduceEqDiff]
      exact e6
    simp only [oT, oN, E_H_planks, fIsA, fRt, fLen, fLit, fBool, e6']
    exact en
  | succ u ih =>
    intro hg τ3 l6 l7 hu tp
    have hgl : hg < R * C := by omega
    obtain ⟨L, B, r0, f3, _⟩ := id tp
    have g3 := g1.fr f3 rfl
    have hn := g1.n36
    rw [Rs_eq]
    simp only [E_H_planks, fIsA, fRt, fLen, fLit, fBool, g3.2.1]
    refine ⟨fun z => absurd z (nI_ge (by omega) (by omega)), fun _ => s_Hlow g1 hpl hv hk fB hgl (fun l6 l7 τ4 tp4 => ih (hg + 1) τ4 l6 l7 (by omega) tp4) (hg + 1) 0 τ3 _ (by omega) tp⟩
