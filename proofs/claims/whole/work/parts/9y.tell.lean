/-! WAYS: a way told, by both -/
def oJ (o : Option Nat) : Int32 := match o with
  | some g => nI g
  | none => nI 36
theorem pth_hd {kd : Nat → Nat} {R C lim s f : Nat} {P : Nat → Nat → Nat} {c : Nat → Nat} {l : List Nat} (h : pth kd R C P lim s c f l) : onB kd R C P lim s c f 4 l.head? := by
  cases l with
  | nil => exact h
  | cons q l => exact h.1
theorem s_Wtell {d R C m i lim s f : Nat} {kd ht c : Nat → Nat} {S r : Nat → Int32} {w hh : Int32} {P : Nat → Nat → Nat} {Q : Qt} {τ : St} {l : List Nat} (g : GI τ R C kd ht) (wa : WzI R C ht m S w r hh i τ) (hP : ∀ f q, plF ht m S w r hh i f q = nI (P f q) ∧ P f q ≤ 1498) (hc : ∀ f, f < R * C → τ.1 62 f = nI (c f) ∧ c f ≤ 2 ^ 30) (hf : f < R * C) (hl : lim ≤ 1498) (hs : s ≤ 64) (hp : pth kd R C P lim s c f l) (hn : l.length ≤ 35)
    (hQ : ∀ τ', Fr [4] [(3, 1)] τ τ' → τ'.1 3 1 = nI (l.length + 1) → (∀ j, j < l.length + 1 → τ'.2 4 j = (nI ((f :: l).getD j 0)).toInt64) → Q none τ') : Cl (d + 5) m_Ways_tell [.ref 59, .int (nI f), .int (nI lim), .int (nI s), .ref 3] τ Q := by
  have loop : ∀ (l : List Nat) (n f' : Nat) (o : Option Nat) (τ1 : St), o = l.head? → pth kd R C P lim s c f' l → f' < R * C → n + 1 + l.length ≤ 36 → Fr [4] [(3, 1)] τ τ1 → τ1.1 3 1 = nI (n + 1) → (∀ τ', Fr [4] [(3, 1)] τ τ' → τ'.1 3 1 = nI (n + 1 + l.length) → (∀ j, j < n + 1 → τ'.2 4 j = τ1.2 4 j) → (∀ j, j < l.length → τ'.2 4 (n + 1 + j) = (nI (l.getD j 0)).toInt64) → Q none τ') → Rs M_Ways_tell (d + 4) Q 19 [some (.ref 59), some (.int (nI f)), some (.int (nI lim)), some (.int (nI s)), some (.ref 3), some (.int (oI o)), some (.int (nI n))] [] τ1 := by
    intro l
    induction l with
    | nil =>
      intro n f' o τ1 ho hp hf' hn fr h1 hQ
      subst ho
      rw [Rs_eq]
      have en := hQ τ1 fr h1 (fun j _ => rfl) (fun j hj => absurd hj (Nat.not_lt_zero _))
      rw [show oI ([] : List Nat).head? = -1 from rfl]
      simp only [E_Ways_tell, fIsA, fRt, fLen, fLit, fBool]
      exact ⟨fun _ => en, fun _ => en⟩
    | cons q l ih =>
      intro n f' o τ1 ho hp hf' hn fr h1 hQ
      subst ho
      rw [List.length_cons] at hn
      have hq := (hp.1.1 q rfl).1
      have g36 := g.n36
      rw [show oI (q :: l).head? = nI q from rfl, Rs_eq]
      simp only [E_Ways_tell, fIsA, fRt, fLen, fLit, fBool]
      refine ⟨fun z => absurd z (nI_ge (b := 36) (by omega) (by omega)), fun _ => ⟨fun z => absurd (z ▸ nI_pos (show q < 2 ^ 31 by omega)) (by decide), fun _ => ?_⟩⟩
      refine s_RowAdd (n := n + 1) h1 (by omega) ?_
      simp only [oT, oN, E_Ways_tell, fIsA, fRt, fLen, fLit, fBool, nI_1]
      have f1 : Fr [4] [(3, 1)] τ (sI (sL τ1 4 (n + 1) (nI q).toInt64) 3 1 (nI (n + 1 + 1))) := (fr.lc rfl).i rfl
      refine s_WnextOn (g.fr f1 rfl) (wa.fr f1 rfl rfl rfl rfl rfl rfl rfl) hP (fun x hx => by rw [f1.c1 62 rfl]; exact hc x hx) hq hl hs (fun o' ho' => ?_)
      simp only [oT, oN, E_Ways_tell, fIsA, fRt, fLen, fLit, fBool, nI_1]
      refine ih (n + 1) q o' _ (onB_uq ho' (pth_hd hp.2)) hp.2 hq (by omega) f1 rfl (fun τ' f2 e1 e2 e3 => hQ τ' f2 (by rw [e1, List.length_cons]; congr 1; omega) (fun j hj => ?_) (fun j hj => ?_))
      · rw [e2 j (by omega)]
        simp only [sI_2, sL_2, reduceIte]
        rw [if_neg (by omega)]
      · cases j with
        | zero =>
          rw [e2 _ (by omega)]
          simp only [sI_2, sL_2, reduceIte, Nat.add_zero, List.getD_cons_zero]
        | succ j =>
          rw [List.length_cons] at hj
          rw [show n + 1 + (j + 1) = n + 1 + 1 + j by omega, e3 j (by omega), List.getD_cons_succ]
  rw [N_Ways_tell]
  simp only [E_Ways_tell, fIsA, fRt, fLen, fLit, fBool]
  refine s_RowOnly ?_
  simp only [oT, oN, E_Ways_tell, fIsA, fRt, fLen, fLit, fBool]
  have f1 : Fr [4] [(3, 1)] τ (sI (sL (sI τ 3 1 0) 4 0 (nI f).toInt64) 3 1 1) := ((Fr.rf.i rfl).lc rfl).i rfl
  refine s_WnextOn (g.fr f1 rfl) (wa.fr f1 rfl rfl rfl rfl rfl rfl rfl) hP (fun x hx => by rw [f1.c1 62 rfl]; exact hc x hx) hf hl hs (fun o ho => ?_)
  simp only [oT, oN, E_Ways_tell, fIsA, fRt, fLen, fLit, fBool]
  refine loop l 0 f o _ (onB_uq ho (pth_hd hp)) hp hf (by omega) f1 rfl (fun τ' f2 e1 e2 e3 => hQ τ' f2 (by rw [e1]; congr 1; omega) (fun j hj => ?_))
  cases j with
  | zero =>
    rw [e2 0 (by omega)]
    simp only [sI_2, sL_2, reduceIte, List.getD_cons_zero]
  | succ j => rw [show j + 1 = 0 + 1 + j by omega, e3 j (by omega), show 0 + 1 + j = j + 1 by omega, List.getD_cons_succ]
/-! the reference's next field, by drags alone -/
theorem s_wayLoop {D R C t lim w0 f0 : Nat} {kd ht mm : Nat → Nat} {P : Nat → Nat → Nat} {w : Int32} {Q : Qt} {τ : St} (g : GI τ R C kd ht) (pu : PuN kd R C P τ) (hP : ∀ f q, P f q ≤ 1498) (hl : lim < 2 ^ 30) (ht2 : t < R * C) (kt : kd t ≠ 3) (h89 : ∀ f, f < 36 → τ.1 89 f = nI (mm f)) (mu : muP kd R C P t lim mm) (me : meP kd R C P lim mm) : ∀ (l : List Nat) (n f : Nat) (τ1 : St) (l6 l7 l8 l9 : Option Value), pth kd R C P lim 0 (ccM mm) f l → f < R * C → mm f < 1000000 → n + l.length ≤ 47 → Fr [70] [(69, 1)] τ τ1 → τ1.1 69 1 = nI n → (∀ τ', Fr [70] [(69, 1)] τ τ' → τ'.1 69 1 = nI (n + l.length) → (∀ j, j < n → τ'.2 70 j = τ1.2 70 j) → (∀ j, j < l.length → τ'.2 70 (n + j) = (nI (l.getD j 0)).toInt64) → Q (some (.int (nI lim))) τ') → Rs M_M_way (D + 2) Q 100 [some (.ref 69), some (.int w), some (.int (nI f0)), some (.int (nI t)), some (.int (nI lim)), some (.int (nI f)), l6, l7, l8, l9] [] τ1 := by
  have hn := g.n36
  have mz := mu_mz hn.1 ht2 kt mu me
  intro l
  induction l with
  | nil =>
    intro n f τ1 l6 l7 l8 l9 hp hf f6 hn2 fr h1 hQ
    have ft : f = t := Classical.byContradiction (fun ft => by
      obtain ⟨q, e, _⟩ := onB_so mz kt hf ((ccM_far hn.1 mu me hf).1.mpr f6) ft hp
      exact absurd e (by simp))
    subst ft
    rw [Rs_eq]
    simp only [E_M_way, fIsA, fRt, fLen, fLit, fBool]
    have en := hQ τ1 fr h1 (fun j _ => rfl) (fun j hj => absurd hj (Nat.not_lt_zero _))
    first
      | exact en
      | exact ⟨fun z => absurd rfl z, fun _ => en⟩
      | exact ⟨fun _ => en, fun z => absurd rfl z⟩
  | cons q l ih =>
    intro n f τ1 l6 l7 l8 l9 hp hf f6 hn2 fr h1 hQ
    have ft : f ≠ t := fun ft => by
      have := onB_no mz ft hp.1
      exact absurd this (by simp)
    have fm : f < 36 := by omega
    have cf := (ccM_far hn.1 mu me hf).1.mpr f6
    rw [List.length_cons] at hn2
    have g1 := g.fr fr rfl
    have pu1 := pu.fr fr rfl
    have h1' : ∀ x, x < 36 → τ1.1 89 x = nI (mm x) := fun x hx => by rw [fr.c1 89 rfl]; exact h89 x hx
    have inner : ∀ (u h : Nat) (o : Option Nat) (l8 l9 : Option Value), h + u = 4 → onB kd R C P lim 0 (ccM mm) f h o → Rs M_M_way (D + 2) Q 113 [some (.ref 69), some (.int w), some (.int (nI f0)), some (.int (nI t)), some (.int (nI lim)), some (.int (nI f)), some (.int (oJ o)), some (.int (nI h)), l8, l9] [] τ1 := by
      intro u
      induction u with
      | zero =>
        intro h o l8 l9 hh b
        obtain rfl : h = 4 := by omega
        obtain rfl := onB_uq b hp.1
        have hq := (b.1 q rfl).1
        rw [Rs_eq]
        simp only [E_M_way, fIsA, fRt, fLen, fLit, fBool]
        refine ⟨fun _ => ?_, fun z => absurd (Int32.le_refl _) z⟩
        refine s_Menters (n := n) h1 (by omega) ?_
        simp only [oT, oN, E_M_way, fIsA, fRt, fLen, fLit, fBool, nI_1]
        obtain ⟨q', e', _, cq, _⟩ := onB_so mz kt hf cf ft hp.1
        obtain rfl := Option.some.inj e'
        refine ih (n + 1) q _ _ _ _ _ hp.2 hq ((ccM_far hn.1 mu me hq).1.mp cq) (by omega) ((fr.lc rfl).i rfl) rfl (fun τ' f2 e1 e2 e3 => hQ τ' f2 (by rw [e1, List.length_cons]; congr 1; omega) (fun j hj => ?_) (fun j hj => ?_))
        · rw [e2 j (by omega)]
          simp only [sI_2, sL_2, reduceIte]
          rw [if_neg (by omega)]
        · cases j with
          | zero =>
            rw [e2 _ (by omega)]
            simp only [sI_2, sL_2, reduceIte, Nat.add_zero, List.getD_cons_zero]
            rfl
          | succ j =>
            rw [List.length_cons] at hj
            rw [show n + (j + 1) = n + 1 + j by omega, e3 j (by omega), List.getD_cons_succ]
      | succ u ih2 =>
        intro h o l8 l9 hh b
        have e4 : (4 : Int32) * nI f + nI h = nI (4 * f + h) := by rw [show (4 : Int32) = nI 4 from rfl, pk_mul, nI_add]
        have pk := pu1 (4 * f + h) (by omega)
        rw [show (4 * f + h) / 4 = f by omega, show (4 * f + h) % 4 = h by omega] at pk
        have skip : (∀ q, nk kd R C f h = some q → onQ P lim 0 (ccM mm) f q → ∃ p, o = some p ∧ p ≤ q) → ∀ l8 l9, Rs M_M_way (D + 2) Q 113 [some (.ref 69), some (.int w), some (.int (nI f0)), some (.int (nI t)), some (.int (nI lim)), some (.int (nI f)), some (.int (oJ o)), some (.int (nI (h + 1))), l8, l9] [] τ1 := fun z l8 l9 => ih2 (h + 1) o l8 l9 (by omega) (onB_skip b z)
        have kf : kd f ≠ 3 := by
          obtain ⟨_, _, _, _, _, h', e⟩ := onB_so mz kt hf cf ft hp.1
          exact e.2.2.1
        rw [Rs_eq]
        simp only [E_M_way, fIsA, fRt, fLen, fLit, fBool]
        refine ⟨fun z => absurd z (nI_ge (b := 4) (by omega) (by omega)), fun _ => ?_⟩
        refine s_Mbeside g1 hf (by omega) ?_
        rcases pk with ⟨p1, p2⟩ | ⟨p, p1, p2⟩
        · simp only [oT, E_M_way, fIsA, fRt, fLen, fLit, fBool, nI_1, e4, nI_clamp (show 4 * f + h < 2 ^ 31 by omega), p1]
          exact ⟨vp_in_nI (by omega) (by omega), skip (fun q e _ => absurd ⟨hf, by omega, kf, e⟩ (p2 q)) _ _⟩
        · have hpq := hP f p
          have hpl := eG_lt p2
          have ebn := (nk_nb p2.2.2.2).1
          have oq : ∀ q', nk kd R C f h = some q' → q' = p := fun q' e => by
            rw [p2.2.2.2] at e
            exact (Option.some.inj e).symm
          have bp := mu.2.1 p (by omega)
          rw [ebn, show oI (some p) = nI p from rfl]
          simp only [oT, E_M_way, fIsA, fRt, fLen, fLit, fBool, nI_1, e4, nI_clamp (show 4 * f + h < 2 ^ 31 by omega), nI_clamp (show f < 2 ^ 31 by omega), nI_clamp (show p < 2 ^ 31 by omega), p1, h1' p (by omega), h1' f fm]
          refine ⟨vp_in_nI (by omega) (by omega), fun z => absurd z (nI_pos (by omega)), fun _ => ⟨vp_in_nI (by omega) (by omega), fun z => ?_, fun z => ⟨vp_in_nI (by omega) (by omega), vp_in_nI (by omega) (by omega), fun y => ?_, fun y => ?_⟩⟩⟩
          · have z := (nI_ltI (by omega) (by omega)).mp z
            exact skip (fun q' e on => by obtain rfl := oq q' e; exact absurd on.2.1 (by omega)) _ _
          · refine skip (fun q' e on => ?_) _ _
            obtain rfl := oq q' e
            obtain ⟨o1, _, o3⟩ := on
            exfalso
            apply y
            by_cases c6 : mm q' < 1000000
            · rw [ccM_lt c6, ccM_lt f6] at o3
              rw [show mm q' + 1 = mm f by omega]
            · exact absurd (ccM_ge c6) o1
          · have z : P f p ≤ lim := Nat.le_of_not_lt (fun w => z (nI_lt w (by omega)))
            have y : mm p + 1 = mm f := (nI_eq (by omega) (by omega)).mp y
            have p6 : mm p < 1000000 := by omega
            have on : onQ P lim 0 (ccM mm) f p := ⟨by rw [ccM_lt p6]; omega, z, by rw [ccM_lt p6, ccM_lt f6]; omega⟩
            have tk : (∀ x, o = some x → p ≤ x) → ∀ l8 l9, Rs M_M_way (D + 2) Q 113 [some (.ref 69), some (.int w), some (.int (nI f0)), some (.int (nI t)), some (.int (nI lim)), some (.int (nI f)), some (.int (nI p)), some (.int (nI (h + 1))), l8, l9] [] τ1 := fun z l8 l9 => ih2 (h + 1) (some p) l8 l9 (by omega) (onB_take b p2.2.2.2 hpl on z)
            cases o with
            | none =>
              rw [show oJ none = nI 36 from rfl, if_pos (nI_lt (show p < 36 by omega) (by omega))]
              exact tk (fun x e => absurd e (by simp)) _ _
            | some x =>
              have hx := (b.1 x rfl).1
              rw [show oJ (some x) = nI x from rfl]
              by_cases c : p < x
              · rw [if_pos (nI_lt c (by omega))]
                exact tk (fun x' e => by obtain rfl := Option.some.inj e; omega) _ _
              · rw [if_neg (fun w => c ((nI_ltI (by omega) (by omega)).mp w))]
                exact skip (fun q' e _ => by obtain rfl := oq q' e; exact ⟨x, rfl, by omega⟩) _ _
    rw [Rs_eq]
    simp only [E_M_way, fIsA, fRt, fLen, fLit, fBool]
    have st := inner 4 0 none l8 l9 (by omega) ⟨fun q e => absurd e (by simp), fun h' q' z => absurd z (Nat.not_lt_zero _)⟩
    first
      | exact ⟨fun z => absurd ((nI_eq (by omega) (by omega)).mp z) ft, fun _ => st⟩
      | exact ⟨fun _ => st, fun z => absurd ((nI_eq (by omega) (by omega)).mp z) ft⟩
