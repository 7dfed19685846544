/-! THE ABSTRACT MACHINE over the world of cells: locals as a list, a step as what must hold of what follows; a run as the least relation that is closed under steps; a call by a depth that falls. -/
abbrev Lc : Type := List (Option Value)
abbrev Kt : Type := Nat → Lc → List Value → St → Prop
abbrev Qt : Type := Option Value → St → Prop
abbrev Ct : Type := Nat → List Value → St → Qt → Prop
abbrev Tr : Type := Kt → Ct → Qt → Lc → List Value → St → Prop
abbrev Cd : Type := Nat → Option Tr
/-- name, bytes, locals, answer, code -/
abbrev MT : Type := MethodName × ByteArray × Nat × Option FieldType × Cd
def Rr (cd : Cd) (C : Ct) (Q : Qt) (pc : Nat) (L : Lc) (st : List Value) (τ : St) : Prop :=
  ∀ P : Kt, (∀ (pc : Nat) (T : Tr), cd pc = some T → ∀ (L : Lc) (st : List Value) (τ : St), T P C Q L st τ → P pc L st τ) → P pc L st τ
def MonC (C : Ct) : Prop := ∀ (μ : Nat) (As : List Value) (τ : St) (Q Q' : Qt), (∀ v τ', Q v τ' → Q' v τ') → C μ As τ Q → C μ As τ Q'
def MonT (T : Tr) : Prop := ∀ (P P' : Kt) (C : Ct) (Q Q' : Qt) (L : Lc) (st : List Value) (τ : St), MonC C → (∀ v τ', Q v τ' → Q' v τ') → (∀ pc L st τ, P pc L st τ → P' pc L st τ) → T P C Q L st τ → T P' C Q' L st τ
def MonA (cd : Cd) : Prop := ∀ (pc : Nat) (T : Tr), cd pc = some T → MonT T
theorem Rr_in {cd : Cd} {C : Ct} {Q : Qt} {pc : Nat} {T : Tr} {L : Lc} {st : List Value} {τ : St} (hm : MonA cd) (hC : MonC C) (h : cd pc = some T) (k : T (Rr cd C Q) C Q L st τ) : Rr cd C Q pc L st τ := by
  intro P hP
  exact hP pc T h L st τ (hm pc T h _ _ C Q Q L st τ hC (fun _ _ q => q) (fun pc L st τ q => q P hP) k)
theorem Rr_out {cd : Cd} {C : Ct} {Q : Qt} {pc : Nat} {T : Tr} {L : Lc} {st : List Value} {τ : St} (hm : MonA cd) (hC : MonC C) (h : cd pc = some T) (k : Rr cd C Q pc L st τ) : T (Rr cd C Q) C Q L st τ := by
  have k2 := k (fun pc L st τ => ∃ T, cd pc = some T ∧ T (Rr cd C Q) C Q L st τ) (fun pc T' h' L st τ q => ⟨T', h', hm pc T' h' _ _ C Q Q L st τ hC (fun _ _ q => q) (fun pc L st τ ⟨T2, g1, g2⟩ => Rr_in hm hC g1 g2) q⟩)
  obtain ⟨T2, g1, g2⟩ := k2
  rw [h] at g1
  cases g1
  exact g2
theorem Rr_mono {cd : Cd} {C : Ct} {Q Q' : Qt} {pc : Nat} {L : Lc} {st : List Value} {τ : St} (hm : MonA cd) (hC : MonC C) (hQ : ∀ v τ', Q v τ' → Q' v τ') (k : Rr cd C Q pc L st τ) : Rr cd C Q' pc L st τ :=
  k (Rr cd C Q') (fun pc T h L st τ q => Rr_in hm hC h (hm pc T h _ _ C Q Q' L st τ hC hQ (fun _ _ _ _ z => z) q))
/-! locals -/
def klv (o : Option Value) : Option Value := match o with
  | some v => bif v.category == 2 then none else some v
  | none => none
def lset1 : Lc → Nat → Value → Lc
  | [], _, _ => []
  | _ :: L, 0, v => some v :: L
  | a :: L, 1, v => klv a :: lset1 L 0 v
  | a :: L, n + 2, v => a :: lset1 L (n + 1) v
def lset2 (L : Lc) (i : Nat) (v : Value) : Lc := (lset1 L i v).set (i + 1) none
def lay : List Value → Lc
  | [] => []
  | v :: vs => bif v.category == 2 then some v :: none :: lay vs else some v :: lay vs
def ent (n : Nat) (As : List Value) : Lc := lay As ++ List.replicate (n - (lay As).length) none
def lvl (ad : Nat → Nat) : Nat → Lc → List (Nat × Value)
  | _, [] => []
  | i, none :: L => lvl ad (i + 1) L
  | i, some v :: L => (i, mv ad v) :: lvl ad (i + 1) L
def lvP (ad : Nat → Nat) (ls : Array Slot) (n : Nat) (L : Lc) : Prop := L.length = n ∧ lv_has ls n (lvl ad 0 L)
theorem mem_lvl {ad : Nat → Nat} {q : Nat × Value} : ∀ {L : Lc} {i : Nat}, q ∈ lvl ad i L ↔ ∃ (j : Nat) (v : Value), q = (i + j, mv ad v) ∧ L[j]? = some (some v)
  | [], i => by simp [lvl]
  | none :: L, i => by
    rw [lvl, mem_lvl]
    constructor
    · rintro ⟨j, v, h1, h2⟩
      exact ⟨j + 1, v, by rw [h1]; congr 1; omega, by simpa using h2⟩
    · rintro ⟨j, v, h1, h2⟩
      cases j with
      | zero => simp at h2
      | succ j => exact ⟨j, v, by rw [h1]; congr 1; omega, by simpa using h2⟩
  | some u :: L, i => by
    rw [lvl, List.mem_cons, mem_lvl]
    constructor
    · rintro (h | ⟨j, v, h1, h2⟩)
      · exact ⟨0, u, h, by simp⟩
      · exact ⟨j + 1, v, by rw [h1]; congr 1; omega, by simpa using h2⟩
    · rintro ⟨j, v, h1, h2⟩
      cases j with
      | zero => simp at h2; subst h2; exact Or.inl h1
      | succ j => exact Or.inr ⟨j, v, by rw [h1]; congr 1; omega, by simpa using h2⟩
theorem lvP_at {ad : Nat → Nat} {ls : Array Slot} {n i : Nat} {L : Lc} {v : Value} (h : lvP ad ls n L) (hi : L[i]? = some (some v)) : ls[i]? = some (.val (mv ad v)) :=
  h.2.2.2 (i, mv ad v) (mem_lvl.mpr ⟨i, v, by simp, hi⟩)
theorem lv_less {ls : Array Slot} {n : Nat} {l l' : List (Nat × Value)} (h : lv_has ls n l) (hs : ∀ q ∈ l', q ∈ l) : lv_has ls n l' := ⟨h.1, h.2.1, fun q hq => h.2.2 q (hs q hq)⟩
theorem lset1_len : ∀ (L : Lc) (i : Nat) (v : Value), (lset1 L i v).length = L.length
  | [], _, _ => by simp [lset1]
  | _ :: L, 0, v => by simp [lset1]
  | a :: L, 1, v => by simp [lset1, lset1_len L 0 v]
  | a :: L, n + 2, v => by simp [lset1, lset1_len L (n + 1) v]
theorem lset1_get : ∀ (L : Lc) (i : Nat) (v : Value) (j : Nat) (u : Value), (lset1 L i v)[j]? = some (some u) → (j = i ∧ u = v) ∨ (j + 1 = i ∧ L[j]? = some (some u) ∧ u.category ≠ 2) ∨ (j ≠ i ∧ j + 1 ≠ i ∧ L[j]? = some (some u))
  | [], _, _, j, u, h => by simp [lset1] at h
  | a :: L, 0, v, j, u, h => by
    cases j with
    | zero => simp [lset1] at h; exact Or.inl ⟨rfl, h.symm⟩
    | succ j => exact Or.inr (Or.inr ⟨by omega, by omega, by simpa [lset1] using h⟩)
  | a :: L, 1, v, j, u, h => by
    cases j with
    | zero =>
      simp only [lset1, List.getElem?_cons_zero, Option.some.injEq] at h
      refine Or.inr (Or.inl ⟨rfl, ?_⟩)
      cases a with
      | none => simp [klv] at h
      | some x =>
        simp only [klv] at h
        by_cases hx : x.category = 2
        · simp [hx] at h
        · have hx' : (x.category == 2) = false := by simpa using hx
          rw [hx'] at h
          simp at h
          subst h
          exact ⟨by simp, hx⟩
    | succ j =>
      simp only [lset1, List.getElem?_cons_succ] at h
      rcases lset1_get L 0 v j u h with ⟨h1, h2⟩ | ⟨h1, h2⟩ | ⟨h1, h2, h3⟩
      · exact Or.inl ⟨by omega, h2⟩
      · omega
      · exact Or.inr (Or.inr ⟨by omega, by omega, by simpa using h3⟩)
  | a :: L, n + 2, v, j, u, h => by
    cases j with
    | zero => exact Or.inr (Or.inr ⟨by omega, by omega, by simpa [lset1] using h⟩)
    | succ j =>
      simp only [lset1, List.getElem?_cons_succ] at h
      rcases lset1_get L (n + 1) v j u h with ⟨h1, h2⟩ | ⟨h1, h2, h3⟩ | ⟨h1, h2, h3⟩
      · exact Or.inl ⟨by omega, h2⟩
      · exact Or.inr (Or.inl ⟨by omega, by simpa using h2, h3⟩)
      · exact Or.inr (Or.inr ⟨by omega, by omega, by simpa using h3⟩)
theorem lvP_set1 {ad : Nat → Nat} {ls ls' : Array Slot} {n i : Nat} {L : Lc} {v : Value} (h : lvP ad ls n L) (h' : lv_has ls' n ((i, mv ad v) :: (lvl ad 0 L).filter (fun q => !(q.1 == i) && !(q.1 + 1 == i && q.2.category == 2)))) : lvP ad ls' n (lset1 L i v) := by
  refine ⟨by rw [lset1_len]; exact h.1, lv_less h' (fun q hq => ?_)⟩
  obtain ⟨j, u, rfl, hu⟩ := mem_lvl.mp hq
  rcases lset1_get L i v j u hu with ⟨h1, h2⟩ | ⟨h1, h2, h3⟩ | ⟨h1, h2, h3⟩
  · subst h1; subst h2
    simp
  · refine List.mem_cons_of_mem _ (List.mem_filter.mpr ⟨mem_lvl.mpr ⟨j, u, rfl, h2⟩, ?_⟩)
    have e1 : ((0 + j : Nat) == i) = false := by simp; omega
    have e2 : ((mv ad u).category == 2) = false := by rw [mv_cat]; simpa using h3
    simp only [e1, e2, Bool.and_false, Bool.not_false, Bool.and_self]
  · refine List.mem_cons_of_mem _ (List.mem_filter.mpr ⟨mem_lvl.mpr ⟨j, u, rfl, h3⟩, ?_⟩)
    have e1 : ((0 + j : Nat) == i) = false := by simp; omega
    have e2 : ((0 + j + 1 : Nat) == i) = false := by simp; omega
    simp only [e1, e2, Bool.false_and, Bool.not_false, Bool.and_self]
theorem lvP_set2 {ad : Nat → Nat} {ls ls' : Array Slot} {n i : Nat} {L : Lc} {v : Value} (h : lvP ad ls n L) (h' : lv_has ls' n ((i, mv ad v) :: (lvl ad 0 L).filter (fun q => !(q.1 == i) && (!(q.1 == i + 1) && !(q.1 + 1 == i && q.2.category == 2))))) : lvP ad ls' n (lset2 L i v) := by
  refine ⟨by rw [lset2, List.length_set, lset1_len]; exact h.1, lv_less h' (fun q hq => ?_)⟩
  obtain ⟨j, u, rfl, hu⟩ := mem_lvl.mp hq
  rw [lset2, List.getElem?_set] at hu
  by_cases hj : i + 1 = j
  · rw [if_pos hj] at hu
    split at hu <;> simp at hu
  rw [if_neg hj] at hu
  have e3 : ((0 + j : Nat) == i + 1) = false := by simp; omega
  rcases lset1_get L i v j u hu with ⟨h1, h2⟩ | ⟨h1, h2, h3⟩ | ⟨h1, h2, h3⟩
  · subst h1; subst h2
    simp
  · refine List.mem_cons_of_mem _ (List.mem_filter.mpr ⟨mem_lvl.mpr ⟨j, u, rfl, h2⟩, ?_⟩)
    have e1 : ((0 + j : Nat) == i) = false := by simp; omega
    have e2 : ((mv ad u).category == 2) = false := by rw [mv_cat]; simpa using h3
    simp only [e1, e2, e3, Bool.and_false, Bool.not_false, Bool.and_self]
  · refine List.mem_cons_of_mem _ (List.mem_filter.mpr ⟨mem_lvl.mpr ⟨j, u, rfl, h3⟩, ?_⟩)
    have e1 : ((0 + j : Nat) == i) = false := by simp; omega
    have e2 : ((0 + j + 1 : Nat) == i) = false := by simp; omega
    simp only [e1, e2, e3, Bool.false_and, Bool.not_false, Bool.and_self]
theorem lay_len (ad : Nat → Nat) : ∀ As : List Value, (lg_sl (As.map (mv ad))).length = (lay As).length
  | [] => rfl
  | v :: vs => by
    have ih := lay_len ad vs
    by_cases hv : v.category = 2
    · have e : (v.category == 2) = true := by simpa using hv
      simp only [lg_sl, List.map_cons, List.flatMap_cons, List.length_append, mv_cat, if_pos hv, lay, e, cond_true, List.length_cons] at ih ⊢
      rw [ih]; simp; omega
    · have e : (v.category == 2) = false := by simpa using hv
      simp only [lg_sl, List.map_cons, List.flatMap_cons, List.length_append, mv_cat, if_neg hv, lay, e, cond_false, List.length_cons] at ih ⊢
      rw [ih]; simp; omega
theorem lvl_none (ad : Nat → Nat) : ∀ (k i : Nat), lvl ad i (List.replicate k none) = []
  | 0, i => rfl
  | k + 1, i => by rw [List.replicate_succ, lvl]; exact lvl_none ad k (i + 1)
theorem lvl_lay (ad : Nat → Nat) (k : Nat) : ∀ (As : List Value) (i : Nat), lvl ad i (lay As ++ List.replicate k none) = lv_args i (As.map (mv ad))
  | [], i => by simp [lay, lv_args, lvl_none]
  | v :: vs, i => by
    by_cases hv : v.category = 2
    · have e : (v.category == 2) = true := by simpa using hv
      simp only [lay, e, cond_true, List.cons_append, lvl, List.map_cons, lv_args, mv_cat, if_pos hv, lvl_lay ad k vs]
    · have e : (v.category == 2) = false := by simpa using hv
      simp only [lay, e, cond_false, List.cons_append, lvl, List.map_cons, lv_args, mv_cat, if_neg hv, lvl_lay ad k vs]
theorem lvP_ent {ad : Nat → Nat} {As : List Value} {n : Nat} (h : (lay As).length ≤ n) : lvP ad ((lg_sl (As.map (mv ad)) ++ List.replicate (n - (lg_sl (As.map (mv ad))).length) Slot.unset).toArray) n (ent n As) := by
  refine ⟨by simp [ent]; omega, ?_⟩
  rw [ent, lvl_lay]
  exact lv_entry _ (by rw [lay_len]; exact h)
/-! contracts -/
def NW (U : State) : Prop := va_Nw (.methodLinkNest "OverTheHill$Pulls" 31 ⟨"OverTheHill", "pullBy", "(II)I"⟩ "OverTheHill") U ∧ va_Nw (.methodLinkNest "OverTheHill$Ways" 125 ⟨"OverTheHill", "noiseOf", "(II)I"⟩ "OverTheHill") U
def HW (w : WP) (τ : St) (U : State) : Prop := va_P w.2.2.1 hcls (eW w.1 w.2.2.2 τ) U.heap ∧ va_K w.2.2.1 hcls (tysA w.2.2.2) U ∧ Inj w.1 ∧ SP w U ∧ NW U
def pPre (w : WP) (As : List Value) (τ : St) : Array Value → State → Prop := va_Pc (As.map (mv w.1)) (HW w τ)
def pPost (w : WP) (Q : Qt) : Array Value → State → Outcome → State → Prop := fun _ st oc t => (∃ (v : Option Value) (τ : St), oc = .returned (v.map (mv w.1)) ∧ Q v τ ∧ HW w τ t) ∧ va_F (adA w.1) st t
def wsU (M : MT) : List Cond := Cond.code M.1 M.2.1 M.2.2.1 M.2.2.2.1 :: lw_good
def rmD (d : Nat) : Room := { frames := d, cells := 0, slots := 0, locals := 60 * d }
def isA (ci k : Nat) : Prop := k < NC ∧ shp k = ci
def Cx (M : MT) (w : WP) (p : Program) (l : Launch) (e : Env) (R : Room) (s : State) (m : MethodId) (args : Array Value) (below : List Frame) (meth : Method) (c : Code) (d : Nat) : Prop :=
  p.tables.exec = Jvm.exec ∧ c.code = M.2.1 ∧ c.maxLocals = M.2.2.1 ∧ meth.sig.returnType = M.2.2.2.1 ∧ s.vm.findClass M.1.cls = some m.cls ∧ (∀ x ∈ lw_good, x.before args s = true) ∧ va_K w.2.2.1 hcls (tysA w.2.2.2) s ∧ Inj w.1 ∧ meth.locks = false ∧ SP w s ∧ NW s ∧ d + 1 ≤ R.frames ∧ 60 * (d + 1) ≤ R.locals
def Wj (M : MT) (w : WP) (p : Program) (l : Launch) (e : Env) (R : Room) (s : State) (m : MethodId) (args : Array Value) (below : List Frame) (meth : Method) (c : Code) (Z : State → Prop) : Kt := fun pc L st τ => ∀ (H : Heap) (locs : List Loc) (ls : Array Slot), lvP w.1 ls M.2.2.1 L → va_P w.2.2.1 hcls (eW w.1 w.2.2.2 τ) H → va_S (adA w.1) s.heap H locs → W p l e R s m args below meth c H locs 0 0 Z (F0 m pc ls (st.map (mv w.1)))
def Sound (F : Nat → MT) (M : MT) (pc : Nat) (T : Tr) : Prop :=
  ∀ (w : WP) (p : Program) (l : Launch) (e : Env) (R : Room) (s : State) (m : MethodId) (args : Array Value) (below : List Frame) (meth : Method) (c : Code) (d : Nat) (Z : State → Prop) (C : Ct) (Q : Qt), Cx M w p l e R s m args below meth c d →
    (∀ (μ : Nat) (As : List Value) (τ : St) (Q' : Qt), C μ As τ Q' → Met l (F μ).1 (wsU (F μ)) (rmD d) (pPre w As τ) (pPost w Q') 0 0 (adA w.1)) →
    (∀ (H : Heap) (locs : List Loc) (g : JFrame), W p l e R s m args below meth c H locs 0 0 (MQ below (pPost w Q) args s 0 0 (adA w.1)) g → W p l e R s m args below meth c H locs 0 0 Z g) →
    ∀ (L : Lc) (st : List Value) (τ : St), T (Wj M w p l e R s m args below meth c Z) C Q L st τ → Wj M w p l e R s m args below meth c Z pc L st τ
/-- a step of the code: it keeps what follows, and the machine does it -/
def Ok (F : Nat → MT) (M : MT) (pc : Nat) (T : Tr) : Prop := MonT T ∧ Sound F M pc T
def AllOk (F : Nat → MT) (M : MT) (cd : Cd) : Prop := ∀ (pc : Nat) (T : Tr), cd pc = some T → Ok F M pc T
def nd (k : Nat) (a b : Cd) : Cd := fun pc => bif Nat.blt pc k then a pc else b pc
def lf (k : Nat) (T : Tr) : Cd := fun pc => bif Nat.beq pc k then some T else none
theorem nd_ok {F : Nat → MT} {M : MT} {k : Nat} {a b : Cd} (ha : AllOk F M a) (hb : AllOk F M b) : AllOk F M (nd k a b) := by
  intro pc T h
  unfold nd at h
  cases hq : Nat.blt pc k with
  | true => rw [hq] at h; exact ha pc T h
  | false => rw [hq] at h; exact hb pc T h
theorem lf_ok {F : Nat → MT} {M : MT} {k : Nat} {T : Tr} (h : Ok F M k T) : AllOk F M (lf k T) := by
  intro pc T' h'
  unfold lf at h'
  cases hq : Nat.beq pc k with
  | true => rw [hq] at h'; cases h'; rw [Nat.eq_of_beq_eq_true hq]; exact h
  | false => rw [hq] at h'; cases h'
theorem AllOk.mono {F : Nat → MT} {M : MT} {cd : Cd} (h : AllOk F M cd) : MonA cd := fun pc T q => (h pc T q).1
def GoodM (F : Nat → MT) (M : MT) : Prop := plainName M.1.cls = true ∧ AllOk F M M.2.2.2.2
def ndM (k : Nat) (f g : Nat → MT) : Nat → MT := fun μ => bif Nat.blt μ k then f μ else g μ
def lfM (M : MT) : Nat → MT := fun _ => M
theorem ndM_ok {F : Nat → MT} {k : Nat} {f g : Nat → MT} (hf : ∀ μ, GoodM F (f μ)) (hg : ∀ μ, GoodM F (g μ)) : ∀ μ, GoodM F (ndM k f g μ) := by
  intro μ
  unfold ndM
  cases Nat.blt μ k with
  | true => exact hf μ
  | false => exact hg μ
theorem lfM_ok {F : Nat → MT} {M : MT} (h : GoodM F M) : ∀ μ, GoodM F (lfM M μ) := fun _ => h
/-- a call of method μ at depth d -/
def Clo (F : Nat → MT) : Nat → Ct
  | 0 => fun _ _ _ _ => False
  | d + 1 => fun μ As τ Q => (lay As).length ≤ (F μ).2.2.1 ∧ Rr (F μ).2.2.2.2 (Clo F d) Q 0 (ent (F μ).2.2.1 As) [] τ
theorem Clo_mono {F : Nat → MT} (h : ∀ μ, GoodM F (F μ)) : ∀ d, MonC (Clo F d)
  | 0 => fun _ _ _ _ _ _ k => k.elim
  | d + 1 => fun μ _ _ _ _ hQ k => ⟨k.1, Rr_mono (h μ).2.mono (Clo_mono h d) hQ k.2⟩
theorem Clo_met {F : Nat → MT} (hF : ∀ μ, GoodM F (F μ)) (l : Launch) (w : WP) : ∀ (d μ : Nat) (As : List Value) (τ : St) (Q : Qt), Clo F d μ As τ Q → Met l (F μ).1 (wsU (F μ)) (rmD d) (pPre w As τ) (pPost w Q) 0 0 (adA w.1)
  | 0, _, _, _, _, h => h.elim
  | d + 1, μ, As, τ, Q, h => by
    obtain ⟨hpl, hok⟩ := hF μ
    refine Met.ofW (cc := (F μ).2.1) (maxL := (F μ).2.2.1) (ret := (F μ).2.2.2.1) hpl rfl ?_
    intro p e s m args below meth c s₁ B hml hv
    obtain ⟨rfl, hP, hK, hI, hsp, hnw⟩ := hv
    have hx := B.exec
    have hb := B.bytes
    have hr := B.returns
    have hts := atoms_spec (ws := wsU (F μ)) B.pre
    have hown : s.vm.findClass (F μ).1.cls = some m.cls := findClass_of_methodNamed B.named
    have hlocks := B.notSynchronized
    have hcx : Cx (F μ) w p l e (headSpec (wsU (F μ)) (rmD (d + 1))).room s m (As.map (mv w.1)).toArray below meth c d :=
      ⟨hx, hb, hml, hr, hown, fun x hx => hts x (List.mem_cons_of_mem _ hx), hK, hI, hlocks, hsp, hnw, Nat.le_refl _, Nat.le_refl _⟩
    rw [lg_entry_eq]
    have hrun := h.2 (Wj (F μ) w p l e (headSpec (wsU (F μ)) (rmD (d + 1))).room s m (As.map (mv w.1)).toArray below meth c (MQ below (pPost w Q) (As.map (mv w.1)).toArray s 0 0 (adA w.1)))
      (fun pc T hT L st τ q => (hok pc T hT).2 w p l e _ s m _ below meth c d _ (Clo F d) Q hcx (Clo_met hF l w d) (fun _ _ _ z => z) L st τ q)
    exact hrun s.heap [] _ (lvP_ent h.1) hP va_S.rf
