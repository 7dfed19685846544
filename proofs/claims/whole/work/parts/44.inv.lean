/-! THE INVARIANT that ties the class's cells to the reference's -/
/-- the field beside f by a heading, in R rows of C -/
def nb (R C f h : Nat) : Option Nat :=
  if h = 0 then (if C ≤ f then some (f - C) else none)
  else if h = 1 then (if f % C + 1 < C then some (f + 1) else none)
  else if h = 2 then (if f + C < R * C then some (f + C) else none)
  else (if 0 < f % C then some (f - 1) else none)
/-- .. that is no rock -/
def nk (kd : Nat → Nat) (R C f h : Nat) : Option Nat := match nb R C f h with
  | some g => if kd g = 3 then none else some g
  | none => none
def oI (o : Option Nat) : Int32 := match o with
  | some g => nI g
  | none => -1
def bitL (x : Int64) (k : Nat) : Bool := x.toBitVec.getLsbD k
def GI (τ : St) (R C : Nat) (kd ht : Nat → Nat) : Prop :=
  (1 ≤ R ∧ R ≤ 6 ∧ 1 ≤ C ∧ C ≤ 6) ∧ (τ.1 5 0 = nI R ∧ τ.1 5 1 = nI C ∧ τ.1 5 2 = nI (R * C) ∧ τ.1 69 3 = nI R ∧ τ.1 69 4 = nI C) ∧
  (∀ f, f < R * C → (kd f ≤ 3 ∧ ht f ≤ 9 ∧ (kd f ≠ 0 → ht f = 0)) ∧ τ.1 71 f = nI (kd f) ∧ τ.1 72 f = nI (ht f) ∧ τ.1 6 f = nI (kd f) ∧ τ.1 7 f = nI (ht f)) ∧
  (∀ f h, f < R * C → h < 4 → τ.1 8 (4 * f + h) = oI (nk kd R C f h)) ∧
  ∀ k, k < 64 → bitL (τ.2 5 6) k = decide (k < R * C ∧ kd k = 0) ∧ bitL (τ.2 5 7) k = decide (k < R * C ∧ kd k = 1) ∧ bitL (τ.2 5 8) k = decide (k < R * C ∧ kd k = 2)
def ShI (τ : St) (ns : Nat) : Prop := ns ≤ 8 ∧ τ.1 69 5 = nI ns ∧ τ.1 9 1 = nI ns ∧ ∀ s, s < ns → τ.1 52 s = τ.1 73 s ∧ ∃ w, 1 ≤ w ∧ w ≤ 99 ∧ τ.1 73 s = nI w
/-- the class's moment k is the reference's row r; ns ships, n fields, nights up to B -/
def MoI (τ : St) (k ns n B : Nat) (kd : Nat → Nat) (r : Nat → Int32) : Prop :=
  (∀ s, s < ns → τ.1 (k + 1) s = r (36 + s) ∧ ∃ f, f < n ∧ kd f ≠ 3 ∧ r (36 + s) = nI f) ∧
  (τ.1 k 2 = r 44 ∧ τ.1 k 4 = r 45 ∧ τ.1 k 5 = r 46 ∧ τ.1 k 6 = r 47 ∧ τ.1 k 7 = r 48 ∧ τ.1 k 8 = r 49) ∧
  (∀ f, f < 36 → r f = if bitL (τ.2 k 3) f then 1 else 0) ∧ (∀ f, 36 ≤ f → f < 64 → bitL (τ.2 k 3) f = false) ∧
  (∃ i, i ≤ B ∧ r 46 = nI i) ∧ (∃ h, h < 10 ∧ r 47 = nI h) ∧ (∃ g, g < 2 ^ ns ∧ r 44 = nI g) ∧ ∃ u, u ≤ 999 ∧ r 45 = nI u
def OxI (τ : St) : Prop := τ.1 0 8 = τ.1 74 0 ∧ τ.1 0 9 = τ.1 74 1 ∧ (∃ o, o ≤ 999 ∧ τ.1 74 0 = nI o) ∧ ∃ e, e ≤ 999 ∧ τ.1 74 1 = nI e
def RoI (τ : St) : Prop := ∃ n, n ≤ 36 ∧ τ.1 3 1 = nI n ∧ τ.1 69 1 = nI n ∧ ∀ j, j < n → τ.2 4 j = τ.2 70 j
def pm (first i : Nat) : Nat := 15 + 2 * ((first + i) % 15)
def UnI (τ : St) (ns n B : Nat) (kd : Nat → Nat) : Prop := ∃ first un, first < 15 ∧ un ≤ 15 ∧ τ.1 13 1 = nI first ∧ τ.1 13 2 = nI un ∧ τ.1 69 28 = nI un ∧
  ∀ i, i < un → τ.1 (pm first i) 1 = nI ns ∧ MoI τ (pm first i) ns n B kd (fun j => τ.1 84 (50 * i + j))
def KeI (τ : St) (t ns n B : Nat) (kd : Nat → Nat) : Prop := ∃ ch, ch ≤ t ∧ τ.1 69 6 = nI ch ∧ ∀ i, i < 3 →
  (τ.1 98 i = 1 ∧ τ.1 99 i = nI ch ∧ τ.1 (46 + 2 * i) 1 = nI ns ∧ MoI τ (46 + 2 * i) ns n B kd (fun j => τ.1 100 (50 * i + j))) ∨
  ((τ.1 98 i = 0 ∨ (τ.1 98 i = 1 ∧ ∃ c, c < ch ∧ τ.1 99 i = nI c)) ∧ (τ.1 (46 + 2 * i) 1 = -1 ∨ ∃ m, m < ns ∧ τ.1 (46 + 2 * i) 1 = nI m))
def TrI (τ : St) : Prop := ∃ tn lo hi, tn ≤ 12 ∧ 1 ≤ lo ∧ lo ≤ 99 ∧ hi ≤ 99 ∧ τ.1 63 0 = nI tn ∧ τ.1 69 45 = nI tn ∧ τ.1 63 1 = nI lo ∧ τ.1 63 2 = nI hi ∧
  (∀ i, i < tn → τ.1 96 i = 0 ∨ τ.1 96 i = 1) ∧ ∀ w, 1 ≤ w → w ≤ 99 → ((lo ≤ w ∧ w ≤ hi) ↔ ∀ i, i < tn → (τ.1 95 i ≤ nI w ↔ τ.1 96 i = 1))
def WaI (τ : St) : Prop := τ.1 59 2 = 0 ∨ τ.1 59 2 = nI 53 ∨ τ.1 59 2 = nI 56
/-! frames -/
section FRI
variable {cs : List Nat} {fs : List (Nat × Nat)} {τ τ' : St}
theorem GI.fr {R C : Nat} {kd ht : Nat → Nat} (h : GI τ R C kd ht) (hf : Fr cs fs τ τ') (hd : disF cs fs [5, 6, 7, 8, 71, 72] [(69, 3), (69, 4)] = true) : GI τ' R C kd ht := by
  obtain ⟨a, ⟨b1, b2, b3, b4, b5⟩, c, d, e⟩ := h
  refine ⟨a, ⟨?_, ?_, ?_, ?_, ?_⟩, fun f q => ?_, fun f h q q2 => ?_, fun k q => ?_⟩
  · rw [(hf.D hd 5 0 rfl).1]; exact b1
  · rw [(hf.D hd 5 1 rfl).1]; exact b2
  · rw [(hf.D hd 5 2 rfl).1]; exact b3
  · rw [(hf.E hd 69 3 rfl).1]; exact b4
  · rw [(hf.E hd 69 4 rfl).1]; exact b5
  · rw [(hf.D hd 71 f rfl).1, (hf.D hd 72 f rfl).1, (hf.D hd 6 f rfl).1, (hf.D hd 7 f rfl).1]; exact c f q
  · rw [(hf.D hd 8 _ rfl).1]; exact d f h q q2
  · rw [(hf.D hd 5 6 rfl).2, (hf.D hd 5 7 rfl).2, (hf.D hd 5 8 rfl).2]; exact e k q
theorem ShI.fr {ns : Nat} (h : ShI τ ns) (hf : Fr cs fs τ τ') (hd : disF cs fs [52, 73] [(69, 5), (9, 1)] = true) : ShI τ' ns := by
  obtain ⟨a, b, c, d⟩ := h
  refine ⟨a, by rw [(hf.E hd 69 5 rfl).1]; exact b, by rw [(hf.E hd 9 1 rfl).1]; exact c, fun s q => ?_⟩
  rw [(hf.D hd 52 s rfl).1, (hf.D hd 73 s rfl).1]
  exact d s q
theorem MoI.same {k ns n B B' : Nat} {kd : Nat → Nat} {r r' : Nat → Int32} (h : MoI τ k ns n B kd r) (h1 : ∀ j, τ'.1 k j = τ.1 k j) (h2 : ∀ j, τ'.2 k j = τ.2 k j) (h3 : ∀ j, τ'.1 (k + 1) j = τ.1 (k + 1) j) (hr : ∀ j, j < 50 → r' j = r j) (hB : B ≤ B') (hns : ns ≤ 8) : MoI τ' k ns n B' kd r' := by
  obtain ⟨a, b, c, d, ⟨i, e1, e2⟩, f, g, u⟩ := h
  refine ⟨fun s q => ?_, ?_, fun f q => ?_, fun f q q2 => ?_, ⟨i, by omega, ?_⟩, ?_, ?_, ?_⟩
  · rw [h3, hr _ (by omega)]; exact a s q
  · rw [h1, h1, h1, h1, h1, h1, hr _ (by omega), hr _ (by omega), hr _ (by omega), hr _ (by omega), hr _ (by omega), hr _ (by omega)]; exact b
  · rw [h2, hr _ (by omega)]; exact c f q
  · rw [h2]; exact d f q q2
  · rw [hr _ (by omega)]; exact e2
  · rw [hr _ (by omega)]; exact f
  · rw [hr _ (by omega)]; exact g
  · rw [hr _ (by omega)]; exact u
theorem OxI.fr (h : OxI τ) (hf : Fr cs fs τ τ') (hd : disF cs fs [74] [(0, 8), (0, 9)] = true) : OxI τ' := by
  unfold OxI
  rw [(hf.E hd 0 8 rfl).1, (hf.E hd 0 9 rfl).1, (hf.D hd 74 0 rfl).1, (hf.D hd 74 1 rfl).1]
  exact h
theorem RoI.fr (h : RoI τ) (hf : Fr cs fs τ τ') (hd : disF cs fs [4, 70] [(3, 1), (69, 1)] = true) : RoI τ' := by
  obtain ⟨n, a, b, c, d⟩ := h
  refine ⟨n, a, by rw [(hf.E hd 3 1 rfl).1]; exact b, by rw [(hf.E hd 69 1 rfl).1]; exact c, fun j q => ?_⟩
  rw [(hf.D hd 4 j rfl).2, (hf.D hd 70 j rfl).2]
  exact d j q
def pmL : List Nat := [15, 16, 17, 18, 19, 20, 21, 22, 23, 24, 25, 26, 27, 28, 29, 30, 31, 32, 33, 34, 35, 36, 37, 38, 39, 40, 41, 42, 43, 44]
theorem pmL_in (x : Nat) (h : x < 15) : pmL.contains (15 + 2 * x) = true ∧ pmL.contains (15 + 2 * x + 1) = true := by
  have : ∀ x, x < 15 → pmL.contains (15 + 2 * x) = true ∧ pmL.contains (15 + 2 * x + 1) = true := by decide
  exact this x h
theorem UnI.fr {ns n B B' : Nat} {kd : Nat → Nat} (h : UnI τ ns n B kd) (hf : Fr cs fs τ τ') (hd : disF cs fs (84 :: 13 :: pmL) [(69, 28)] = true) (hB : B ≤ B') (hns : ns ≤ 8) : UnI τ' ns n B' kd := by
  obtain ⟨fi, un, a, b, c, d, e, f⟩ := h
  refine ⟨fi, un, a, b, by rw [(hf.D hd 13 1 rfl).1]; exact c, by rw [(hf.D hd 13 2 rfl).1]; exact d, by rw [(hf.E hd 69 28 rfl).1]; exact e, fun i q => ?_⟩
  obtain ⟨g1, g2⟩ := pmL_in ((fi + i) % 15) (Nat.mod_lt _ (by decide))
  have u1 : ∀ j, τ'.1 (pm fi i) j = τ.1 (pm fi i) j ∧ τ'.2 (pm fi i) j = τ.2 (pm fi i) j := fun j => hf.D hd _ j (by rw [pm]; simp only [List.contains_cons, g1, Bool.or_true])
  have u2 : ∀ j, τ'.1 (pm fi i + 1) j = τ.1 (pm fi i + 1) j ∧ τ'.2 (pm fi i + 1) j = τ.2 (pm fi i + 1) j := fun j => hf.D hd _ j (by rw [pm]; simp only [List.contains_cons, g2, Bool.or_true])
  exact ⟨by rw [(u1 1).1]; exact (f i q).1, (f i q).2.same (fun j => (u1 j).1) (fun j => (u1 j).2) (fun j => (u2 j).1) (fun j _ => (hf.D hd 84 _ rfl).1) hB hns⟩
theorem KeI.fr {t t' ns n B B' : Nat} {kd : Nat → Nat} (h : KeI τ t ns n B kd) (hf : Fr cs fs τ τ') (hd : disF cs fs [46, 47, 48, 49, 50, 51, 98, 99, 100] [(69, 6)] = true) (ht : t ≤ t') (hB : B ≤ B') (hns : ns ≤ 8) : KeI τ' t' ns n B' kd := by
  obtain ⟨ch, a, b, c⟩ := h
  refine ⟨ch, by omega, by rw [(hf.E hd 69 6 rfl).1]; exact b, fun i q => ?_⟩
  have u1 : ∀ j, τ'.1 (46 + 2 * i) j = τ.1 (46 + 2 * i) j ∧ τ'.2 (46 + 2 * i) j = τ.2 (46 + 2 * i) j := fun j => hf.D hd _ j (by rcases (show i = 0 ∨ i = 1 ∨ i = 2 by omega) with rfl | rfl | rfl <;> rfl)
  have u2 : ∀ j, τ'.1 (46 + 2 * i + 1) j = τ.1 (46 + 2 * i + 1) j ∧ τ'.2 (46 + 2 * i + 1) j = τ.2 (46 + 2 * i + 1) j := fun j => hf.D hd _ j (by rcases (show i = 0 ∨ i = 1 ∨ i = 2 by omega) with rfl | rfl | rfl <;> rfl)
  rw [(hf.D hd 98 i rfl).1, (hf.D hd 99 i rfl).1, (u1 1).1]
  rcases c i q with ⟨c1, c2, c3, c4⟩ | c
  · exact Or.inl ⟨c1, c2, c3, c4.same (fun j => (u1 j).1) (fun j => (u1 j).2) (fun j => (u2 j).1) (fun j _ => (hf.D hd 100 _ rfl).1) hB hns⟩
  · exact Or.inr c
theorem TrI.fr (h : TrI τ) (hf : Fr cs fs τ τ') (hd : disF cs fs [63, 95, 96] [(69, 45)] = true) : TrI τ' := by
  obtain ⟨tn, lo, hi, a1, a2, a3, a4, b1, b2, b3, b4, c, d⟩ := h
  refine ⟨tn, lo, hi, a1, a2, a3, a4, by rw [(hf.D hd 63 0 rfl).1]; exact b1, by rw [(hf.E hd 69 45 rfl).1]; exact b2, by rw [(hf.D hd 63 1 rfl).1]; exact b3, by rw [(hf.D hd 63 2 rfl).1]; exact b4, fun i q => by rw [(hf.D hd 96 i rfl).1]; exact c i q, fun w q q2 => ?_⟩
  rw [d w q q2]
  constructor
  · intro z i hi; rw [(hf.D hd 95 i rfl).1, (hf.D hd 96 i rfl).1]; exact z i hi
  · intro z i hi; have := z i hi; rw [(hf.D hd 95 i rfl).1, (hf.D hd 96 i rfl).1] at this; exact this
theorem WaI.fr (h : WaI τ) (hf : Fr cs fs τ τ') (hd : disF cs fs [] [(59, 2)] = true) : WaI τ' := by
  unfold WaI
  rw [(hf.E hd 59 2 rfl).1]
  exact h
end FRI
/-! rules as programs: a is (w, u, v, g, h) -/
def jnC (k y x : Int32) : Int32 := if k = 43 then x + y else if k = 45 then x - y else if k = 42 then x * y else if k = 47 then (if y = 0 then 0 else x / y) else if k = 60 then (if x < y then 1 else 0) else if k = 62 then (if y < x then 1 else 0) else (if x = y then 1 else 0)
def jnM (k y x : Int32) : Int32 := if k = 0 then (if x < y then 1 else 0) else if k = 1 then (if y < x then 1 else 0) else if k = 2 then (if x = y then 1 else 0) else if k = 3 then x + y else if k = 4 then x - y else if k = 5 then x * y else (if y = 0 then 0 else x / y)
/-- what a step is: 0 pushes, 1 negates, 2 joins -/
def kdC (c : Int32) : Nat := if c = 1119 ∨ c = 1117 ∨ c = 1118 ∨ c = 1103 ∨ c = 1104 ∨ c < 1000 then 0 else if c = 1126 then 1 else 2
def kdM (c : Int32) : Nat := if c < 1005 then 0 else if c = 3000 then 1 else 2
def vlC (a : Nat → Int32) (c : Int32) : Int32 := if c = 1119 then a 0 else if c = 1117 then a 1 else if c = 1118 then a 2 else if c = 1103 then a 3 else if c = 1104 then a 4 else c
def vlM (a : Nat → Int32) (c : Int32) : Int32 := if 1000 ≤ c then a (c - 1000).toNatClampNeg else c
def stP (kd : Nat) (v : Int32) (j : Int32 → Int32 → Int32) (st : List Int32) : List Int32 := if kd = 0 then v :: st else match st with
  | [] => []
  | y :: r => if kd = 1 then (-y) :: r else match r with
    | [] => []
    | x :: r => j y x :: r
def runC (S : Nat → Int32) (a : Nat → Int32) : Nat → Nat → List Int32 → List Int32
  | 0, _, st => st
  | n + 1, i, st => runC S a n (i + 1) (stP (kdC (S i)) (vlC a (S i)) (jnC (S i - 1000)) st)
def runM (S : Nat → Int32) (a : Nat → Int32) : Nat → Nat → List Int32 → List Int32
  | 0, _, st => st
  | n + 1, i, st => runM S a n (i + 1) (stP (kdM (S i)) (vlM a (S i)) (jnM (S i - 2000)) st)
/-- n steps from place i with h values on the stack never lack one, and leave one -/
def okR (k : Nat → Nat) : Nat → Nat → Nat → Prop
  | 0, _, h => h = 1
  | n + 1, i, h => if k i = 0 then okR k n (i + 1) (h + 1) else if k i = 1 then 1 ≤ h ∧ okR k n (i + 1) h else 2 ≤ h ∧ okR k n (i + 1) (h - 1)
def RuI (τ : St) : Prop := ∃ n m, n ≤ 40 ∧ m ≤ 80 ∧ τ.1 53 1 = nI n ∧ τ.1 69 24 = nI m ∧ (n = 0 ↔ m = 0) ∧ (0 < n → (∀ i, i < m → τ.1 80 i < 1005 ∨ 2000 ≤ τ.1 80 i) ∧ okR (fun i => kdC (τ.1 54 i)) n 0 0 ∧ okR (fun i => kdM (τ.1 80 i)) m 0 0 ∧ ∀ a, runC (τ.1 54) a n 0 [] = runM (τ.1 80) a m 0 [])
theorem RuI.fr {cs : List Nat} {fs : List (Nat × Nat)} {τ τ' : St} (h : RuI τ) (hf : Fr cs fs τ τ') (hd : disF cs fs [54, 80] [(53, 1), (69, 24)] = true) : RuI τ' := by
  have e1 : τ'.1 54 = τ.1 54 := funext (fun j => (hf.D hd 54 j rfl).1)
  have e2 : τ'.1 80 = τ.1 80 := funext (fun j => (hf.D hd 80 j rfl).1)
  unfold RuI
  rw [e1, e2, (hf.E hd 53 1 rfl).1, (hf.E hd 69 24 rfl).1]
  exact h
/-! the whole of it; t: how many calls were made -/
def IA (t R C : Nat) (kd ht : Nat → Nat) (ns : Nat) (τ : St) : Prop := GI τ R C kd ht ∧ ShI τ ns ∧ MoI τ 9 ns (R * C) (300 * t) kd (τ.1 75) ∧ UnI τ ns (R * C) (300 * t) kd ∧ KeI τ t ns (R * C) (300 * t) kd ∧ OxI τ ∧ TrI τ ∧ WaI τ ∧ RuI τ
def Inv (t : Nat) (τ : St) : Prop := ∃ (R C : Nat) (kd ht : Nat → Nat) (ns tn : Nat), IA t R C kd ht ns τ ∧ TxI τ tn ∧ RoI τ
theorem disF_sub {cs : List Nat} {fs : List (Nat × Nat)} {D : List Nat} {E : List (Nat × Nat)} {D' : List Nat} {E' : List (Nat × Nat)} (h : disF cs fs D E = true) (hs : subF D' E' D E = true) : disF cs fs D' E' = true := by
  simp only [subF, disF, Bool.and_eq_true, List.all_eq_true, Bool.or_eq_true, List.contains_iff_mem, Bool.not_eq_true'] at h hs ⊢
  obtain ⟨h1, h2⟩ := h
  obtain ⟨s1, s2⟩ := hs
  have nD : ∀ k, D.contains k = false → D'.contains k = false := fun k hk => by
    cases z : D'.contains k with
    | false => rfl
    | true => have := s1 k (List.contains_iff_mem.mp z); rw [← List.contains_iff_mem, hk] at this; cases this
  refine ⟨fun k hk => ⟨nD k (h1 k hk).1, fun q hq => ?_⟩, fun q hq => ⟨nD _ (h2 q hq).1, ?_⟩⟩
  · cases z : Nat.beq q.1 k with
    | false => rfl
    | true =>
      have e := Nat.eq_of_beq_eq_true z
      rcases s2 q hq with w | w
      · have := (h1 k hk).1; rw [← e, ← Bool.not_eq_true, List.contains_iff_mem] at this; exact absurd w this
      · have := (h1 k hk).2 q w; rw [z] at this; cases this
  · cases z : E'.contains q with
    | false => rfl
    | true =>
      rcases s2 q (List.contains_iff_mem.mp z) with w | w
      · have := (h2 q hq).1; rw [← Bool.not_eq_true, List.contains_iff_mem] at this; exact absurd w this
      · have := (h2 q hq).2; rw [← Bool.not_eq_true, List.contains_iff_mem] at this; exact absurd w this
def IAD : List Nat := [5, 6, 7, 8, 71, 72, 52, 73, 9, 10, 75, 46, 47, 48, 49, 50, 51, 98, 99, 100, 74, 63, 95, 96, 54, 80] ++ (84 :: 13 :: pmL)
def IAE : List (Nat × Nat) := [(69, 3), (69, 4), (69, 5), (69, 28), (69, 6), (0, 8), (0, 9), (69, 45), (59, 2), (53, 1), (69, 24)]
theorem IA.fr {t t' R C ns : Nat} {kd ht : Nat → Nat} {cs : List Nat} {fs : List (Nat × Nat)} {τ τ' : St} (h : IA t R C kd ht ns τ) (hf : Fr cs fs τ τ') (hd : disF cs fs IAD IAE = true) (ht2 : t ≤ t') : IA t' R C kd ht ns τ' := by
  obtain ⟨a, b, c, d, e, f, g, i, j⟩ := h
  have hB : 300 * t ≤ 300 * t' := by omega
  refine ⟨a.fr hf (disF_sub hd rfl), b.fr hf (disF_sub hd rfl), ?_, d.fr hf (disF_sub hd rfl) hB b.1, e.fr hf (disF_sub hd rfl) ht2 hB b.1, f.fr hf (disF_sub hd rfl), g.fr hf (disF_sub hd rfl), i.fr hf (disF_sub hd rfl), j.fr hf (disF_sub hd rfl)⟩
  have h9 : disF cs fs [9, 10, 75] [] = true := disF_sub hd rfl
  exact c.same (fun j => (hf.D h9 9 j rfl).1) (fun j => (hf.D h9 9 j rfl).2) (fun j => (hf.D h9 10 j rfl).1) (fun j _ => (hf.D h9 75 j rfl).1) hB b.1
/-- calls of a class's and of the reference's method: the same answer, and the invariant -/
def PrI (t m1 m2 : Nat) (as : List Value) : Prop := t < 200000 → ∀ τ, Inv t τ → Cl 900 m1 (.ref 0 :: as) τ (fun a τ1 => Cl 900 m2 (.ref 69 :: as) τ1 (fun b τ2 => (∃ x : Int32, a = some (.int x) ∧ b = some (.int x)) ∧ Inv (t + 1) τ2))
