/-! STEPS: what each instruction is in the abstract machine; that it keeps what follows; that the machine does it -/
def cts (r : List Value) : Nat := (r.map fun v => v.category).sum
def ctsB (r : List Value) : Bool := Nat.ble (cts r) 8
def t_push (v : Value) (nx : Nat) : Tr := fun K _ _ L st τ => K nx L (v :: st) τ
def t_ild (i nx : Nat) : Tr := fun K _ _ L st τ => ∃ x : Int32, L[i]? = some (some (.int x)) ∧ K nx L (.int x :: st) τ
def t_lld (i nx : Nat) : Tr := fun K _ _ L st τ => ∃ x : Int64, L[i]? = some (some (.long x)) ∧ K nx L (.long x :: st) τ
def t_ald (i nx : Nat) : Tr := fun K _ _ L st τ => ∃ x : Nat, L[i]? = some (some (.ref x)) ∧ K nx L (.ref x :: st) τ
def t_ist (i nx : Nat) : Tr := fun K _ _ L st τ => ∃ (x : Int32) (r : List Value), st = .int x :: r ∧ K nx (lset1 L i (.int x)) r τ
def t_ast (i nx : Nat) : Tr := fun K _ _ L st τ => ∃ (x : Nat) (r : List Value), st = .ref x :: r ∧ K nx (lset1 L i (.ref x)) r τ
def t_lst (i nx : Nat) : Tr := fun K _ _ L st τ => ∃ (x : Int64) (r : List Value), st = .long x :: r ∧ K nx (lset2 L i (.long x)) r τ
def t_iinc (i : Nat) (n : Int32) (nx : Nat) : Tr := fun K _ _ L st τ => ∃ x : Int32, L[i]? = some (some (.int x)) ∧ K nx (lset1 L i (.int (x + n))) st τ
def t_bin (f : Int32 → Int32 → Int32) (nx : Nat) : Tr := fun K _ _ L st τ => ∃ (x y : Int32) (r : List Value), st = .int y :: .int x :: r ∧ K nx L (.int (f x y) :: r) τ
def t_binz (f : Int32 → Int32 → Int32) (nx : Nat) : Tr := fun K _ _ L st τ => ∃ (x y : Int32) (r : List Value), st = .int y :: .int x :: r ∧ ¬ y = 0 ∧ K nx L (.int (f x y) :: r) τ
def t_lbin (f : Int64 → Int64 → Int64) (nx : Nat) : Tr := fun K _ _ L st τ => ∃ (x y : Int64) (r : List Value), st = .long y :: .long x :: r ∧ K nx L (.long (f x y) :: r) τ
def t_lbinz (f : Int64 → Int64 → Int64) (nx : Nat) : Tr := fun K _ _ L st τ => ∃ (x y : Int64) (r : List Value), st = .long y :: .long x :: r ∧ ¬ y = 0 ∧ K nx L (.long (f x y) :: r) τ
def t_lsh (f : Int64 → Int32 → Int64) (nx : Nat) : Tr := fun K _ _ L st τ => ∃ (x : Int64) (y : Int32) (r : List Value), st = .int y :: .long x :: r ∧ K nx L (.long (f x y) :: r) τ
def t_un (f : Int32 → Int32) (nx : Nat) : Tr := fun K _ _ L st τ => ∃ (x : Int32) (r : List Value), st = .int x :: r ∧ K nx L (.int (f x) :: r) τ
def t_il (nx : Nat) : Tr := fun K _ _ L st τ => ∃ (x : Int32) (r : List Value), st = .int x :: r ∧ K nx L (.long x.toInt64 :: r) τ
def t_li (nx : Nat) : Tr := fun K _ _ L st τ => ∃ (x : Int64) (r : List Value), st = .long x :: r ∧ K nx L (.int x.toInt32 :: r) τ
def t_lcmp (nx : Nat) : Tr := fun K _ _ L st τ => ∃ (x y : Int64) (r : List Value), st = .long y :: .long x :: r ∧ K nx L (.int (lg_cmp x y) :: r) τ
def t_dup (nx : Nat) : Tr := fun K _ _ L st τ => ∃ (v : Value) (r : List Value), st = v :: r ∧ v.category = 1 ∧ K nx L (v :: v :: r) τ
def t_dup2 (nx : Nat) : Tr := fun K _ _ L st τ => ∃ (v u : Value) (r : List Value), st = v :: u :: r ∧ v.category = 1 ∧ u.category = 1 ∧ K nx L (v :: u :: v :: u :: r) τ
def t_dup2l (nx : Nat) : Tr := fun K _ _ L st τ => ∃ (v : Value) (r : List Value), st = v :: r ∧ v.category = 2 ∧ K nx L (v :: v :: r) τ
def t_pop (nx : Nat) : Tr := fun K _ _ L st τ => ∃ (v : Value) (r : List Value), st = v :: r ∧ v.category = 1 ∧ K nx L r τ
def t_if (g : Int32 → Prop) (tg nx : Nat) : Tr := fun K _ _ L st τ => ∃ (x : Int32) (r : List Value), st = .int x :: r ∧ (g x → K tg L r τ) ∧ (¬ g x → K nx L r τ)
def t_ifn (g : Int32 → Prop) (tg nx : Nat) : Tr := fun K _ _ L st τ => ∃ (x : Int32) (r : List Value), st = .int x :: r ∧ (¬ g x → K tg L r τ) ∧ (g x → K nx L r τ)
def t_ic (g : Int32 → Int32 → Prop) (tg nx : Nat) : Tr := fun K _ _ L st τ => ∃ (x y : Int32) (r : List Value), st = .int y :: .int x :: r ∧ (g x y → K tg L r τ) ∧ (¬ g x y → K nx L r τ)
def t_icn (g : Int32 → Int32 → Prop) (tg nx : Nat) : Tr := fun K _ _ L st τ => ∃ (x y : Int32) (r : List Value), st = .int y :: .int x :: r ∧ (¬ g x y → K tg L r τ) ∧ (g x y → K nx L r τ)
def t_ifnull (tg nx : Nat) : Tr := fun K _ _ L st τ => (∃ r : List Value, st = .null :: r ∧ K tg L r τ) ∨ (∃ (k : Nat) (r : List Value), st = .ref k :: r ∧ K nx L r τ)
def t_goto (tg : Nat) : Tr := fun K _ _ L st τ => K tg L st τ
def t_sw (cs : List (Int32 × Nat)) (d : Nat) : Tr := fun K _ _ L st τ => ∃ (x : Int32) (r : List Value), st = .int x :: r ∧ (∀ q ∈ cs, x = q.1 → K q.2 L r τ) ∧ ((∀ q ∈ cs, ¬ x = q.1) → K d L r τ)
def t_gI (ci j nx : Nat) : Tr := fun K _ _ L st τ => ∃ (k : Nat) (r : List Value), st = .ref k :: r ∧ isA ci k ∧ K nx L (.int (τ.1 k j) :: r) τ
def t_gL (ci j nx : Nat) : Tr := fun K _ _ L st τ => ∃ (k : Nat) (r : List Value), st = .ref k :: r ∧ isA ci k ∧ K nx L (.long (τ.2 k j) :: r) τ
def t_gR (ci j nx : Nat) : Tr := fun K _ _ L st τ => ∃ (k : Nat) (r : List Value), st = .ref k :: r ∧ isA ci k ∧ K nx L (.ref (rtab k j) :: r) τ
def t_gD (nx : Nat) : Tr := fun K _ _ L st τ => ∃ r : List Value, st = .ref 59 :: r ∧ K nx L ((if τ.1 59 2 = 0 then Value.null else .ref (τ.1 59 2).toNatClampNeg) :: r) τ
def t_pI (ci j nx : Nat) : Tr := fun K _ _ L st τ => ∃ (k : Nat) (x : Int32) (r : List Value), st = .int x :: .ref k :: r ∧ isA ci k ∧ K nx L r (sI τ k j x)
def t_pL (ci j nx : Nat) : Tr := fun K _ _ L st τ => ∃ (k : Nat) (x : Int64) (r : List Value), st = .long x :: .ref k :: r ∧ isA ci k ∧ K nx L r (sL τ k j x)
def t_pD (nx : Nat) : Tr := fun K _ _ L st τ => ∃ (q : Nat) (r : List Value), st = .ref q :: .ref 59 :: r ∧ (Int32.ofNat q ≠ 0 ∧ (Int32.ofNat q).toNatClampNeg = q) ∧ K nx L r (sI τ 59 2 (Int32.ofNat q))
def t_al (sh nx : Nat) : Tr := fun K _ _ L st τ => ∃ (k : Nat) (i : Int32) (r : List Value), st = .int i :: .ref k :: r ∧ isA sh k ∧ vp_in i (len k) ∧ K nx L (.int (τ.1 k i.toNatClampNeg) :: r) τ
def t_all (nx : Nat) : Tr := fun K _ _ L st τ => ∃ (k : Nat) (i : Int32) (r : List Value), st = .int i :: .ref k :: r ∧ isA 15 k ∧ vp_in i (len k) ∧ K nx L (.long (τ.2 k i.toNatClampNeg) :: r) τ
def t_ala (nx : Nat) : Tr := fun K _ _ L st τ => ∃ (k : Nat) (i : Int32) (r : List Value), st = .int i :: .ref k :: r ∧ isA 17 k ∧ vp_in i (len k) ∧ K nx L (.ref (mrf k i.toNatClampNeg) :: r) τ
def t_as (f : Int32 → Int32) (sh nx : Nat) : Tr := fun K _ _ L st τ => ∃ (k : Nat) (i x : Int32) (r : List Value), st = .int x :: .int i :: .ref k :: r ∧ isA sh k ∧ vp_in i (len k) ∧ K nx L r (sI τ k i.toNatClampNeg (f x))
def t_asl (nx : Nat) : Tr := fun K _ _ L st τ => ∃ (k : Nat) (i : Int32) (x : Int64) (r : List Value), st = .long x :: .int i :: .ref k :: r ∧ isA 15 k ∧ vp_in i (len k) ∧ K nx L r (sL τ k i.toNatClampNeg x)
def t_len (nx : Nat) : Tr := fun K _ _ L st τ => ∃ (k : Nat) (r : List Value), st = .ref k :: r ∧ k < NC ∧ (13 ≤ shp k ∧ shp k < 18) ∧ K nx L (.int (Int32.ofNat (len k)) :: r) τ
def t_cv (μ n ci nx : Nat) : Tr := fun K C _ L st τ => ∃ (k : Nat) (as r : List Value), st = as.reverse ++ .ref k :: r ∧ as.length = n ∧ ctsB r = true ∧ isA ci k ∧ C μ (.ref k :: as) τ (fun v τ' => K nx L (v.toList ++ r) τ')
def t_cs (μ n nx : Nat) : Tr := fun K C _ L st τ => ∃ as r : List Value, st = as.reverse ++ r ∧ as.length = n ∧ ctsB r = true ∧ C μ as τ (fun v τ' => K nx L (v.toList ++ r) τ')
def t_mm (f : Int32 → Int32 → Int32) (nx : Nat) : Tr := fun K _ _ L st τ => ∃ (x y : Int32) (r : List Value), st = .int y :: .int x :: r ∧ ctsB r = true ∧ K nx L (.int (f x y) :: r) τ
def sA (τ : St) (k : Nat) (f : Nat → Int32) : St := (fun a b => if a = k then f b else τ.1 a b, τ.2)
def t_cpy (nx : Nat) : Tr := fun K _ _ L st τ => ∃ (k0 k1 : Nat) (sp dp n : Int32) (r : List Value), st = .int n :: .int dp :: .ref k1 :: .int sp :: .ref k0 :: r ∧ ctsB r = true ∧ isA 14 k0 ∧ isA 14 k1 ∧ ¬ sp < 0 ∧ ¬ dp < 0 ∧ ¬ n < 0 ∧ sp.toNatClampNeg + n.toNatClampNeg ≤ len k0 ∧ dp.toNatClampNeg + n.toNatClampNeg ≤ len k1 ∧ K nx L r (sA τ k1 (va_cpy (τ.1 k0) (τ.1 k1) sp.toNatClampNeg dp.toNatClampNeg n.toNatClampNeg))
def t_iret : Tr := fun _ _ Q _ st τ => ∃ x : Int32, st = [.int x] ∧ Q (some (.int x)) τ
def t_zret : Tr := fun _ _ Q _ st τ => ∃ x : Int32, st = [.int x] ∧ (x = 0 ∨ x = 1) ∧ Q (some (.int x)) τ
def t_lret : Tr := fun _ _ Q _ st τ => ∃ x : Int64, st = [.long x] ∧ Q (some (.long x)) τ
def t_vret : Tr := fun _ _ Q _ st τ => st = [] ∧ Q none τ
/-- here the class throws: no step of the abstract machine -/
def t_throw : Tr := fun _ _ _ _ _ _ => False
/-! they keep what follows -/
theorem m_push {v : Value} {nx : Nat} : MonT (t_push v nx) := fun _ _ _ _ _ _ _ _ _ _ h k => h _ _ _ _ k
theorem m_ild {i nx : Nat} : MonT (t_ild i nx) := fun _ _ _ _ _ _ _ _ _ _ h ⟨x, q, k⟩ => ⟨x, q, h _ _ _ _ k⟩
theorem m_lld {i nx : Nat} : MonT (t_lld i nx) := fun _ _ _ _ _ _ _ _ _ _ h ⟨x, q, k⟩ => ⟨x, q, h _ _ _ _ k⟩
theorem m_ald {i nx : Nat} : MonT (t_ald i nx) := fun _ _ _ _ _ _ _ _ _ _ h ⟨x, q, k⟩ => ⟨x, q, h _ _ _ _ k⟩
theorem m_ist {i nx : Nat} : MonT (t_ist i nx) := fun _ _ _ _ _ _ _ _ _ _ h ⟨x, r, q, k⟩ => ⟨x, r, q, h _ _ _ _ k⟩
theorem m_ast {i nx : Nat} : MonT (t_ast i nx) := fun _ _ _ _ _ _ _ _ _ _ h ⟨x, r, q, k⟩ => ⟨x, r, q, h _ _ _ _ k⟩
theorem m_lst {i nx : Nat} : MonT (t_lst i nx) := fun _ _ _ _ _ _ _ _ _ _ h ⟨x, r, q, k⟩ => ⟨x, r, q, h _ _ _ _ k⟩
theorem m_iinc {i nx : Nat} {n : Int32} : MonT (t_iinc i n nx) := fun _ _ _ _ _ _ _ _ _ _ h ⟨x, q, k⟩ => ⟨x, q, h _ _ _ _ k⟩
theorem m_bin {f : Int32 → Int32 → Int32} {nx : Nat} : MonT (t_bin f nx) := fun _ _ _ _ _ _ _ _ _ _ h ⟨x, y, r, q, k⟩ => ⟨x, y, r, q, h _ _ _ _ k⟩
theorem m_binz {f : Int32 → Int32 → Int32} {nx : Nat} : MonT (t_binz f nx) := fun _ _ _ _ _ _ _ _ _ _ h ⟨x, y, r, q, z, k⟩ => ⟨x, y, r, q, z, h _ _ _ _ k⟩
theorem m_lbin {f : Int64 → Int64 → Int64} {nx : Nat} : MonT (t_lbin f nx) := fun _ _ _ _ _ _ _ _ _ _ h ⟨x, y, r, q, k⟩ => ⟨x, y, r, q, h _ _ _ _ k⟩
theorem m_lbinz {f : Int64 → Int64 → Int64} {nx : Nat} : MonT (t_lbinz f nx) := fun _ _ _ _ _ _ _ _ _ _ h ⟨x, y, r, q, z, k⟩ => ⟨x, y, r, q, z, h _ _ _ _ k⟩
theorem m_lsh {f : Int64 → Int32 → Int64} {nx : Nat} : MonT (t_lsh f nx) := fun _ _ _ _ _ _ _ _ _ _ h ⟨x, y, r, q, k⟩ => ⟨x, y, r, q, h _ _ _ _ k⟩
theorem m_un {f : Int32 → Int32} {nx : Nat} : MonT (t_un f nx) := fun _ _ _ _ _ _ _ _ _ _ h ⟨x, r, q, k⟩ => ⟨x, r, q, h _ _ _ _ k⟩
theorem m_il {nx : Nat} : MonT (t_il nx) := fun _ _ _ _ _ _ _ _ _ _ h ⟨x, r, q, k⟩ => ⟨x, r, q, h _ _ _ _ k⟩
theorem m_li {nx : Nat} : MonT (t_li nx) := fun _ _ _ _ _ _ _ _ _ _ h ⟨x, r, q, k⟩ => ⟨x, r, q, h _ _ _ _ k⟩
theorem m_lcmp {nx : Nat} : MonT (t_lcmp nx) := fun _ _ _ _ _ _ _ _ _ _ h ⟨x, y, r, q, k⟩ => ⟨x, y, r, q, h _ _ _ _ k⟩
theorem m_dup {nx : Nat} : MonT (t_dup nx) := fun _ _ _ _ _ _ _ _ _ _ h ⟨x, r, q, z, k⟩ => ⟨x, r, q, z, h _ _ _ _ k⟩
theorem m_dup2 {nx : Nat} : MonT (t_dup2 nx) := fun _ _ _ _ _ _ _ _ _ _ h ⟨x, y, r, q, z, z2, k⟩ => ⟨x, y, r, q, z, z2, h _ _ _ _ k⟩
theorem m_dup2l {nx : Nat} : MonT (t_dup2l nx) := fun _ _ _ _ _ _ _ _ _ _ h ⟨x, r, q, z, k⟩ => ⟨x, r, q, z, h _ _ _ _ k⟩
theorem m_pop {nx : Nat} : MonT (t_pop nx) := fun _ _ _ _ _ _ _ _ _ _ h ⟨x, r, q, z, k⟩ => ⟨x, r, q, z, h _ _ _ _ k⟩
theorem m_if {g : Int32 → Prop} {tg nx : Nat} : MonT (t_if g tg nx) := fun _ _ _ _ _ _ _ _ _ _ h ⟨x, r, q, k, j⟩ => ⟨x, r, q, fun z => h _ _ _ _ (k z), fun z => h _ _ _ _ (j z)⟩
theorem m_ifn {g : Int32 → Prop} {tg nx : Nat} : MonT (t_ifn g tg nx) := fun _ _ _ _ _ _ _ _ _ _ h ⟨x, r, q, k, j⟩ => ⟨x, r, q, fun z => h _ _ _ _ (k z), fun z => h _ _ _ _ (j z)⟩
theorem m_ic {g : Int32 → Int32 → Prop} {tg nx : Nat} : MonT (t_ic g tg nx) := fun _ _ _ _ _ _ _ _ _ _ h ⟨x, y, r, q, k, j⟩ => ⟨x, y, r, q, fun z => h _ _ _ _ (k z), fun z => h _ _ _ _ (j z)⟩
theorem m_icn {g : Int32 → Int32 → Prop} {tg nx : Nat} : MonT (t_icn g tg nx) := fun _ _ _ _ _ _ _ _ _ _ h ⟨x, y, r, q, k, j⟩ => ⟨x, y, r, q, fun z => h _ _ _ _ (k z), fun z => h _ _ _ _ (j z)⟩
theorem m_ifnull {tg nx : Nat} : MonT (t_ifnull tg nx) := fun _ _ _ _ _ _ _ _ _ _ h k => k.elim (fun ⟨r, q, k⟩ => Or.inl ⟨r, q, h _ _ _ _ k⟩) (fun ⟨a, r, q, k⟩ => Or.inr ⟨a, r, q, h _ _ _ _ k⟩)
theorem m_goto {tg : Nat} : MonT (t_goto tg) := fun _ _ _ _ _ _ _ _ _ _ h k => h _ _ _ _ k
theorem m_sw {cs : List (Int32 × Nat)} {d : Nat} : MonT (t_sw cs d) := fun _ _ _ _ _ _ _ _ _ _ h ⟨x, r, q, k, j⟩ => ⟨x, r, q, fun a ha z => h _ _ _ _ (k a ha z), fun z => h _ _ _ _ (j z)⟩
theorem m_gI {ci j nx : Nat} : MonT (t_gI ci j nx) := fun _ _ _ _ _ _ _ _ _ _ h ⟨x, r, q, z, k⟩ => ⟨x, r, q, z, h _ _ _ _ k⟩
theorem m_gL {ci j nx : Nat} : MonT (t_gL ci j nx) := fun _ _ _ _ _ _ _ _ _ _ h ⟨x, r, q, z, k⟩ => ⟨x, r, q, z, h _ _ _ _ k⟩
theorem m_gR {ci j nx : Nat} : MonT (t_gR ci j nx) := fun _ _ _ _ _ _ _ _ _ _ h ⟨x, r, q, z, k⟩ => ⟨x, r, q, z, h _ _ _ _ k⟩
theorem m_gD {nx : Nat} : MonT (t_gD nx) := fun _ _ _ _ _ _ _ _ _ _ h ⟨r, q, k⟩ => ⟨r, q, h _ _ _ _ k⟩
theorem m_pI {ci j nx : Nat} : MonT (t_pI ci j nx) := fun _ _ _ _ _ _ _ _ _ _ h ⟨x, y, r, q, z, k⟩ => ⟨x, y, r, q, z, h _ _ _ _ k⟩
theorem m_pL {ci j nx : Nat} : MonT (t_pL ci j nx) := fun _ _ _ _ _ _ _ _ _ _ h ⟨x, y, r, q, z, k⟩ => ⟨x, y, r, q, z, h _ _ _ _ k⟩
theorem m_pD {nx : Nat} : MonT (t_pD nx) := fun _ _ _ _ _ _ _ _ _ _ h ⟨x, r, q, z, k⟩ => ⟨x, r, q, z, h _ _ _ _ k⟩
theorem m_al {sh nx : Nat} : MonT (t_al sh nx) := fun _ _ _ _ _ _ _ _ _ _ h ⟨x, y, r, q, z, z2, k⟩ => ⟨x, y, r, q, z, z2, h _ _ _ _ k⟩
theorem m_all {nx : Nat} : MonT (t_all nx) := fun _ _ _ _ _ _ _ _ _ _ h ⟨x, y, r, q, z, z2, k⟩ => ⟨x, y, r, q, z, z2, h _ _ _ _ k⟩
theorem m_ala {nx : Nat} : MonT (t_ala nx) := fun _ _ _ _ _ _ _ _ _ _ h ⟨x, y, r, q, z, z2, k⟩ => ⟨x, y, r, q, z, z2, h _ _ _ _ k⟩
theorem m_as {f : Int32 → Int32} {sh nx : Nat} : MonT (t_as f sh nx) := fun _ _ _ _ _ _ _ _ _ _ h ⟨x, y, a, r, q, z, z2, k⟩ => ⟨x, y, a, r, q, z, z2, h _ _ _ _ k⟩
theorem m_asl {nx : Nat} : MonT (t_asl nx) := fun _ _ _ _ _ _ _ _ _ _ h ⟨x, y, a, r, q, z, z2, k⟩ => ⟨x, y, a, r, q, z, z2, h _ _ _ _ k⟩
theorem m_len {nx : Nat} : MonT (t_len nx) := fun _ _ _ _ _ _ _ _ _ _ h ⟨x, r, q, z, z2, k⟩ => ⟨x, r, q, z, z2, h _ _ _ _ k⟩
theorem m_cv {μ n ci nx : Nat} : MonT (t_cv μ n ci nx) := fun _ _ _ _ _ _ _ _ hC _ h ⟨a, b, r, q, z, z2, z3, k⟩ => ⟨a, b, r, q, z, z2, z3, hC _ _ _ _ _ (fun _ _ y => h _ _ _ _ y) k⟩
theorem m_cs {μ n nx : Nat} : MonT (t_cs μ n nx) := fun _ _ _ _ _ _ _ _ hC _ h ⟨b, r, q, z, z2, k⟩ => ⟨b, r, q, z, z2, hC _ _ _ _ _ (fun _ _ y => h _ _ _ _ y) k⟩
theorem m_mm {f : Int32 → Int32 → Int32} {nx : Nat} : MonT (t_mm f nx) := fun _ _ _ _ _ _ _ _ _ _ h ⟨x, y, r, q, z, k⟩ => ⟨x, y, r, q, z, h _ _ _ _ k⟩
theorem m_cpy {nx : Nat} : MonT (t_cpy nx) := fun _ _ _ _ _ _ _ _ _ _ h ⟨a, b, x, y, z, r, q, h1, h2, h3, h4, h5, h6, h7, h8, k⟩ => ⟨a, b, x, y, z, r, q, h1, h2, h3, h4, h5, h6, h7, h8, h _ _ _ _ k⟩
theorem m_iret : MonT t_iret := fun _ _ _ _ _ _ _ _ _ hQ _ ⟨x, q, k⟩ => ⟨x, q, hQ _ _ k⟩
theorem m_zret : MonT t_zret := fun _ _ _ _ _ _ _ _ _ hQ _ ⟨x, q, z, k⟩ => ⟨x, q, z, hQ _ _ k⟩
theorem m_lret : MonT t_lret := fun _ _ _ _ _ _ _ _ _ hQ _ ⟨x, q, k⟩ => ⟨x, q, hQ _ _ k⟩
theorem m_vret : MonT t_vret := fun _ _ _ _ _ _ _ _ _ hQ _ ⟨q, k⟩ => ⟨q, hQ _ _ k⟩
theorem m_throw : MonT t_throw := fun _ _ _ _ _ _ _ _ _ _ _ k => k
/-! what they are at a state that is known -/
section EQ
variable {K : Kt} {C : Ct} {Q : Qt} {L : Lc} {st r : List Value} {τ : St} {nx tg i : Nat}
theorem e_push {v : Value} : t_push v nx K C Q L st τ = K nx L (v :: st) τ := rfl
theorem e_ild {x : Int32} (h : L[i]? = some (some (.int x))) : t_ild i nx K C Q L st τ = K nx L (.int x :: st) τ := propext ⟨fun ⟨y, q, k⟩ => by rw [h] at q; cases q; exact k, fun k => ⟨x, h, k⟩⟩
theorem e_lld {x : Int64} (h : L[i]? = some (some (.long x))) : t_lld i nx K C Q L st τ = K nx L (.long x :: st) τ := propext ⟨fun ⟨y, q, k⟩ => by rw [h] at q; cases q; exact k, fun k => ⟨x, h, k⟩⟩
theorem e_ald {x : Nat} (h : L[i]? = some (some (.ref x))) : t_ald i nx K C Q L st τ = K nx L (.ref x :: st) τ := propext ⟨fun ⟨y, q, k⟩ => by rw [h] at q; cases q; exact k, fun k => ⟨x, h, k⟩⟩
theorem e_ist {x : Int32} : t_ist i nx K C Q L (.int x :: r) τ = K nx (lset1 L i (.int x)) r τ := propext ⟨fun ⟨y, r', q, k⟩ => by cases q; exact k, fun k => ⟨x, r, rfl, k⟩⟩
theorem e_ast {x : Nat} : t_ast i nx K C Q L (.ref x :: r) τ = K nx (lset1 L i (.ref x)) r τ := propext ⟨fun ⟨y, r', q, k⟩ => by cases q; exact k, fun k => ⟨x, r, rfl, k⟩⟩
theorem e_lst {x : Int64} : t_lst i nx K C Q L (.long x :: r) τ = K nx (lset2 L i (.long x)) r τ := propext ⟨fun ⟨y, r', q, k⟩ => by cases q; exact k, fun k => ⟨x, r, rfl, k⟩⟩
theorem e_iinc {x n : Int32} (h : L[i]? = some (some (.int x))) : t_iinc i n nx K C Q L st τ = K nx (lset1 L i (.int (x + n))) st τ := propext ⟨fun ⟨y, q, k⟩ => by rw [h] at q; cases q; exact k, fun k => ⟨x, h, k⟩⟩
theorem e_bin {f : Int32 → Int32 → Int32} {x y : Int32} : t_bin f nx K C Q L (.int y :: .int x :: r) τ = K nx L (.int (f x y) :: r) τ := propext ⟨fun ⟨_, _, _, q, k⟩ => by cases q; exact k, fun k => ⟨x, y, r, rfl, k⟩⟩
theorem e_binz {f : Int32 → Int32 → Int32} {x y : Int32} : t_binz f nx K C Q L (.int y :: .int x :: r) τ = (¬ y = 0 ∧ K nx L (.int (f x y) :: r) τ) := propext ⟨fun ⟨_, _, _, q, k⟩ => by cases q; exact k, fun k => ⟨x, y, r, rfl, k⟩⟩
theorem e_lbin {f : Int64 → Int64 → Int64} {x y : Int64} : t_lbin f nx K C Q L (.long y :: .long x :: r) τ = K nx L (.long (f x y) :: r) τ := propext ⟨fun ⟨_, _, _, q, k⟩ => by cases q; exact k, fun k => ⟨x, y, r, rfl, k⟩⟩
theorem e_lbinz {f : Int64 → Int64 → Int64} {x y : Int64} : t_lbinz f nx K C Q L (.long y :: .long x :: r) τ = (¬ y = 0 ∧ K nx L (.long (f x y) :: r) τ) := propext ⟨fun ⟨_, _, _, q, k⟩ => by cases q; exact k, fun k => ⟨x, y, r, rfl, k⟩⟩
theorem e_lsh {f : Int64 → Int32 → Int64} {x : Int64} {y : Int32} : t_lsh f nx K C Q L (.int y :: .long x :: r) τ = K nx L (.long (f x y) :: r) τ := propext ⟨fun ⟨_, _, _, q, k⟩ => by cases q; exact k, fun k => ⟨x, y, r, rfl, k⟩⟩
theorem e_un {f : Int32 → Int32} {x : Int32} : t_un f nx K C Q L (.int x :: r) τ = K nx L (.int (f x) :: r) τ := propext ⟨fun ⟨_, _, q, k⟩ => by cases q; exact k, fun k => ⟨x, r, rfl, k⟩⟩
theorem e_il {x : Int32} : t_il nx K C Q L (.int x :: r) τ = K nx L (.long x.toInt64 :: r) τ := propext ⟨fun ⟨_, _, q, k⟩ => by cases q; exact k, fun k => ⟨x, r, rfl, k⟩⟩
theorem e_li {x : Int64} : t_li nx K C Q L (.long x :: r) τ = K nx L (.int x.toInt32 :: r) τ := propext ⟨fun ⟨_, _, q, k⟩ => by cases q; exact k, fun k => ⟨x, r, rfl, k⟩⟩
theorem e_lcmp {x y : Int64} : t_lcmp nx K C Q L (.long y :: .long x :: r) τ = K nx L (.int (lg_cmp x y) :: r) τ := propext ⟨fun ⟨_, _, _, q, k⟩ => by cases q; exact k, fun k => ⟨x, y, r, rfl, k⟩⟩
theorem e_dup {v : Value} (h : v.category = 1) : t_dup nx K C Q L (v :: r) τ = K nx L (v :: v :: r) τ := propext ⟨fun ⟨_, _, q, _, k⟩ => by cases q; exact k, fun k => ⟨v, r, rfl, h, k⟩⟩
theorem e_dup2 {v u : Value} (h : v.category = 1) (h2 : u.category = 1) : t_dup2 nx K C Q L (v :: u :: r) τ = K nx L (v :: u :: v :: u :: r) τ := propext ⟨fun ⟨_, _, _, q, _, _, k⟩ => by cases q; exact k, fun k => ⟨v, u, r, rfl, h, h2, k⟩⟩
theorem e_dup2l {v : Value} (h : v.category = 2) : t_dup2l nx K C Q L (v :: r) τ = K nx L (v :: v :: r) τ := propext ⟨fun ⟨_, _, q, _, k⟩ => by cases q; exact k, fun k => ⟨v, r, rfl, h, k⟩⟩
theorem e_pop {v : Value} (h : v.category = 1) : t_pop nx K C Q L (v :: r) τ = K nx L r τ := propext ⟨fun ⟨_, _, q, _, k⟩ => by cases q; exact k, fun k => ⟨v, r, rfl, h, k⟩⟩
theorem e_if {g : Int32 → Prop} {x : Int32} : t_if g tg nx K C Q L (.int x :: r) τ = ((g x → K tg L r τ) ∧ (¬ g x → K nx L r τ)) := propext ⟨fun ⟨_, _, q, k⟩ => by cases q; exact k, fun k => ⟨x, r, rfl, k⟩⟩
theorem e_ifn {g : Int32 → Prop} {x : Int32} : t_ifn g tg nx K C Q L (.int x :: r) τ = ((¬ g x → K tg L r τ) ∧ (g x → K nx L r τ)) := propext ⟨fun ⟨_, _, q, k⟩ => by cases q; exact k, fun k => ⟨x, r, rfl, k⟩⟩
theorem e_ic {g : Int32 → Int32 → Prop} {x y : Int32} : t_ic g tg nx K C Q L (.int y :: .int x :: r) τ = ((g x y → K tg L r τ) ∧ (¬ g x y → K nx L r τ)) := propext ⟨fun ⟨_, _, _, q, k⟩ => by cases q; exact k, fun k => ⟨x, y, r, rfl, k⟩⟩
theorem e_icn {g : Int32 → Int32 → Prop} {x y : Int32} : t_icn g tg nx K C Q L (.int y :: .int x :: r) τ = ((¬ g x y → K tg L r τ) ∧ (g x y → K nx L r τ)) := propext ⟨fun ⟨_, _, _, q, k⟩ => by cases q; exact k, fun k => ⟨x, y, r, rfl, k⟩⟩
theorem e_goto : t_goto tg K C Q L st τ = K tg L st τ := rfl
theorem e_sw {cs : List (Int32 × Nat)} {d : Nat} {x : Int32} : t_sw cs d K C Q L (.int x :: r) τ = ((∀ q ∈ cs, x = q.1 → K q.2 L r τ) ∧ ((∀ q ∈ cs, ¬ x = q.1) → K d L r τ)) := propext ⟨fun ⟨_, _, q, k⟩ => by cases q; exact k, fun k => ⟨x, r, rfl, k⟩⟩
theorem e_gI {ci j k : Nat} : t_gI ci j nx K C Q L (.ref k :: r) τ = (isA ci k ∧ K nx L (.int (τ.1 k j) :: r) τ) := propext ⟨fun ⟨_, _, q, k⟩ => by cases q; exact k, fun h => ⟨k, r, rfl, h⟩⟩
theorem e_gL {ci j k : Nat} : t_gL ci j nx K C Q L (.ref k :: r) τ = (isA ci k ∧ K nx L (.long (τ.2 k j) :: r) τ) := propext ⟨fun ⟨_, _, q, k⟩ => by cases q; exact k, fun h => ⟨k, r, rfl, h⟩⟩
theorem e_gR {ci j k : Nat} : t_gR ci j nx K C Q L (.ref k :: r) τ = (isA ci k ∧ K nx L (.ref (rtab k j) :: r) τ) := propext ⟨fun ⟨_, _, q, k⟩ => by cases q; exact k, fun h => ⟨k, r, rfl, h⟩⟩
theorem e_gD : t_gD nx K C Q L (.ref 59 :: r) τ = K nx L ((if τ.1 59 2 = 0 then Value.null else .ref (τ.1 59 2).toNatClampNeg) :: r) τ := propext ⟨fun ⟨_, q, k⟩ => by cases q; exact k, fun h => ⟨r, rfl, h⟩⟩
theorem e_pI {ci j k : Nat} {x : Int32} : t_pI ci j nx K C Q L (.int x :: .ref k :: r) τ = (isA ci k ∧ K nx L r (sI τ k j x)) := propext ⟨fun ⟨_, _, _, q, k⟩ => by cases q; exact k, fun h => ⟨k, x, r, rfl, h⟩⟩
theorem e_pL {ci j k : Nat} {x : Int64} : t_pL ci j nx K C Q L (.long x :: .ref k :: r) τ = (isA ci k ∧ K nx L r (sL τ k j x)) := propext ⟨fun ⟨_, _, _, q, k⟩ => by cases q; exact k, fun h => ⟨k, x, r, rfl, h⟩⟩
theorem e_pD {q : Nat} : t_pD nx K C Q L (.ref q :: .ref 59 :: r) τ = ((Int32.ofNat q ≠ 0 ∧ (Int32.ofNat q).toNatClampNeg = q) ∧ K nx L r (sI τ 59 2 (Int32.ofNat q))) := propext ⟨fun ⟨_, _, q, k⟩ => by cases q; exact k, fun h => ⟨q, r, rfl, h⟩⟩
theorem e_al {sh k : Nat} {x : Int32} : t_al sh nx K C Q L (.int x :: .ref k :: r) τ = (isA sh k ∧ vp_in x (len k) ∧ K nx L (.int (τ.1 k x.toNatClampNeg) :: r) τ) := propext ⟨fun ⟨_, _, _, q, k⟩ => by cases q; exact k, fun h => ⟨k, x, r, rfl, h⟩⟩
theorem e_all {k : Nat} {x : Int32} : t_all nx K C Q L (.int x :: .ref k :: r) τ = (isA 15 k ∧ vp_in x (len k) ∧ K nx L (.long (τ.2 k x.toNatClampNeg) :: r) τ) := propext ⟨fun ⟨_, _, _, q, k⟩ => by cases q; exact k, fun h => ⟨k, x, r, rfl, h⟩⟩
theorem e_ala {k : Nat} {x : Int32} : t_ala nx K C Q L (.int x :: .ref k :: r) τ = (isA 17 k ∧ vp_in x (len k) ∧ K nx L (.ref (mrf k x.toNatClampNeg) :: r) τ) := propext ⟨fun ⟨_, _, _, q, k⟩ => by cases q; exact k, fun h => ⟨k, x, r, rfl, h⟩⟩
theorem e_as {f : Int32 → Int32} {sh k : Nat} {x y : Int32} : t_as f sh nx K C Q L (.int y :: .int x :: .ref k :: r) τ = (isA sh k ∧ vp_in x (len k) ∧ K nx L r (sI τ k x.toNatClampNeg (f y))) := propext ⟨fun ⟨_, _, _, _, q, k⟩ => by cases q; exact k, fun h => ⟨k, x, y, r, rfl, h⟩⟩
theorem e_asl {k : Nat} {x : Int32} {y : Int64} : t_asl nx K C Q L (.long y :: .int x :: .ref k :: r) τ = (isA 15 k ∧ vp_in x (len k) ∧ K nx L r (sL τ k x.toNatClampNeg y)) := propext ⟨fun ⟨_, _, _, _, q, k⟩ => by cases q; exact k, fun h => ⟨k, x, y, r, rfl, h⟩⟩
theorem e_len {k : Nat} : t_len nx K C Q L (.ref k :: r) τ = (k < NC ∧ (13 ≤ shp k ∧ shp k < 18) ∧ K nx L (.int (Int32.ofNat (len k)) :: r) τ) := propext ⟨fun ⟨_, _, q, k⟩ => by cases q; exact k, fun h => ⟨k, r, rfl, h⟩⟩
theorem rev_inj {a b r s : List Value} (h : a.reverse ++ r = b.reverse ++ s) (hl : a.length = b.length) : a = b ∧ r = s := by
  obtain ⟨h1, h2⟩ := List.append_inj h (by simpa using hl)
  exact ⟨by have z := congrArg List.reverse h1; simpa using z, h2⟩
theorem e_cv {μ n ci k : Nat} (as : List Value) (hst : st = as.reverse ++ .ref k :: r) (hn : as.length = n) (hc : ctsB r = true) : t_cv μ n ci nx K C Q L st τ = (isA ci k ∧ C μ (.ref k :: as) τ (fun v τ' => K nx L (v.toList ++ r) τ')) := propext ⟨fun ⟨k', as', r', q, ql, _, h⟩ => by
  rw [hst] at q
  obtain ⟨h1, h2⟩ := rev_inj q (hn.trans ql.symm)
  cases h2; subst h1
  exact h, fun h => ⟨k, as, r, hst, hn, hc, h⟩⟩
theorem e_cs {μ n : Nat} (as : List Value) (hst : st = as.reverse ++ r) (hn : as.length = n) (hc : ctsB r = true) : t_cs μ n nx K C Q L st τ = C μ as τ (fun v τ' => K nx L (v.toList ++ r) τ') := propext ⟨fun ⟨as', r', q, ql, _, h⟩ => by
  rw [hst] at q
  obtain ⟨h1, h2⟩ := rev_inj q (hn.trans ql.symm)
  cases h2; subst h1
  exact h, fun h => ⟨as, r, hst, hn, hc, h⟩⟩
theorem e_mm {f : Int32 → Int32 → Int32} {x y : Int32} (hc : ctsB r = true) : t_mm f nx K C Q L (.int y :: .int x :: r) τ = K nx L (.int (f x y) :: r) τ := propext ⟨fun ⟨_, _, _, q, _, k⟩ => by cases q; exact k, fun k => ⟨x, y, r, rfl, hc, k⟩⟩
theorem e_cpy {k0 k1 : Nat} {sp dp n : Int32} (hc : ctsB r = true) : t_cpy nx K C Q L (.int n :: .int dp :: .ref k1 :: .int sp :: .ref k0 :: r) τ = (isA 14 k0 ∧ isA 14 k1 ∧ ¬ sp < 0 ∧ ¬ dp < 0 ∧ ¬ n < 0 ∧ sp.toNatClampNeg + n.toNatClampNeg ≤ len k0 ∧ dp.toNatClampNeg + n.toNatClampNeg ≤ len k1 ∧ K nx L r (sA τ k1 (va_cpy (τ.1 k0) (τ.1 k1) sp.toNatClampNeg dp.toNatClampNeg n.toNatClampNeg))) := propext ⟨fun ⟨_, _, _, _, _, _, q, _, k⟩ => by cases q; exact k, fun k => ⟨k0, k1, sp, dp, n, r, rfl, hc, k⟩⟩
theorem e_iret {x : Int32} : t_iret K C Q L [.int x] τ = Q (some (.int x)) τ := propext ⟨fun ⟨_, q, k⟩ => by cases q; exact k, fun k => ⟨x, rfl, k⟩⟩
theorem e_zret {x : Int32} : t_zret K C Q L [.int x] τ = ((x = 0 ∨ x = 1) ∧ Q (some (.int x)) τ) := propext ⟨fun ⟨_, q, k⟩ => by cases q; exact k, fun k => ⟨x, rfl, k⟩⟩
theorem e_lret {x : Int64} : t_lret K C Q L [.long x] τ = Q (some (.long x)) τ := propext ⟨fun ⟨_, q, k⟩ => by cases q; exact k, fun k => ⟨x, rfl, k⟩⟩
theorem e_vret : t_vret K C Q L [] τ = Q none τ := propext ⟨fun ⟨_, k⟩ => k, fun k => ⟨rfl, k⟩⟩
theorem e_throw : t_throw K C Q L st τ = False := rfl
end EQ
