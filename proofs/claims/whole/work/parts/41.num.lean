/-! numbers: bits of an int (a family of the kit to paste); small numbers -/
def bt (x : Int32) (i : Nat) : Bool := x.toBitVec.getLsbD i
theorem b_ext {x y : Int32} (h : ∀ i, i < 32 → bt x i = bt y i) : x = y := Int32.toBitVec_inj.mp (BitVec.eq_of_getLsbD_eq (fun i hi => h i hi))
theorem b_or (x y : Int32) (i : Nat) : bt (x ||| y) i = (bt x i || bt y i) := by unfold bt; rw [Int32.toBitVec_or, BitVec.getLsbD_or]
theorem b_and (x y : Int32) (i : Nat) : bt (x &&& y) i = (bt x i && bt y i) := by unfold bt; rw [Int32.toBitVec_and, BitVec.getLsbD_and]
theorem b_xor (x y : Int32) (i : Nat) : bt (x ^^^ y) i = (bt x i ^^ bt y i) := by unfold bt; rw [Int32.toBitVec_xor, BitVec.getLsbD_xor]
theorem b_big {x : Int32} {i : Nat} (h : 32 ≤ i) : bt x i = false := BitVec.getLsbD_of_ge _ _ h
theorem b_255 (i : Nat) : bt 255 i = decide (i < 8) := by
  rcases Nat.lt_or_ge i 32 with h | h
  · exact (by decide +kernel : ∀ i, i < 32 → bt 255 i = decide (i < 8)) i h
  · rw [b_big h, decide_eq_false (by omega)]
theorem b_65535 (i : Nat) : bt 65535 i = decide (i < 16) := by
  rcases Nat.lt_or_ge i 32 with h | h
  · exact (by decide +kernel : ∀ i, i < 32 → bt 65535 i = decide (i < 16)) i h
  · rw [b_big h, decide_eq_false (by omega)]
theorem b_m1 : ∀ i, i < 32 → bt (-1) i = true := by decide +kernel
theorem b_0 (i : Nat) : bt 0 i = false := BitVec.getLsbD_zero
theorem s_l : ∀ n, n < 32 → ((nI n &&& 31).toBitVec.smod 32).toNat = n := by decide +kernel
theorem s_u : ∀ n, n < 32 → (((nI n).toUInt32 &&& Int32.toUInt32 31).toBitVec % 32).toNat = n := by decide +kernel
theorem b_shl (n : Nat) (hn : n < 32) (x : Int32) {i : Nat} (hi : i < 32) : bt (x <<< (nI n &&& 31)) i = (decide (n ≤ i) && bt x (i - n)) := by
  unfold bt
  rw [Int32.toBitVec_shiftLeft]
  show (x.toBitVec <<< ((nI n &&& 31).toBitVec.smod 32).toNat).getLsbD i = _
  rw [s_l n hn, BitVec.getLsbD_shiftLeft]
  rcases Nat.lt_or_ge i n with h | h
  · simp [h, Nat.not_le.mpr h]
  · simp [hi, h, Nat.not_lt.mpr h]
theorem b_ushr (n : Nat) (hn : n < 32) (x : Int32) (i : Nat) : bt ((x.toUInt32 >>> ((nI n).toUInt32 &&& Int32.toUInt32 31)).toInt32) i = bt x (n + i) := by
  show (x.toUInt32 >>> ((nI n).toUInt32 &&& Int32.toUInt32 31)).toBitVec.getLsbD i = x.toUInt32.toBitVec.getLsbD (n + i)
  rw [UInt32.toBitVec_shiftRight]
  show (x.toUInt32.toBitVec >>> (((nI n).toUInt32 &&& Int32.toUInt32 31).toBitVec % 32).toNat).getLsbD i = _
  rw [s_u n hn, BitVec.getLsbD_ushiftRight]
theorem b_sshr (n : Nat) (hn : n < 32) (x : Int32) {i : Nat} (hi : i < 32) : bt (x >>> (nI n &&& 31)) i = if n + i < 32 then bt x (n + i) else bt x 31 := by
  unfold bt
  rw [Int32.toBitVec_shiftRight]
  show (x.toBitVec.sshiftRight ((nI n &&& 31).toBitVec.smod 32).toNat).getLsbD i = _
  rw [s_l n hn, BitVec.getLsbD_sshiftRight, BitVec.msb_eq_getLsbD_last]
  simp [hi]

theorem lit (n : Nat) : (OfNat.ofNat n : Int32) = nI n := rfl
theorem litL (n : Nat) : (OfNat.ofNat n : Int64) = lN n := rfl
theorem nc_of {b : Nat} (h : b < 256) : vp_nar .char (((nI b).toUInt32 % 65536).toInt32) = nI b := by
  rw [pk_vc, pk_char, pk_tn (by omega), Nat.mod_eq_of_lt (by omega)]
/-- the byte i (the highest first) of an int -/
def sB (v : Int32) (i : Nat) : Int32 := (v >>> (nI (24 - 8 * i) &&& 31)) &&& 255
theorem sh24 : ∀ i, i < 4 → (24 : Int32) - 8 * nI i = nI (24 - 8 * i) := by decide +kernel
theorem sB_u (v : Int32) {i : Nat} (hi : i < 4) : ((v.toUInt32 >>> ((24 - 8 * nI i : Int32).toUInt32 &&& Int32.toUInt32 31)).toInt32) &&& 255 = sB v i := by
  rw [sh24 i hi]
  apply b_ext
  intro k hk
  unfold sB
  rw [b_and, b_and, b_ushr _ (by omega), b_sshr _ (by omega) _ hk, b_255]
  by_cases h : k < 8
  · rw [if_pos (by omega)]
  · simp [h]
theorem sB_lt (v : Int32) (i : Nat) : ∃ b, b < 256 ∧ sB v i = nI b := pk_andE _ 8 (by decide)
theorem sB_c (v : Int32) {i : Nat} (hi : i < 4) : vp_nar .char ((((v.toUInt32 >>> ((24 - 8 * nI i : Int32).toUInt32 &&& Int32.toUInt32 31)).toInt32 &&& 255).toUInt32 % 65536).toInt32) = sB v i := by
  rw [sB_u v hi]
  obtain ⟨b, hb, e⟩ := sB_lt v i
  rw [e]
  exact nc_of hb
theorem sB_m (v : Int32) {i : Nat} (hi : i < 4) : (v >>> ((24 - 8 * nI i) &&& 31)) &&& 255 = sB v i := by rw [sh24 i hi]; rfl
theorem fLit : (((1 : Int32) = 0) = False) ∧ (((-1 : Int32) = 0) = False) ∧ (((0 : Int32) = 1) = False) ∧ ((0 ≤ (-1 : Int32)) = False) ∧ (((-1 : Int32) < 0) = True) ∧ (((0 : Int32) < 0) = False) ∧ ((0 ≤ (0 : Int32)) = True) ∧ (((0 : Int32) = -1) = False) ∧ (((1 : Int32) = -1) = False) :=
  ⟨eq_false (by decide), eq_false (by decide), eq_false (by decide), eq_false (by decide), eq_true (by decide), eq_false (by decide), eq_true (by decide), eq_false (by decide), eq_false (by decide)⟩
theorem fBool : (∀ p : Prop, (True ∧ p) = p) ∧ (∀ p : Prop, (p ∧ True) = p) ∧ (∀ p : Prop, (True ∨ p) = True) ∧ (∀ p : Prop, (p ∨ True) = True) ∧ (∀ p : Prop, (False ∨ p) = p) ∧ (∀ p : Prop, (p ∨ False) = p) ∧ (∀ p : Prop, (False → p) = True) ∧ (∀ p : Prop, (True → p) = p) ∧ ((¬ True) = False) ∧ ((¬ False) = True) :=
  ⟨true_and, and_true, true_or, or_true, false_or, or_false, fun p => eq_true (fun h => h.elim), fun p => propext ⟨fun h => h trivial, fun h _ => h⟩, eq_false (fun h => h trivial), eq_true (fun h => h)⟩
theorem oT (v : Value) (l : List Value) : (some v).toList ++ l = v :: l := rfl
theorem oN (l : List Value) : (none : Option Value).toList ++ l = l := rfl
