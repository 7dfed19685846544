/-! BITS of a long; how many there are -/
theorem bL_ext {x y : Int64} (h : ∀ i, i < 64 → bitL x i = bitL y i) : x = y := Int64.toBitVec_inj.mp (BitVec.eq_of_getLsbD_eq (fun i hi => h i hi))
theorem bL_or (x y : Int64) (i : Nat) : bitL (x ||| y) i = (bitL x i || bitL y i) := by unfold bitL; rw [Int64.toBitVec_or, BitVec.getLsbD_or]
theorem bL_and (x y : Int64) (i : Nat) : bitL (x &&& y) i = (bitL x i && bitL y i) := by unfold bitL; rw [Int64.toBitVec_and, BitVec.getLsbD_and]
theorem bL_xor (x y : Int64) (i : Nat) : bitL (x ^^^ y) i = (bitL x i ^^ bitL y i) := by unfold bitL; rw [Int64.toBitVec_xor, BitVec.getLsbD_xor]
theorem bL_big {x : Int64} {i : Nat} (h : 64 ≤ i) : bitL x i = false := BitVec.getLsbD_of_ge _ _ h
theorem bL_0 (i : Nat) : bitL 0 i = false := BitVec.getLsbD_zero
theorem bL_one : ∀ i, i < 64 → bitL 1 i = decide (i = 0) := by decide +kernel
theorem bL_m1 : ∀ i, i < 64 → bitL (-1) i = true := by decide +kernel
theorem sL_u : ∀ n, n < 64 → (((nI n).toInt64.toUInt64 &&& Int64.toUInt64 63).toBitVec % 64).toNat = n := by decide +kernel
theorem sL_l : ∀ n, n < 64 → (((nI n).toInt64 &&& 63).toBitVec.smod 64).toNat = n := by decide +kernel
theorem bL_ushr (n : Nat) (hn : n < 64) (x : Int64) (i : Nat) : bitL ((x.toUInt64 >>> ((nI n).toInt64.toUInt64 &&& Int64.toUInt64 63)).toInt64) i = bitL x (n + i) := by
  show (x.toUInt64 >>> ((nI n).toInt64.toUInt64 &&& Int64.toUInt64 63)).toBitVec.getLsbD i = x.toUInt64.toBitVec.getLsbD (n + i)
  rw [UInt64.toBitVec_shiftRight]
  show (x.toUInt64.toBitVec >>> (((nI n).toInt64.toUInt64 &&& Int64.toUInt64 63).toBitVec % 64).toNat).getLsbD i = _
  rw [sL_u n hn, BitVec.getLsbD_ushiftRight]
theorem bL_shl (n : Nat) (hn : n < 64) (x : Int64) {i : Nat} (hi : i < 64) : bitL (x <<< ((nI n).toInt64 &&& 63)) i = (decide (n ≤ i) && bitL x (i - n)) := by
  unfold bitL
  rw [Int64.toBitVec_shiftLeft]
  show (x.toBitVec <<< (((nI n).toInt64 &&& 63).toBitVec.smod 64).toNat).getLsbD i = _
  rw [sL_l n hn, BitVec.getLsbD_shiftLeft]
  rcases Nat.lt_or_ge i n with h | h
  · simp [h, Nat.not_le.mpr h]
  · simp [hi, h, Nat.not_lt.mpr h]
theorem bL_shl1 {n i : Nat} (hn : n < 64) (hi : i < 64) : bitL (1 <<< ((nI n).toInt64 &&& 63)) i = decide (i = n) := by
  rw [bL_shl n hn _ hi]
  by_cases c : n ≤ i
  · rw [bL_one _ (by omega)]
    by_cases c2 : i = n
    · rw [decide_eq_true c, decide_eq_true c2, decide_eq_true (by omega)]; rfl
    · rw [decide_eq_false c2, decide_eq_false (p := i - n = 0) (by omega), Bool.and_false]
  · rw [decide_eq_false c, decide_eq_false (p := i = n) (by omega)]; rfl
theorem and1L (x : Int64) : x &&& 1 = if bitL x 0 then 1 else 0 := by
  apply bL_ext
  intro i hi
  rw [bL_and, bL_one i hi]
  by_cases c : i = 0
  · subst c
    cases bitL x 0 <;> rfl
  · rw [decide_eq_false c, Bool.and_false]
    split
    · rw [bL_one i hi, decide_eq_false c]
    · rw [bL_0]
theorem ubitL {x : Int64} {n : Nat} (hn : n < 64) : ((x.toUInt64 >>> ((nI n).toInt64.toUInt64 &&& Int64.toUInt64 63)).toInt64) &&& 1 = if bitL x n then 1 else 0 := by
  rw [and1L, bL_ushr n hn]; rfl
theorem lN_and (a b : Nat) : lN a &&& lN b = lN (a &&& b) := by
  apply Int64.toBitVec_inj.mp
  rw [Int64.toBitVec_and]
  exact (BitVec.ofNat_and).symm
theorem lN_ush (N n : Nat) (hn : n < 64) (hN : N < 2 ^ 63) : ((lN N).toUInt64 >>> ((nI n).toInt64.toUInt64 &&& Int64.toUInt64 63)).toInt64 = lN (N / 2 ^ n) := by
  apply Int64.toBitVec_inj.mp
  show ((lN N).toUInt64 >>> ((nI n).toInt64.toUInt64 &&& Int64.toUInt64 63)).toBitVec = _
  rw [UInt64.toBitVec_shiftRight]
  show (BitVec.ofNat 64 N >>> (((nI n).toInt64.toUInt64 &&& Int64.toUInt64 63).toBitVec % 64).toNat) = BitVec.ofNat 64 (N / 2 ^ n)
  rw [sL_u n hn]
  apply BitVec.eq_of_toNat_eq
  rw [BitVec.toNat_ushiftRight, BitVec.toNat_ofNat, BitVec.toNat_ofNat, Nat.shiftRight_eq_div_pow, Nat.mod_eq_of_lt (by omega), Nat.mod_eq_of_lt]
  exact Nat.lt_of_le_of_lt (Nat.div_le_self _ _) (by omega)
/-- and, by bytes -/
theorem and_blk {a b m M : Nat} (ha : a < 256) (hm : m < 256) : (a + 256 * b) &&& (m + 256 * M) = (a &&& m) + 256 * (b &&& M) := by
  have h1 : a &&& m < 256 := Nat.lt_of_le_of_lt Nat.and_le_left ha
  apply Nat.eq_of_testBit_eq
  intro i
  rw [Nat.testBit_and, show a + 256 * b = 2 ^ 8 * b + a by omega, show m + 256 * M = 2 ^ 8 * M + m by omega, show (a &&& m) + 256 * (b &&& M) = 2 ^ 8 * (b &&& M) + (a &&& m) by omega, Nat.testBit_two_pow_mul_add b (by omega), Nat.testBit_two_pow_mul_add M (by omega), Nat.testBit_two_pow_mul_add (b &&& M) (by omega)]
  split
  · rw [Nat.testBit_and]
  · rw [Nat.testBit_and]
def Vd (c : Nat → Nat) : Nat → Nat → Nat
  | 0, _ => 0
  | n + 1, i => c i + 256 * Vd c n (i + 1)
def mkd (m : Nat) : Nat → Nat
  | 0 => 0
  | n + 1 => m + 256 * mkd m n
def s1d (a : Nat) : Nat := a - (a / 2 &&& 85)
def s2d (a : Nat) : Nat := (a &&& 51) + (a / 4 &&& 51)
def s3d (a : Nat) : Nat := a % 16 + a / 16
def p8 (a : Nat) : Nat := (a.testBit 0).toNat + (a.testBit 1).toNat + (a.testBit 2).toNat + (a.testBit 3).toNat + (a.testBit 4).toNat + (a.testBit 5).toNat + (a.testBit 6).toNat + (a.testBit 7).toNat
theorem s123 : ∀ a, a < 256 → s1d a < 256 ∧ s2d (s1d a) % 16 ≤ 4 ∧ s2d (s1d a) / 16 ≤ 4 ∧ s3d (s2d (s1d a)) = p8 a := by decide +kernel
theorem low5 : ∀ a, a < 256 → ∀ e, e < 2 → (a / 2 + 128 * e) &&& 85 = a / 2 &&& 85 := by decide +kernel
theorem low3 : ∀ a, a < 256 → ∀ e, e < 4 → (a / 4 + 64 * e) &&& 51 = a / 4 &&& 51 := by decide +kernel
theorem st1 {c : Nat → Nat} (hc : ∀ k, c k < 256) : ∀ n i, (Vd c n i / 2 &&& mkd 85 n) ≤ Vd c n i ∧ Vd c n i - (Vd c n i / 2 &&& mkd 85 n) = Vd (fun k => s1d (c k)) n i
  | 0, i => ⟨by simp [Vd, mkd], by simp [Vd, mkd]⟩
  | n + 1, i => by
    obtain ⟨h1, h2⟩ := st1 hc n (i + 1)
    have h0 := hc i
    have e : Vd c (n + 1) i / 2 = (c i / 2 + 128 * (Vd c n (i + 1) % 2)) + 256 * (Vd c n (i + 1) / 2) := by rw [Vd]; omega
    have l : c i / 2 &&& 85 ≤ c i := Nat.le_trans Nat.and_le_left (Nat.div_le_self _ _)
    rw [e, mkd, and_blk (by omega) (by omega), low5 _ h0 _ (Nat.mod_lt _ (by omega)), Vd, Vd, ← h2]
    refine ⟨by omega, ?_⟩
    show _ = s1d (c i) + _
    unfold s1d
    omega
theorem st2 {c : Nat → Nat} (hc : ∀ k, c k < 256) : ∀ n i, (Vd c n i &&& mkd 51 n) + (Vd c n i / 4 &&& mkd 51 n) = Vd (fun k => s2d (c k)) n i
  | 0, i => by simp [Vd, mkd]
  | n + 1, i => by
    have h2 := st2 hc n (i + 1)
    have h0 := hc i
    have e : Vd c (n + 1) i / 4 = (c i / 4 + 64 * (Vd c n (i + 1) % 4)) + 256 * (Vd c n (i + 1) / 4) := by rw [Vd]; omega
    rw [e, mkd, and_blk (by omega) (by omega), low3 _ h0 _ (Nat.mod_lt _ (by omega)), Vd, and_blk h0 (by omega), Vd, ← h2]
    show _ = s2d (c i) + _
    unfold s2d
    omega
theorem Vd_mod {c : Nat → Nat} (hc : ∀ k, c k % 16 ≤ 4) : ∀ n i, Vd c n i % 16 ≤ 4
  | 0, i => by simp [Vd]
  | n + 1, i => by have := hc i; rw [Vd]; omega
theorem st3 {c : Nat → Nat} (hc : ∀ k, c k % 16 ≤ 4 ∧ c k / 16 ≤ 4) : ∀ n i, (Vd c n i + Vd c n i / 16) &&& mkd 15 n = Vd (fun k => s3d (c k)) n i
  | 0, i => by simp [Vd, mkd]
  | n + 1, i => by
    have h2 := st3 hc n (i + 1)
    have h0 := hc i
    have hm := Vd_mod (fun k => (hc k).1) n (i + 1)
    have e : Vd c (n + 1) i + Vd c (n + 1) i / 16 = (c i + c i / 16 + 16 * (Vd c n (i + 1) % 16)) + 256 * (Vd c n (i + 1) + Vd c n (i + 1) / 16) := by rw [Vd]; omega
    rw [e, mkd, and_blk (by omega) (by omega), h2, Vd]
    have e2 : (c i + c i / 16 + 16 * (Vd c n (i + 1) % 16)) &&& 15 = s3d (c i) := by
      rw [show (15 : Nat) = 2 ^ 4 - 1 from rfl, Nat.and_two_pow_sub_one_eq_mod]
      unfold s3d
      omega
    rw [e2]
theorem sum5 {a b c d e : Nat} (ha : a ≤ 8) (hb : b ≤ 8) (hc : c ≤ 8) (hd : d ≤ 8) (he : e ≤ 8) {V W U : Nat} (hV : V = a + 256 * b + 65536 * c + 16777216 * d + 4294967296 * e) (hW : W = V + V / 256) (hU : U = W + W / 65536) : (U + U / 4294967296) % 128 = a + b + c + d + e := by
  have h1 : V / 256 = b + 256 * c + 65536 * d + 16777216 * e := by omega
  rw [h1] at hW
  have h2 : W / 65536 = c + d + 256 * (d + e) + 65536 * e := by omega
  rw [h2] at hU
  have h3 : U / 4294967296 = e := by omega
  rw [h3]
  omega
theorem p8_le (a : Nat) : p8 a ≤ 8 := by
  unfold p8
  have h : ∀ b : Bool, b.toNat ≤ 1 := Bool.toNat_le
  have := h (a.testBit 0); have := h (a.testBit 1); have := h (a.testBit 2); have := h (a.testBit 3); have := h (a.testBit 4); have := h (a.testBit 5); have := h (a.testBit 6); have := h (a.testBit 7)
  omega
def ushL (x : Int64) (n : Int32) : Int64 := (x.toUInt64 >>> (n.toInt64.toUInt64 &&& Int64.toUInt64 63)).toInt64
def bL1 (i : Int64) : Int64 := i - (ushL i 1 &&& 6148914691236517205)
def bL2 (a : Int64) : Int64 := (a &&& 3689348814741910323) + (ushL a 2 &&& 3689348814741910323)
def bL3 (b : Int64) : Int64 := (b + ushL b 4) &&& 1085102592571150095
def bL4 (c : Int64) : Int64 := c + ushL c 8
def bL5 (c : Int64) : Int64 := c + ushL c 16
def bL6 (c : Int64) : Int64 := c + ushL c 32
def bL (x : Int64) : Int32 := (bL6 (bL5 (bL4 (bL3 (bL2 (bL1 x)))))).toInt32 &&& 127
theorem s_bitsL {d : Nat} {x : Int64} {Q : Qt} {τ : St} (hQ : Q (some (.int (bL x))) τ) : Cl (d + 1) m_bitsL [.long x] τ Q := by
  rw [N_bitsL]
  simp only [E_bitsL, fIsA, fRt, fLen, fLit, fBool]
  exact hQ
theorem Vd_lt {c : Nat → Nat} (hc : ∀ k, c k < 256) (h0 : ∀ k, 5 ≤ k → c k = 0) : Vd c 8 0 = c 0 + 256 * c 1 + 65536 * c 2 + 16777216 * c 3 + 4294967296 * c 4 ∧ Vd c 8 0 < 2 ^ 40 := by
  have h := hc 0; have := hc 1; have := hc 2; have := hc 3; have := hc 4
  have e : Vd c 8 0 = c 0 + 256 * c 1 + 65536 * c 2 + 16777216 * c 3 + 4294967296 * c 4 := by
    simp only [Vd, Nat.reduceAdd, h0 5 (by omega), h0 6 (by omega), h0 7 (by omega)]
    omega
  exact ⟨e, by omega⟩
theorem bL_V {c : Nat → Nat} (hc : ∀ k, c k < 256) (h0 : ∀ k, 5 ≤ k → c k = 0) : bL (lN (Vd c 8 0)) = nI (p8 (c 0) + p8 (c 1) + p8 (c 2) + p8 (c 3) + p8 (c 4)) := by
  have k1 : ∀ k, s1d (c k) < 256 := fun k => (s123 _ (hc k)).1
  have k2 : ∀ k, s2d (s1d (c k)) % 16 ≤ 4 ∧ s2d (s1d (c k)) / 16 ≤ 4 := fun k => ⟨(s123 _ (hc k)).2.1, (s123 _ (hc k)).2.2.1⟩
  have k3 : ∀ k, s3d (s2d (s1d (c k))) = p8 (c k) := fun k => (s123 _ (hc k)).2.2.2
  have z1 : ∀ k, 5 ≤ k → s1d (c k) = 0 := fun k hk => by rw [h0 k hk]; rfl
  have z2 : ∀ k, 5 ≤ k → s2d (s1d (c k)) = 0 := fun k hk => by rw [z1 k hk]; rfl
  have z3 : ∀ k, 5 ≤ k → p8 (c k) = 0 := fun k hk => by rw [h0 k hk]; rfl
  have b0 := (Vd_lt hc h0).2
  have b1 := (Vd_lt k1 z1).2
  have b2 := (Vd_lt (fun k => show s2d (s1d (c k)) < 256 by have := k2 k; omega) z2).2
  have b3 := Vd_lt (fun k => show p8 (c k) < 256 by have := p8_le (c k); omega) z3
  obtain ⟨l1, e1⟩ := st1 hc 8 0
  have e2 := st2 k1 8 0
  have e3 := st3 k2 8 0
  rw [show (fun k => s3d (s2d (s1d (c k)))) = (fun k => p8 (c k)) from funext k3] at e3
  have r1 : bL1 (lN (Vd c 8 0)) = lN (Vd (fun k => s1d (c k)) 8 0) := by
    unfold bL1 ushL
    rw [show (1 : Int32) = nI 1 from rfl, lN_ush _ 1 (by omega) (by omega), show (6148914691236517205 : Int64) = lN (mkd 85 8) from rfl, lN_and, lN_sub (by simpa using l1)]
    congr 1
  have r2 : bL2 (lN (Vd (fun k => s1d (c k)) 8 0)) = lN (Vd (fun k => s2d (s1d (c k))) 8 0) := by
    unfold bL2 ushL
    rw [show (2 : Int32) = nI 2 from rfl, lN_ush _ 2 (by omega) (by omega), show (3689348814741910323 : Int64) = lN (mkd 51 8) from rfl, lN_and, lN_and, lN_add, ← e2]
  have r3 : bL3 (lN (Vd (fun k => s2d (s1d (c k))) 8 0)) = lN (Vd (fun k => p8 (c k)) 8 0) := by
    unfold bL3 ushL
    rw [show (4 : Int32) = nI 4 from rfl, lN_ush _ 4 (by omega) (by omega), show (1085102592571150095 : Int64) = lN (mkd 15 8) from rfl, lN_add, lN_and, ← e3]
  generalize hV : Vd (fun k => p8 (c k)) 8 0 = V at b3 r3
  have r4 : bL4 (lN V) = lN (V + V / 256) := by
    unfold bL4 ushL
    rw [show (8 : Int32) = nI 8 from rfl, lN_ush _ 8 (by omega) (by omega), lN_add]
  have r5 : bL5 (lN (V + V / 256)) = lN (V + V / 256 + (V + V / 256) / 65536) := by
    unfold bL5 ushL
    rw [show (16 : Int32) = nI 16 from rfl, lN_ush _ 16 (by omega) (by omega), lN_add]
  have r6 : bL6 (lN (V + V / 256 + (V + V / 256) / 65536)) = lN (V + V / 256 + (V + V / 256) / 65536 + (V + V / 256 + (V + V / 256) / 65536) / 4294967296) := by
    unfold bL6 ushL
    rw [show (32 : Int32) = nI 32 from rfl, lN_ush _ 32 (by omega) (by omega), lN_add]
  unfold bL
  rw [r1, r2, r3, r4, r5, r6, lN_i, pk_and _ 7 (by decide)]
  have s5 := sum5 (p8_le (c 0)) (p8_le (c 1)) (p8_le (c 2)) (p8_le (c 3)) (p8_le (c 4)) b3.1 rfl rfl
  congr 1
  rw [← s5]
  generalize V + V / 256 + (V + V / 256) / 65536 + (V + V / 256 + (V + V / 256) / 65536) / 4294967296 = Z
  show (BitVec.ofNat 32 Z).toNat % 2 ^ 7 = Z % 128
  rw [BitVec.toNat_ofNat]
  omega
/-- how many bits, from i on m of them, above a -/
def sb (x : Int64) : Nat → Nat → Nat → Nat
  | 0, _, a => a
  | m + 1, i, a => sb x m (i + 1) (a + (bitL x i).toNat)
theorem bitL_lN {N i : Nat} (hi : i < 64) : bitL (lN N) i = N.testBit i := by
  show (BitVec.ofNat 64 N).getLsbD i = _
  rw [BitVec.getLsbD_ofNat, decide_eq_true hi, Bool.true_and]
theorem bL_is {x : Int64} (h : ∀ f, 36 ≤ f → f < 64 → bitL x f = false) : bL x = nI (sb x 36 0 0) ∧ ∃ N, N < 2 ^ 36 ∧ x = lN N := by
  obtain ⟨N, hN⟩ : ∃ N, N = x.toBitVec.toNat := ⟨_, rfl⟩
  have ex : x = lN N := by
    apply Int64.toBitVec_inj.mp
    show x.toBitVec = BitVec.ofNat 64 N
    rw [hN]
    simp
  have hlt : N < 2 ^ 36 := by
    refine Nat.lt_pow_two_of_testBit N (fun i hi => ?_)
    by_cases c : i < 64
    · rw [← bitL_lN c, ← ex]; exact h i hi c
    · rw [hN]
      exact Nat.testBit_lt_two_pow (Nat.lt_of_lt_of_le x.toBitVec.isLt (Nat.pow_le_pow_right (by omega) (by omega)))
  refine ⟨?_, N, hlt, ex⟩
  have hb : ∀ k j, k < 5 → j < 8 → (N / 256 ^ k % 256).testBit j = bitL x (8 * k + j) := fun k j hk hj => by
    rw [show (256 : Nat) ^ k = 2 ^ (8 * k) by rw [Nat.pow_mul], show (256 : Nat) = 2 ^ 8 from rfl, Nat.testBit_mod_two_pow, decide_eq_true hj, Bool.true_and, Nat.testBit_div_two_pow, ex, bitL_lN (by omega)]
    congr 1
    omega
  have hV : N = Vd (fun k => N / 256 ^ k % 256) 8 0 := by
    simp only [Vd, Nat.reduceAdd, Nat.reducePow]
    omega
  have hc : ∀ k, N / 256 ^ k % 256 < 256 := fun k => Nat.mod_lt _ (by omega)
  have h0 : ∀ k, 5 ≤ k → N / 256 ^ k % 256 = 0 := fun k hk => by
    have : N / 256 ^ k = 0 := Nat.div_eq_of_lt (Nat.lt_of_lt_of_le hlt (Nat.le_trans (by decide : 2 ^ 36 ≤ 256 ^ 5) (Nat.pow_le_pow_right (by omega) hk)))
    rw [this]
  have e := bL_V hc h0
  rw [← hV] at e
  rw [ex, e, ← ex]
  congr 1
  unfold p8
  have t0 : ∀ f, 36 ≤ f → f < 40 → (bitL x f).toNat = 0 := fun f h1 h2 => by rw [h f h1 (by omega)]; rfl
  simp only [hb 0 0 (by decide) (by decide), hb 0 1 (by decide) (by decide), hb 0 2 (by decide) (by decide), hb 0 3 (by decide) (by decide), hb 0 4 (by decide) (by decide), hb 0 5 (by decide) (by decide), hb 0 6 (by decide) (by decide), hb 0 7 (by decide) (by decide), hb 1 0 (by decide) (by decide), hb 1 1 (by decide) (by decide), hb 1 2 (by decide) (by decide), hb 1 3 (by decide) (by decide), hb 1 4 (by decide) (by decide), hb 1 5 (by decide) (by decide), hb 1 6 (by decide) (by decide), hb 1 7 (by decide) (by decide), hb 2 0 (by decide) (by decide), hb 2 1 (by decide) (by decide), hb 2 2 (by decide) (by decide), hb 2 3 (by decide) (by decide), hb 2 4 (by decide) (by decide), hb 2 5 (by decide) (by decide), hb 2 6 (by decide) (by decide), hb 2 7 (by decide) (by decide), hb 3 0 (by decide) (by decide), hb 3 1 (by decide) (by decide), hb 3 2 (by decide) (by decide), hb 3 3 (by decide) (by decide), hb 3 4 (by decide) (by decide), hb 3 5 (by decide) (by decide), hb 3 6 (by decide) (by decide), hb 3 7 (by decide) (by decide), hb 4 0 (by decide) (by decide), hb 4 1 (by decide) (by decide), hb 4 2 (by decide) (by decide), hb 4 3 (by decide) (by decide), hb 4 4 (by decide) (by decide), hb 4 5 (by decide) (by decide), hb 4 6 (by decide) (by decide), hb 4 7 (by decide) (by decide), Nat.reduceMul, Nat.reduceAdd, sb, t0 36 (by omega) (by omega), t0 37 (by omega) (by omega), t0 38 (by omega) (by omega), t0 39 (by omega) (by omega)]
  omega
