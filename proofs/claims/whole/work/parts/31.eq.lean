/-! what each method does, an instruction an equation -/
set_option maxHeartbeats 4000000 in
theorem N_Ways_nearest (d : Nat) (Q : Qt) : ∀ (x0 : Nat) (x1 : Int64) (τ : St), Cl (d + 1) m_Ways_nearest [.ref x0, .long x1] τ Q = Ru M_Ways_nearest d Q 0 [some (.ref x0), some (.long x1), none, none, none, none] [] τ := fun _ _ _ => propext ⟨fun h => h.2, fun h => ⟨Nat.le_of_ble_eq_true rfl, h⟩⟩
set_option maxHeartbeats 4000000 in
theorem E_Ways_nearest (d : Nat) (Q : Qt) :
    (∀ (a0 : Nat) (a1 : Int64) (τ : St), Ru M_Ways_nearest d Q 0 [some (.ref a0), some (.long a1), none, none, none, none] [] τ = Ru M_Ways_nearest d Q 1 [some (.ref a0), some (.long a1), none, none, none, none] [.int (-1)] τ) ∧
    (∀ (a0 : Nat) (a1 : Int64) (x0 : Int32) (τ : St), Ru M_Ways_nearest d Q 1 [some (.ref a0), some (.long a1), none, none, none, none] [.int x0] τ = Ru M_Ways_nearest d Q 2 [some (.ref a0), some (.long a1), none, some (.int x0), none, none] [] τ) ∧
    (∀ (a0 : Nat) (a1 : Int64) (a3 : Int32) (τ : St), Ru M_Ways_nearest d Q 2 [some (.ref a0), some (.long a1), none, some (.int a3), none, none] [] τ = Ru M_Ways_nearest d Q 4 [some (.ref a0), some (.long a1), none, some (.int a3), none, none] [.int 1073741824] τ) ∧
    (∀ (a0 : Nat) (a1 : Int64) (a3 : Int32) (x0 : Int32) (τ : St), Ru M_Ways_nearest d Q 4 [some (.ref a0), some (.long a1), none, some (.int a3), none, none] [.int x0] τ = Ru M_Ways_nearest d Q 6 [some (.ref a0), some (.long a1), none, some (.int a3), some (.int x0), none] [] τ) ∧
    (∀ (a0 : Nat) (a1 : Int64) (a3 : Int32) (a4 : Int32) (τ : St), Ru M_Ways_nearest d Q 6 [some (.ref a0), some (.long a1), none, some (.int a3), some (.int a4), none] [] τ = Ru M_Ways_nearest d Q 7 [some (.ref a0), some (.long a1), none, some (.int a3), some (.int a4), none] [.int 0] τ) ∧
    (∀ (a0 : Nat) (a1 : Int64) (a3 : Int32) (a4 : Int32) (x0 : Int32) (τ : St), Ru M_Ways_nearest d Q 7 [some (.ref a0), some (.long a1), none, some (.int a3), some (.int a4), none] [.int x0] τ = Rs M_Ways_nearest d Q 9 [some (.ref a0), some (.long a1), none, some (.int a3), some (.int a4), some (.int x0)] [] τ) ∧
    (∀ (a0 : Nat) (a1 : Int64) (a3 : Int32) (a4 : Int32) (a5 : Int32) (τ : St), Ru M_Ways_nearest d Q 9 [some (.ref a0), some (.long a1), none, some (.int a3), some (.int a4), some (.int a5)] [] τ = Ru M_Ways_nearest d Q 11 [some (.ref a0), some (.long a1), none, some (.int a3), some (.int a4), some (.int a5)] [.int a5] τ) ∧
    (∀ (a0 : Nat) (a1 : Int64) (a3 : Int32) (a4 : Int32) (a5 : Int32) (x0 : Int32) (τ : St), Ru M_Ways_nearest d Q 11 [some (.ref a0), some (.long a1), none, some (.int a3), some (.int a4), some (.int a5)] [.int x0] τ = Ru M_Ways_nearest d Q 12 [some (.ref a0), some (.long a1), none, some (.int a3), some (.int a4), some (.int a5)] [.ref a0, .int x0] τ) ∧
    (∀ (a0 : Nat) (a1 : Int64) (a3 : Int32) (a4 : Int32) (a5 : Int32) (x0 : Nat) (x1 : Int32) (τ : St), Ru M_Ways_nearest d Q 12 [some (.ref a0), some (.long a1), none, some (.int a3), some (.int a4), some (.int a5)] [.ref x0, .int x1] τ = (isA 10 x0 ∧ Ru M_Ways_nearest d Q 15 [some (.ref a0), some (.long a1), none, some (.int a3), some (.int a4), some (.int a5)] [.ref (rtab x0 0), .int x1] τ)) ∧
    (∀ (a0 : Nat) (a1 : Int64) (a3 : Int32) (a4 : Int32) (a5 : Int32) (x0 : Nat) (x1 : Int32) (τ : St), Ru M_Ways_nearest d Q 15 [some (.ref a0), some (.long a1), none, some (.int a3), some (.int a4), some (.int a5)] [.ref x0, .int x1] τ = (isA 0 x0 ∧ Ru M_Ways_nearest d Q 18 [some (.ref a0), some (.long a1), none, some (.int a3), some (.int a4), some (.int a5)] [.int (τ.1 x0 2), .int x1] τ)) ∧
    (∀ (a0 : Nat) (a1 : Int64) (a3 : Int32) (a4 : Int32) (a5 : Int32) (x0 : Int32) (x1 : Int32) (τ : St), Ru M_Ways_nearest d Q 18 [some (.ref a0), some (.long a1), none, some (.int a3), some (.int a4), some (.int a5)] [.int x0, .int x1] τ = ((x0 ≤ x1 → Ru M_Ways_nearest d Q 62 [some (.ref a0), some (.long a1), none, some (.int a3), some (.int a4), some (.int a5)] [] τ) ∧ (¬ x0 ≤ x1 → Ru M_Ways_nearest d Q 21 [some (.ref a0), some (.long a1), none, some (.int a3), some (.int a4), some (.int a5)] [] τ))) ∧
    (∀ (a0 : Nat) (a1 : Int64) (a3 : Int32) (a4 : Int32) (a5 : Int32) (τ : St), Ru M_Ways_nearest d Q 21 [some (.ref a0), some (.long a1), none, some (.int a3), some (.int a4), some (.int a5)] [] τ = Ru M_Ways_nearest d Q 22 [some (.ref a0), some (.long a1), none, some (.int a3), some (.int a4), some (.int a5)] [.long a1] τ) ∧
    (∀ (a0 : Nat) (a1 : Int64) (a3 : Int32) (a4 : Int32) (a5 : Int32) (x0 : Int64) (τ : St), Ru M_Ways_nearest d Q 22 [some (.ref a0), some (.long a1), none, some (.int a3), some (.int a4), some (.int a5)] [.long x0] τ = Ru M_Ways_nearest d Q 24 [some (.ref a0), some (.long a1), none, some (.int a3), some (.int a4), some (.int a5)] [.int a5, .long x0] τ) ∧
    (∀ (a0 : Nat) (a1 : Int64) (a3 : Int32) (a4 : Int32) (a5 : Int32) (x0 : Int32) (x1 : Int64) (τ : St), Ru M_Ways_nearest d Q 24 [some (.ref a0), some (.long a1), none, some (.int a3), some (.int a4), some (.int a5)] [.int x0, .long x1] τ = Ru M_Ways_nearest d Q 25 [some (.ref a0), some (.long a1), none, some (.int a3), some (.int a4), some (.int a5)] [.long ((x1.toUInt64 >>> (x0.toInt64.toUInt64 &&& Int64.toUInt64 63)).toInt64)] τ) ∧
    (∀ (a0 : Nat) (a1 : Int64) (a3 : Int32) (a4 : Int32) (a5 : Int32) (x0 : Int64) (τ : St), Ru M_Ways_nearest d Q 25 [some (.ref a0), some (.long a1), none, some (.int a3), some (.int a4), some (.int a5)] [.long x0] τ = Ru M_Ways_nearest d Q 26 [some (.ref a0), some (.long a1), none, some (.int a3), some (.int a4), some (.int a5)] [.long 1, .long x0] τ) ∧
    (∀ (a0 : Nat) (a1 : Int64) (a3 : Int32) (a4 : Int32) (a5 : Int32) (x0 : Int64) (x1 : Int64) (τ : St), Ru M_Ways_nearest d Q 26 [some (.ref a0), some (.long a1), none, some (.int a3), some (.int a4), some (.int a5)] [.long x0, .long x1] τ = Ru M_Ways_nearest d Q 27 [some (.ref a0), some (.long a1), none, some (.int a3), some (.int a4), some (.int a5)] [.long (x1 &&& x0)] τ) ∧
    (∀ (a0 : Nat) (a1 : Int64) (a3 : Int32) (a4 : Int32) (a5 : Int32) (x0 : Int64) (τ : St), Ru M_Ways_nearest d Q 27 [some (.ref a0), some (.long a1), none, some (.int a3), some (.int a4), some (.int a5)] [.long x0] τ = Ru M_Ways_nearest d Q 28 [some (.ref a0), some (.long a1), none, some (.int a3), some (.int a4), some (.int a5)] [.long 0, .long x0] τ) ∧
    (∀ (a0 : Nat) (a1 : Int64) (a3 : Int32) (a4 : Int32) (a5 : Int32) (x0 : Int64) (x1 : Int64) (τ : St), Ru M_Ways_nearest d Q 28 [some (.ref a0), some (.long a1), none, some (.int a3), some (.int a4), some (.int a5)] [.long x0, .long x1] τ = Ru M_Ways_nearest d Q 29 [some (.ref a0), some (.long a1), none, some (.int a3), some (.int a4), some (.int a5)] [.int (lg_cmp x1 x0)] τ) ∧
    (∀ (a0 : Nat) (a1 : Int64) (a3 : Int32) (a4 : Int32) (a5 : Int32) (x0 : Int32) (τ : St), Ru M_Ways_nearest d Q 29 [some (.ref a0), some (.long a1), none, some (.int a3), some (.int a4), some (.int a5)] [.int x0] τ = ((x0 = 0 → Ru M_Ways_nearest d Q 56 [some (.ref a0), some (.long a1), none, some (.int a3), some (.int a4), some (.int a5)] [] τ) ∧ (¬ x0 = 0 → Ru M_Ways_nearest d Q 32 [some (.ref a0), some (.long a1), none, some (.int a3), some (.int a4), some (.int a5)] [] τ))) ∧
    (∀ (a0 : Nat) (a1 : Int64) (a3 : Int32) (a4 : Int32) (a5 : Int32) (τ : St), Ru M_Ways_nearest d Q 32 [some (.ref a0), some (.long a1), none, some (.int a3), some (.int a4), some (.int a5)] [] τ = Ru M_Ways_nearest d Q 33 [some (.ref a0), some (.long a1), none, some (.int a3), some (.int a4), some (.int a5)] [.ref a0] τ) ∧
    (∀ (a0 : Nat) (a1 : Int64) (a3 : Int32) (a4 : Int32) (a5 : Int32) (x0 : Nat) (τ : St), Ru M_Ways_nearest d Q 33 [some (.ref a0), some (.long a1), none, some (.int a3), some (.int a4), some (.int a5)] [.ref x0] τ = (isA 10 x0 ∧ Ru M_Ways_nearest d Q 36 [some (.ref a0), some (.long a1), none, some (.int a3), some (.int a4), some (.int a5)] [.ref (rtab x0 5)] τ)) ∧
    (∀ (a0 : Nat) (a1 : Int64) (a3 : Int32) (a4 : Int32) (a5 : Int32) (x0 : Nat) (τ : St), Ru M_Ways_nearest d Q 36 [some (.ref a0), some (.long a1), none, some (.int a3), some (.int a4), some (.int a5)] [.ref x0] τ = Ru M_Ways_nearest d Q 38 [some (.ref a0), some (.long a1), none, some (.int a3), some (.int a4), some (.int a5)] [.int a5, .ref x0] τ) ∧
    (∀ (a0 : Nat) (a1 : Int64) (a3 : Int32) (a4 : Int32) (a5 : Int32) (x0 : Int32) (x1 : Nat) (τ : St), Ru M_Ways_nearest d Q 38 [some (.ref a0), some (.long a1), none, some (.int a3), some (.int a4), some (.int a5)] [.int x0, .ref x1] τ = (isA 14 x1 ∧ vp_in x0 (len x1) ∧ Ru M_Ways_nearest d Q 39 [some (.ref a0), some (.long a1), none, some (.int a3), some (.int a4), some (.int a5)] [.int (τ.1 x1 x0.toNatClampNeg)] τ)) ∧
    (∀ (a0 : Nat) (a1 : Int64) (a3 : Int32) (a4 : Int32) (a5 : Int32) (x0 : Int32) (τ : St), Ru M_Ways_nearest d Q 39 [some (.ref a0), some (.long a1), none, some (.int a3), some (.int a4), some (.int a5)] [.int x0] τ = Ru M_Ways_nearest d Q 41 [some (.ref a0), some (.long a1), none, some (.int a3), some (.int a4), some (.int a5)] [.int a4, .int x0] τ) ∧
    (∀ (a0 : Nat) (a1 : Int64) (a3 : Int32) (a4 : Int32) (a5 : Int32) (x0 : Int32) (x1 : Int32) (τ : St), Ru M_Ways_nearest d Q 41 [some (.ref a0), some (.long a1), none, some (.int a3), some (.int a4), some (.int a5)] [.int x0, .int x1] τ = ((x0 ≤ x1 → Ru M_Ways_nearest d Q 56 [some (.ref a0), some (.long a1), none, some (.int a3), some (.int a4), some (.int a5)] [] τ) ∧ (¬ x0 ≤ x1 → Ru M_Ways_nearest d Q 44 [some (.ref a0), some (.long a1), none, some (.int a3), some (.int a4), some (.int a5)] [] τ))) ∧
    (∀ (a0 : Nat) (a1 : Int64) (a3 : Int32) (a4 : Int32) (a5 : Int32) (τ : St), Ru M_Ways_nearest d Q 44 [some (.ref a0), some (.long a1), none, some (.int a3), some (.int a4), some (.int a5)] [] τ = Ru M_Ways_nearest d Q 46 [some (.ref a0), some (.long a1), none, some (.int a3), some (.int a4), some (.int a5)] [.int a5] τ) ∧
    (∀ (a0 : Nat) (a1 : Int64) (a3 : Int32) (a4 : Int32) (a5 : Int32) (x0 : Int32) (τ : St), Ru M_Ways_nearest d Q 46 [some (.ref a0), some (.long a1), none, some (.int a3), some (.int a4), some (.int a5)] [.int x0] τ = Ru M_Ways_nearest d Q 47 [some (.ref a0), some (.long a1), none, some (.int x0), some (.int a4), some (.int a5)] [] τ) ∧
    (∀ (a0 : Nat) (a1 : Int64) (a3 : Int32) (a4 : Int32) (a5 : Int32) (τ : St), Ru M_Ways_nearest d Q 47 [some (.ref a0), some (.long a1), none, some (.int a3), some (.int a4), some (.int a5)] [] τ = Ru M_Ways_nearest d Q 48 [some (.ref a0), some (.long a1), none, some (.int a3), some (.int a4), some (.int a5)] [.ref a0] τ) ∧
    (∀ (a0 : Nat) (a1 : Int64) (a3 : Int32) (a4 : Int32) (a5 : Int32) (x0 : Nat) (τ : St), Ru M_Ways_nearest d Q 48 [some (.ref a0), some (.long a1), none, some (.int a3), some (.int a4), some (.int a5)] [.ref x0] τ = (isA 10 x0 ∧ Ru M_Ways_nearest d Q 51 [some (.ref a0), some (.long a1), none, some (.int a3), some (.int a4), some (.int a5)] [.ref (rtab x0 5)] τ)) ∧
    (∀ (a0 : Nat) (a1 : Int64) (a3 : Int32) (a4 : Int32) (a5 : Int32) (x0 : Nat) (τ : St), Ru M_Ways_nearest d Q 51 [some (.ref a0), some (.long a1), none, some (.int a3), some (.int a4), some (.int a5)] [.ref x0] τ = Ru M_Ways_nearest d Q 53 [some (.ref a0), some (.long a1), none, some (.int a3), some (.int a4), some (.int a5)] [.int a5, .ref x0] τ) ∧
    (∀ (a0 : Nat) (a1 : Int64) (a3 : Int32) (a4 : Int32) (a5 : Int32) (x0 : Int32) (x1 : Nat) (τ : St), Ru M_Ways_nearest d Q 53 [some (.ref a0), some (.long a1), none, some (.int a3), some (.int a4), some (.int a5)] [.int x0, .ref x1] τ = (isA 14 x1 ∧ vp_in x0 (len x1) ∧ Ru M_Ways_nearest d Q 54 [some (.ref a0), some (.long a1), none, some (.int a3), some (.int a4), some (.int a5)] [.int (τ.1 x1 x0.toNatClampNeg)] τ)) ∧
    (∀ (a0 : Nat) (a1 : Int64) (a3 : Int32) (a4 : Int32) (a5 : Int32) (x0 : Int32) (τ : St), Ru M_Ways_nearest d Q 54 [some (.ref a0), some (.long a1), none, some (.int a3), some (.int a4), some (.int a5)] [.int x0] τ = Ru M_Ways_nearest d Q 56 [some (.ref a0), some (.long a1), none, some (.int a3), some (.int x0), some (.int a5)] [] τ) ∧
    (∀ (a0 : Nat) (a1 : Int64) (a3 : Int32) (a4 : Int32) (a5 : Int32) (τ : St), Ru M_Ways_nearest d Q 56 [some (.ref a0), some (.long a1), none, some (.int a3), some (.int a4), some (.int a5)] [] τ = Ru M_Ways_nearest d Q 59 [some (.ref a0), some (.long a1), none, some (.int a3), some (.int a4), some (.int (a5 + 1))] [] τ) ∧
    (∀ (a0 : Nat) (a1 : Int64) (a3 : Int32) (a4 : Int32) (a5 : Int32) (τ : St), Ru M_Ways_nearest d Q 59 [some (.ref a0), some (.long a1), none, some (.int a3), some (.int a4), some (.int a5)] [] τ = Rs M_Ways_nearest d Q 9 [some (.ref a0), some (.long a1), none, some (.int a3), some (.int a4), some (.int a5)] [] τ) ∧
    (∀ (a0 : Nat) (a1 : Int64) (a3 : Int32) (a4 : Int32) (a5 : Int32) (τ : St), Ru M_Ways_nearest d Q 62 [some (.ref a0), some (.long a1), none, some (.int a3), some (.int a4), some (.int a5)] [] τ = Ru M_Ways_nearest d Q 63 [some (.ref a0), some (.long a1), none, some (.int a3), some (.int a4), some (.int a5)] [.int a3] τ) ∧
    (∀ (a0 : Nat) (a1 : Int64) (a3 : Int32) (a4 : Int32) (a5 : Int32) (x0 : Int32) (τ : St), Ru M_Ways_nearest d Q 63 [some (.ref a0), some (.long a1), none, some (.int a3), some (.int a4), some (.int a5)] [.int x0] τ = Q (some (.int x0)) τ) := ⟨
  fun _ _ _ => (R_at ok_Ways_nearest rfl).trans e_push,
  fun _ _ _ _ => (R_at ok_Ways_nearest rfl).trans e_ist,
  fun _ _ _ _ => (R_at ok_Ways_nearest rfl).trans e_push,
  fun _ _ _ _ _ => (R_at ok_Ways_nearest rfl).trans e_ist,
  fun _ _ _ _ _ => (R_at ok_Ways_nearest rfl).trans e_push,
  fun _ _ _ _ _ _ => (R_at ok_Ways_nearest rfl).trans e_ist,
  fun _ _ _ _ _ _ => (R_at ok_Ways_nearest rfl).trans (e_ild rfl),
  fun _ _ _ _ _ _ _ => (R_at ok_Ways_nearest rfl).trans (e_ald rfl),
  fun _ _ _ _ _ _ _ _ => (R_at ok_Ways_nearest rfl).trans e_gR,
  fun _ _ _ _ _ _ _ _ => (R_at ok_Ways_nearest rfl).trans e_gI,
  fun _ _ _ _ _ _ _ _ => (R_at ok_Ways_nearest rfl).trans e_ic,
  fun _ _ _ _ _ _ => (R_at ok_Ways_nearest rfl).trans (e_lld rfl),
  fun _ _ _ _ _ _ _ => (R_at ok_Ways_nearest rfl).trans (e_ild rfl),
  fun _ _ _ _ _ _ _ _ => (R_at ok_Ways_nearest rfl).trans e_lsh,
  fun _ _ _ _ _ _ _ => (R_at ok_Ways_nearest rfl).trans e_push,
  fun _ _ _ _ _ _ _ _ => (R_at ok_Ways_nearest rfl).trans e_lbin,
  fun _ _ _ _ _ _ _ => (R_at ok_Ways_nearest rfl).trans e_push,
  fun _ _ _ _ _ _ _ _ => (R_at ok_Ways_nearest rfl).trans e_lcmp,
  fun _ _ _ _ _ _ _ => (R_at ok_Ways_nearest rfl).trans e_if,
  fun _ _ _ _ _ _ => (R_at ok_Ways_nearest rfl).trans (e_ald rfl),
  fun _ _ _ _ _ _ _ => (R_at ok_Ways_nearest rfl).trans e_gR,
  fun _ _ _ _ _ _ _ => (R_at ok_Ways_nearest rfl).trans (e_ild rfl),
  fun _ _ _ _ _ _ _ _ => (R_at ok_Ways_nearest rfl).trans e_al,
  fun _ _ _ _ _ _ _ => (R_at ok_Ways_nearest rfl).trans (e_ild rfl),
  fun _ _ _ _ _ _ _ _ => (R_at ok_Ways_nearest rfl).trans e_ic,
  fun _ _ _ _ _ _ => (R_at ok_Ways_nearest rfl).trans (e_ild rfl),
  fun _ _ _ _ _ _ _ => (R_at ok_Ways_nearest rfl).trans e_ist,
  fun _ _ _ _ _ _ => (R_at ok_Ways_nearest rfl).trans (e_ald rfl),
  fun _ _ _ _ _ _ _ => (R_at ok_Ways_nearest rfl).trans e_gR,
  fun _ _ _ _ _ _ _ => (R_at ok_Ways_nearest rfl).trans (e_ild rfl),
  fun _ _ _ _ _ _ _ _ => (R_at ok_Ways_nearest rfl).trans e_al,
  fun _ _ _ _ _ _ _ => (R_at ok_Ways_nearest rfl).trans e_ist,
  fun _ _ _ _ _ _ => (R_at ok_Ways_nearest rfl).trans (e_iinc rfl),
  fun _ _ _ _ _ _ => (R_at ok_Ways_nearest rfl).trans e_goto,
  fun _ _ _ _ _ _ => (R_at ok_Ways_nearest rfl).trans (e_ild rfl),
  fun _ _ _ _ _ _ _ => (R_at ok_Ways_nearest rfl).trans e_iret⟩
set_option maxHeartbeats 4000000 in
theorem N_Ways_measureAround (d : Nat) (Q : Qt) : ∀ (x0 : Nat) (x1 : Int32) (x2 : Int32) (x3 : Int32) (τ : St), Cl (d + 1) m_Ways_measureAround [.ref x0, .int x1, .int x2, .int x3] τ Q = Ru M_Ways_measureAround d Q 0 [some (.ref x0), some (.int x1), some (.int x2), some (.int x3), none, none, none, none] [] τ := fun _ _ _ _ _ => propext ⟨fun h => h.2, fun h => ⟨Nat.le_of_ble_eq_true rfl, h⟩⟩
set_option maxHeartbeats 4000000 in
theorem E_Ways_measureAround (d : Nat) (Q : Qt) :
    (∀ (a0 : Nat) (a1 : Int32) (a2 : Int32) (a3 : Int32) (τ : St), Ru M_Ways_measureAround d Q 0 [some (.ref a0), some (.int a1), some (.int a2), some (.int a3), none, none, none, none] [] τ = Ru M_Ways_measureAround d Q 1 [some (.ref a0), some (.int a1), some (.int a2), some (.int a3), none, none, none, none] [.int 0] τ) ∧
    (∀ (a0 : Nat) (a1 : Int32) (a2 : Int32) (a3 : Int32) (x0 : Int32) (τ : St), Ru M_Ways_measureAround d Q 1 [some (.ref a0), some (.int a1), some (.int a2), some (.int a3), none, none, none, none] [.int x0] τ = Rs M_Ways_measureAround d Q 3 [some (.ref a0), some (.int a1), some (.int a2), some (.int a3), some (.int x0), none, none, none] [] τ) ∧
    (∀ (a0 : Nat) (a1 : Int32) (a2 : Int32) (a3 : Int32) (a4 : Int32) (a5 : Option Value) (a6 : Option Value) (a7 : Option Value) (τ : St), Ru M_Ways_measureAround d Q 3 [some (.ref a0), some (.int a1), some (.int a2), some (.int a3), some (.int a4), a5, a6, a7] [] τ = Ru M_Ways_measureAround d Q 5 [some (.ref a0), some (.int a1), some (.int a2), some (.int a3), some (.int a4), a5, a6, a7] [.int a4] τ) ∧
    (∀ (a0 : Nat) (a1 : Int32) (a2 : Int32) (a3 : Int32) (a4 : Int32) (a5 : Option Value) (a6 : Option Value) (a7 : Option Value) (x0 : Int32) (τ : St), Ru M_Ways_measureAround d Q 5 [some (.ref a0), some (.int a1), some (.int a2), some (.int a3), some (.int a4), a5, a6, a7] [.int x0] τ = Ru M_Ways_measureAround d Q 6 [some (.ref a0), some (.int a1), some (.int a2), some (.int a3), some (.int a4), a5, a6, a7] [.int 4, .int x0] τ) ∧
    (∀ (a0 : Nat) (a1 : Int32) (a2 : Int32) (a3 : Int32) (a4 : Int32) (a5 : Option Value) (a6 : Option Value) (a7 : Option Value) (x0 : Int32) (x1 : Int32) (τ : St), Ru M_Ways_measureAround d Q 6 [some (.ref a0), some (.int a1), some (.int a2), some (.int a3), some (.int a4), a5, a6, a7] [.int x0, .int x1] τ = ((x0 ≤ x1 → Ru M_Ways_measureAround d Q 87 [some (.ref a0), some (.int a1), some (.int a2), some (.int a3), some (.int a4), a5, a6, a7] [] τ) ∧ (¬ x0 ≤ x1 → Ru M_Ways_measureAround d Q 9 [some (.ref a0), some (.int a1), some (.int a2), some (.int a3), some (.int a4), a5, a6, a7] [] τ))) ∧
    (∀ (a0 : Nat) (a1 : Int32) (a2 : Int32) (a3 : Int32) (a4 : Int32) (a5 : Option Value) (a6 : Option Value) (a7 : Option Value) (τ : St), Ru M_Ways_measureAround d Q 9 [some (.ref a0), some (.int a1), some (.int a2), some (.int a3), some (.int a4), a5, a6, a7] [] τ = Ru M_Ways_measureAround d Q 10 [some (.ref a0), some (.int a1), some (.int a2), some (.int a3), some (.int a4), a5, a6, a7] [.ref a0] τ) ∧
    (∀ (a0 : Nat) (a1 : Int32) (a2 : Int32) (a3 : Int32) (a4 : Int32) (a5 : Option Value) (a6 : Option Value) (a7 : Option Value) (x0 : Nat) (τ : St), Ru M_Ways_measureAround d Q 10 [some (.ref a0), some (.int a1), some (.int a2), some (.int a3), some (.int a4), a5, a6, a7] [.ref x0] τ = (isA 10 x0 ∧ Ru M_Ways_measureAround d Q 13 [some (.ref a0), some (.int a1), some (.int a2), some (.int a3), some (.int a4), a5, a6, a7] [.ref (rtab x0 0)] τ)) ∧
    (∀ (a0 : Nat) (a1 : Int32) (a2 : Int32) (a3 : Int32) (a4 : Int32) (a5 : Option Value) (a6 : Option Value) (a7 : Option Value) (x0 : Nat) (τ : St), Ru M_Ways_measureAround d Q 13 [some (.ref a0), some (.int a1), some (.int a2), some (.int a3), some (.int a4), a5, a6, a7] [.ref x0] τ = Ru M_Ways_measureAround d Q 14 [some (.ref a0), some (.int a1), some (.int a2), some (.int a3), some (.int a4), a5, a6, a7] [.int a1, .ref x0] τ) ∧
    (∀ (a0 : Nat) (a1 : Int32) (a2 : Int32) (a3 : Int32) (a4 : Int32) (a5 : Option Value) (a6 : Option Value) (a7 : Option Value) (x0 : Int32) (x1 : Nat) (τ : St), Ru M_Ways_measureAround d Q 14 [some (.ref a0), some (.int a1), some (.int a2), some (.int a3), some (.int a4), a5, a6, a7] [.int x0, .ref x1] τ = Ru M_Ways_measureAround d Q 16 [some (.ref a0), some (.int a1), some (.int a2), some (.int a3), some (.int a4), a5, a6, a7] [.int a4, .int x0, .ref x1] τ) ∧
    (∀ (a0 : Nat) (a1 : Int32) (a2 : Int32) (a3 : Int32) (a4 : Int32) (a5 : Option Value) (a6 : Option Value) (a7 : Option Value) (x0 : Int32) (x1 : Int32) (x2 : Nat) (τ : St), Ru M_Ways_measureAround d Q 16 [some (.ref a0), some (.int a1), some (.int a2), some (.int a3), some (.int a4), a5, a6, a7] [.int x0, .int x1, .ref x2] τ = (isA 0 x2 ∧ Cl d m_Ground_beside [.ref x2, .int x1, .int x0] τ (fun v τ' => Ru M_Ways_measureAround d Q 19 [some (.ref a0), some (.int a1), some (.int a2), some (.int a3), some (.int a4), a5, a6, a7] (v.toList ++ []) τ'))) ∧
    (∀ (a0 : Nat) (a1 : Int32) (a2 : Int32) (a3 : Int32) (a4 : Int32) (a5 : Option Value) (a6 : Option Value) (a7 : Option Value) (x0 : Int32) (τ : St), Ru M_Ways_measureAround d Q 19 [some (.ref a0), some (.int a1), some (.int a2), some (.int a3), some (.int a4), a5, a6, a7] [.int x0] τ = Ru M_Ways_measureAround d Q 21 [some (.ref a0), some (.int a1), some (.int a2), some (.int a3), some (.int a4), some (.int x0), a6, a7] [] τ) ∧
    (∀ (a0 : Nat) (a1 : Int32) (a2 : Int32) (a3 : Int32) (a4 : Int32) (a5 : Int32) (a6 : Option Value) (a7 : Option Value) (τ : St), Ru M_Ways_measureAround d Q 21 [some (.ref a0), some (.int a1), some (.int a2), some (.int a3), some (.int a4), some (.int a5), a6, a7] [] τ = Ru M_Ways_measureAround d Q 23 [some (.ref a0), some (.int a1), some (.int a2), some (.int a3), some (.int a4), some (.int a5), a6, a7] [.int a5] τ) ∧
    (∀ (a0 : Nat) (a1 : Int32) (a2 : Int32) (a3 : Int32) (a4 : Int32) (a5 : Int32) (a6 : Option Value) (a7 : Option Value) (x0 : Int32) (τ : St), Ru M_Ways_measureAround d Q 23 [some (.ref a0), some (.int a1), some (.int a2), some (.int a3), some (.int a4), some (.int a5), a6, a7] [.int x0] τ = Ru M_Ways_measureAround d Q 24 [some (.ref a0), some (.int a1), some (.int a2), some (.int a3), some (.int a4), some (.int a5), a6, a7] [.int (-1), .int x0] τ) ∧
    (∀ (a0 : Nat) (a1 : Int32) (a2 : Int32) (a3 : Int32) (a4 : Int32) (a5 : Int32) (a6 : Option Value) (a7 : Option Value) (x0 : Int32) (x1 : Int32) (τ : St), Ru M_Ways_measureAround d Q 24 [some (.ref a0), some (.int a1), some (.int a2), some (.int a3), some (.int a4), some (.int a5), a6, a7] [.int x0, .int x1] τ = ((¬ x1 = x0 → Ru M_Ways_measureAround d Q 30 [some (.ref a0), some (.int a1), some (.int a2), some (.int a3), some (.int a4), some (.int a5), a6, a7] [] τ) ∧ (x1 = x0 → Ru M_Ways_measureAround d Q 27 [some (.ref a0), some (.int a1), some (.int a2), some (.int a3), some (.int a4), some (.int a5), a6, a7] [] τ))) ∧
    (∀ (a0 : Nat) (a1 : Int32) (a2 : Int32) (a3 : Int32) (a4 : Int32) (a5 : Int32) (a6 : Option Value) (a7 : Option Value) (τ : St), Ru M_Ways_measureAround d Q 27 [some (.ref a0), some (.int a1), some (.int a2), some (.int a3), some (.int a4), some (.int a5), a6, a7] [] τ = Ru M_Ways_measureAround d Q 81 [some (.ref a0), some (.int a1), some (.int a2), some (.int a3), some (.int a4), some (.int a5), a6, a7] [] τ) ∧
    (∀ (a0 : Nat) (a1 : Int32) (a2 : Int32) (a3 : Int32) (a4 : Int32) (a5 : Int32) (a6 : Option Value) (a7 : Option Value) (τ : St), Ru M_Ways_measureAround d Q 30 [some (.ref a0), some (.int a1), some (.int a2), some (.int a3), some (.int a4), some (.int a5), a6, a7] [] τ = Ru M_Ways_measureAround d Q 31 [some (.ref a0), some (.int a1), some (.int a2), some (.int a3), some (.int a4), some (.int a5), a6, a7] [.ref a0] τ) ∧
    (∀ (a0 : Nat) (a1 : Int32) (a2 : Int32) (a3 : Int32) (a4 : Int32) (a5 : Int32) (a6 : Option Value) (a7 : Option Value) (x0 : Nat) (τ : St), Ru M_Ways_measureAround d Q 31 [some (.ref a0), some (.int a1), some (.int a2), some (.int a3), some (.int a4), some (.int a5), a6, a7] [.ref x0] τ = Ru M_Ways_measureAround d Q 33 [some (.ref a0), some (.int a1), some (.int a2), some (.int a3), some (.int a4), some (.int a5), a6, a7] [.int a5, .ref x0] τ) ∧
    (∀ (a0 : Nat) (a1 : Int32) (a2 : Int32) (a3 : Int32) (a4 : Int32) (a5 : Int32) (a6 : Option Value) (a7 : Option Value) (x0 : Int32) (x1 : Nat) (τ : St), Ru M_Ways_measureAround d Q 33 [some (.ref a0), some (.int a1), some (.int a2), some (.int a3), some (.int a4), some (.int a5), a6, a7] [.int x0, .ref x1] τ = Ru M_Ways_measureAround d Q 34 [some (.ref a0), some (.int a1), some (.int a2), some (.int a3), some (.int a4), some (.int a5), a6, a7] [.int a1, .int x0, .ref x1] τ) ∧
    (∀ (a0 : Nat) (a1 : Int32) (a2 : Int32) (a3 : Int32) (a4 : Int32) (a5 : Int32) (a6 : Option Value) (a7 : Option Value) (x0 : Int32) (x1 : Int32) (x2 : Nat) (τ : St), Ru M_Ways_measureAround d Q 34 [some (.ref a0), some (.int a1), some (.int a2), some (.int a3), some (.int a4), some (.int a5), a6, a7] [.int x0, .int x1, .ref x2] τ = (isA 10 x2 ∧ Cl d m_Ways_pullTo [.ref x2, .int x1, .int x0] τ (fun v τ' => Ru M_Ways_measureAround d Q 37 [some (.ref a0), some (.int a1), some (.int a2), some (.int a3), some (.int a4), some (.int a5), a6, a7] (v.toList ++ []) τ'))) ∧
    (∀ (a0 : Nat) (a1 : Int32) (a2 : Int32) (a3 : Int32) (a4 : Int32) (a5 : Int32) (a6 : Option Value) (a7 : Option Value) (x0 : Int32) (τ : St), Ru M_Ways_measureAround d Q 37 [some (.ref a0), some (.int a1), some (.int a2), some (.int a3), some (.int a4), some (.int a5), a6, a7] [.int x0] τ = Ru M_Ways_measureAround d Q 39 [some (.ref a0), some (.int a1), some (.int a2), some (.int a3), some (.int a4), some (.int a5), some (.int x0), a7] [] τ) ∧
    (∀ (a0 : Nat) (a1 : Int32) (a2 : Int32) (a3 : Int32) (a4 : Int32) (a5 : Int32) (a6 : Int32) (a7 : Option Value) (τ : St), Ru M_Ways_measureAround d Q 39 [some (.ref a0), some (.int a1), some (.int a2), some (.int a3), some (.int a4), some (.int a5), some (.int a6), a7] [] τ = Ru M_Ways_measureAround d Q 40 [some (.ref a0), some (.int a1), some (.int a2), some (.int a3), some (.int a4), some (.int a5), some (.int a6), a7] [.ref a0] τ) ∧
    (∀ (a0 : Nat) (a1 : Int32) (a2 : Int32) (a3 : Int32) (a4 : Int32) (a5 : Int32) (a6 : Int32) (a7 : Option Value) (x0 : Nat) (τ : St), Ru M_Ways_measureAround d Q 40 [some (.ref a0), some (.int a1), some (.int a2), some (.int a3), some (.int a4), some (.int a5), some (.int a6), a7] [.ref x0] τ = (isA 10 x0 ∧ Ru M_Ways_measureAround d Q 43 [some (.ref a0), some (.int a1), some (.int a2), some (.int a3), some (.int a4), some (.int a5), some (.int a6), a7] [.ref (rtab x0 5)] τ)) ∧
    (∀ (a0 : Nat) (a1 : Int32) (a2 : Int32) (a3 : Int32) (a4 : Int32) (a5 : Int32) (a6 : Int32) (a7 : Option Value) (x0 : Nat) (τ : St), Ru M_Ways_measureAround d Q 43 [some (.ref a0), some (.int a1), some (.int a2), some (.int a3), some (.int a4), some (.int a5), some (.int a6), a7] [.ref x0] τ = Ru M_Ways_measureAround d Q 44 [some (.ref a0), some (.int a1), some (.int a2), some (.int a3), some (.int a4), some (.int a5), some (.int a6), a7] [.int a1, .ref x0] τ) ∧
    (∀ (a0 : Nat) (a1 : Int32) (a2 : Int32) (a3 : Int32) (a4 : Int32) (a5 : Int32) (a6 : Int32) (a7 : Option Value) (x0 : Int32) (x1 : Nat) (τ : St), Ru M_Ways_measureAround d Q 44 [some (.ref a0), some (.int a1), some (.int a2), some (.int a3), some (.int a4), some (.int a5), some (.int a6), a7] [.int x0, .ref x1] τ = (isA 14 x1 ∧ vp_in x0 (len x1) ∧ Ru M_Ways_measureAround d Q 45 [some (.ref a0), some (.int a1), some (.int a2), some (.int a3), some (.int a4), some (.int a5), some (.int a6), a7] [.int (τ.1 x1 x0.toNatClampNeg)] τ)) ∧
    (∀ (a0 : Nat) (a1 : Int32) (a2 : Int32) (a3 : Int32) (a4 : Int32) (a5 : Int32) (a6 : Int32) (a7 : Option Value) (x0 : Int32) (τ : St), Ru M_Ways_measureAround d Q 45 [some (.ref a0), some (.int a1), some (.int a2), some (.int a3), some (.int a4), some (.int a5), some (.int a6), a7] [.int x0] τ = Ru M_Ways_measureAround d Q 47 [some (.ref a0), some (.int a1), some (.int a2), some (.int a3), some (.int a4), some (.int a5), some (.int a6), a7] [.int a6, .int x0] τ) ∧
    (∀ (a0 : Nat) (a1 : Int32) (a2 : Int32) (a3 : Int32) (a4 : Int32) (a5 : Int32) (a6 : Int32) (a7 : Option Value) (x0 : Int32) (x1 : Int32) (τ : St), Ru M_Ways_measureAround d Q 47 [some (.ref a0), some (.int a1), some (.int a2), some (.int a3), some (.int a4), some (.int a5), some (.int a6), a7] [.int x0, .int x1] τ = Ru M_Ways_measureAround d Q 48 [some (.ref a0), some (.int a1), some (.int a2), some (.int a3), some (.int a4), some (.int a5), some (.int a6), a7] [.int a3, .int x0, .int x1] τ) ∧
    (∀ (a0 : Nat) (a1 : Int32) (a2 : Int32) (a3 : Int32) (a4 : Int32) (a5 : Int32) (a6 : Int32) (a7 : Option Value) (x0 : Int32) (x1 : Int32) (x2 : Int32) (τ : St), Ru M_Ways_measureAround d Q 48 [some (.ref a0), some (.int a1), some (.int a2), some (.int a3), some (.int a4), some (.int a5), some (.int a6), a7] [.int x0, .int x1, .int x2] τ = Ru M_Ways_measureAround d Q 49 [some (.ref a0), some (.int a1), some (.int a2), some (.int a3), some (.int a4), some (.int a5), some (.int a6), a7] [.int (x1 * x0), .int x2] τ) ∧
    (∀ (a0 : Nat) (a1 : Int32) (a2 : Int32) (a3 : Int32) (a4 : Int32) (a5 : Int32) (a6 : Int32) (a7 : Option Value) (x0 : Int32) (x1 : Int32) (τ : St), Ru M_Ways_measureAround d Q 49 [some (.ref a0), some (.int a1), some (.int a2), some (.int a3), some (.int a4), some (.int a5), some (.int a6), a7] [.int x0, .int x1] τ = Ru M_Ways_measureAround d Q 50 [some (.ref a0), some (.int a1), some (.int a2), some (.int a3), some (.int a4), some (.int a5), some (.int a6), a7] [.int (x1 + x0)] τ) ∧
    (∀ (a0 : Nat) (a1 : Int32) (a2 : Int32) (a3 : Int32) (a4 : Int32) (a5 : Int32) (a6 : Int32) (a7 : Option Value) (x0 : Int32) (τ : St), Ru M_Ways_measureAround d Q 50 [some (.ref a0), some (.int a1), some (.int a2), some (.int a3), some (.int a4), some (.int a5), some (.int a6), a7] [.int x0] τ = Ru M_Ways_measureAround d Q 51 [some (.ref a0), some (.int a1), some (.int a2), some (.int a3), some (.int a4), some (.int a5), some (.int a6), a7] [.int 1, .int x0] τ) ∧
    (∀ (a0 : Nat) (a1 : Int32) (a2 : Int32) (a3 : Int32) (a4 : Int32) (a5 : Int32) (a6 : Int32) (a7 : Option Value) (x0 : Int32) (x1 : Int32) (τ : St), Ru M_Ways_measureAround d Q 51 [some (.ref a0), some (.int a1), some (.int a2), some (.int a3), some (.int a4), some (.int a5), some (.int a6), a7] [.int x0, .int x1] τ = Ru M_Ways_measureAround d Q 52 [some (.ref a0), some (.int a1), some (.int a2), some (.int a3), some (.int a4), some (.int a5), some (.int a6), a7] [.int (x1 + x0)] τ) ∧
    (∀ (a0 : Nat) (a1 : Int32) (a2 : Int32) (a3 : Int32) (a4 : Int32) (a5 : Int32) (a6 : Int32) (a7 : Option Value) (x0 : Int32) (τ : St), Ru M_Ways_measureAround d Q 52 [some (.ref a0), some (.int a1), some (.int a2), some (.int a3), some (.int a4), some (.int a5), some (.int a6), a7] [.int x0] τ = Ru M_Ways_measureAround d Q 54 [some (.ref a0), some (.int a1), some (.int a2), some (.int a3), some (.int a4), some (.int a5), some (.int a6), some (.int x0)] [] τ) ∧
    (∀ (a0 : Nat) (a1 : Int32) (a2 : Int32) (a3 : Int32) (a4 : Int32) (a5 : Int32) (a6 : Int32) (a7 : Int32) (τ : St), Ru M_Ways_measureAround d Q 54 [some (.ref a0), some (.int a1), some (.int a2), some (.int a3), some (.int a4), some (.int a5), some (.int a6), some (.int a7)] [] τ = Ru M_Ways_measureAround d Q 56 [some (.ref a0), some (.int a1), some (.int a2), some (.int a3), some (.int a4), some (.int a5), some (.int a6), some (.int a7)] [.int a6] τ) ∧
    (∀ (a0 : Nat) (a1 : Int32) (a2 : Int32) (a3 : Int32) (a4 : Int32) (a5 : Int32) (a6 : Int32) (a7 : Int32) (x0 : Int32) (τ : St), Ru M_Ways_measureAround d Q 56 [some (.ref a0), some (.int a1), some (.int a2), some (.int a3), some (.int a4), some (.int a5), some (.int a6), some (.int a7)] [.int x0] τ = Ru M_Ways_measureAround d Q 57 [some (.ref a0), some (.int a1), some (.int a2), some (.int a3), some (.int a4), some (.int a5), some (.int a6), some (.int a7)] [.int a2, .int x0] τ) ∧
    (∀ (a0 : Nat) (a1 : Int32) (a2 : Int32) (a3 : Int32) (a4 : Int32) (a5 : Int32) (a6 : Int32) (a7 : Int32) (x0 : Int32) (x1 : Int32) (τ : St), Ru M_Ways_measureAround d Q 57 [some (.ref a0), some (.int a1), some (.int a2), some (.int a3), some (.int a4), some (.int a5), some (.int a6), some (.int a7)] [.int x0, .int x1] τ = ((x0 < x1 → Ru M_Ways_measureAround d Q 81 [some (.ref a0), some (.int a1), some (.int a2), some (.int a3), some (.int a4), some (.int a5), some (.int a6), some (.int a7)] [] τ) ∧ (¬ x0 < x1 → Ru M_Ways_measureAround d Q 60 [some (.ref a0), some (.int a1), some (.int a2), some (.int a3), some (.int a4), some (.int a5), some (.int a6), some (.int a7)] [] τ))) ∧
    (∀ (a0 : Nat) (a1 : Int32) (a2 : Int32) (a3 : Int32) (a4 : Int32) (a5 : Int32) (a6 : Int32) (a7 : Int32) (τ : St), Ru M_Ways_measureAround d Q 60 [some (.ref a0), some (.int a1), some (.int a2), some (.int a3), some (.int a4), some (.int a5), some (.int a6), some (.int a7)] [] τ = Ru M_Ways_measureAround d Q 62 [some (.ref a0), some (.int a1), some (.int a2), some (.int a3), some (.int a4), some (.int a5), some (.int a6), some (.int a7)] [.int a7] τ) ∧
    (∀ (a0 : Nat) (a1 : Int32) (a2 : Int32) (a3 : Int32) (a4 : Int32) (a5 : Int32) (a6 : Int32) (a7 : Int32) (x0 : Int32) (τ : St), Ru M_Ways_measureAround d Q 62 [some (.ref a0), some (.int a1), some (.int a2), some (.int a3), some (.int a4), some (.int a5), some (.int a6), some (.int a7)] [.int x0] τ = Ru M_Ways_measureAround d Q 63 [some (.ref a0), some (.int a1), some (.int a2), some (.int a3), some (.int a4), some (.int a5), some (.int a6), some (.int a7)] [.ref a0, .int x0] τ) ∧
    (∀ (a0 : Nat) (a1 : Int32) (a2 : Int32) (a3 : Int32) (a4 : Int32) (a5 : Int32) (a6 : Int32) (a7 : Int32) (x0 : Nat) (x1 : Int32) (τ : St), Ru M_Ways_measureAround d Q 63 [some (.ref a0), some (.int a1), some (.int a2), some (.int a3), some (.int a4), some (.int a5), some (.int a6), some (.int a7)] [.ref x0, .int x1] τ = (isA 10 x0 ∧ Ru M_Ways_measureAround d Q 66 [some (.ref a0), some (.int a1), some (.int a2), some (.int a3), some (.int a4), some (.int a5), some (.int a6), some (.int a7)] [.ref (rtab x0 5), .int x1] τ)) ∧
    (∀ (a0 : Nat) (a1 : Int32) (a2 : Int32) (a3 : Int32) (a4 : Int32) (a5 : Int32) (a6 : Int32) (a7 : Int32) (x0 : Nat) (x1 : Int32) (τ : St), Ru M_Ways_measureAround d Q 66 [some (.ref a0), some (.int a1), some (.int a2), some (.int a3), some (.int a4), some (.int a5), some (.int a6), some (.int a7)] [.ref x0, .int x1] τ = Ru M_Ways_measureAround d Q 68 [some (.ref a0), some (.int a1), some (.int a2), some (.int a3), some (.int a4), some (.int a5), some (.int a6), some (.int a7)] [.int a5, .ref x0, .int x1] τ) ∧
    (∀ (a0 : Nat) (a1 : Int32) (a2 : Int32) (a3 : Int32) (a4 : Int32) (a5 : Int32) (a6 : Int32) (a7 : Int32) (x0 : Int32) (x1 : Nat) (x2 : Int32) (τ : St), Ru M_Ways_measureAround d Q 68 [some (.ref a0), some (.int a1), some (.int a2), some (.int a3), some (.int a4), some (.int a5), some (.int a6), some (.int a7)] [.int x0, .ref x1, .int x2] τ = (isA 14 x1 ∧ vp_in x0 (len x1) ∧ Ru M_Ways_measureAround d Q 69 [some (.ref a0), some (.int a1), some (.int a2), some (.int a3), some (.int a4), some (.int a5), some (.int a6), some (.int a7)] [.int (τ.1 x1 x0.toNatClampNeg), .int x2] τ)) ∧
    (∀ (a0 : Nat) (a1 : Int32) (a2 : Int32) (a3 : Int32) (a4 : Int32) (a5 : Int32) (a6 : Int32) (a7 : Int32) (x0 : Int32) (x1 : Int32) (τ : St), Ru M_Ways_measureAround d Q 69 [some (.ref a0), some (.int a1), some (.int a2), some (.int a3), some (.int a4), some (.int a5), some (.int a6), some (.int a7)] [.int x0, .int x1] τ = ((x0 ≤ x1 → Ru M_Ways_measureAround d Q 81 [some (.ref a0), some (.int a1), some (.int a2), some (.int a3), some (.int a4), some (.int a5), some (.int a6), some (.int a7)] [] τ) ∧ (¬ x0 ≤ x1 → Ru M_Ways_measureAround d Q 72 [some (.ref a0), some (.int a1), some (.int a2), some (.int a3), some (.int a4), some (.int a5), some (.int a6), some (.int a7)] [] τ))) ∧
    (∀ (a0 : Nat) (a1 : Int32) (a2 : Int32) (a3 : Int32) (a4 : Int32) (a5 : Int32) (a6 : Int32) (a7 : Int32) (τ : St), Ru M_Ways_measureAround d Q 72 [some (.ref a0), some (.int a1), some (.int a2), some (.int a3), some (.int a4), some (.int a5), some (.int a6), some (.int a7)] [] τ = Ru M_Ways_measureAround d Q 73 [some (.ref a0), some (.int a1), some (.int a2), some (.int a3), some (.int a4), some (.int a5), some (.int a6), some (.int a7)] [.ref a0] τ) ∧
    (∀ (a0 : Nat) (a1 : Int32) (a2 : Int32) (a3 : Int32) (a4 : Int32) (a5 : Int32) (a6 : Int32) (a7 : Int32) (x0 : Nat) (τ : St), Ru M_Ways_measureAround d Q 73 [some (.ref a0), some (.int a1), some (.int a2), some (.int a3), some (.int a4), some (.int a5), some (.int a6), some (.int a7)] [.ref x0] τ = (isA 10 x0 ∧ Ru M_Ways_measureAround d Q 76 [some (.ref a0), some (.int a1), some (.int a2), some (.int a3), some (.int a4), some (.int a5), some (.int a6), some (.int a7)] [.ref (rtab x0 5)] τ)) ∧
    (∀ (a0 : Nat) (a1 : Int32) (a2 : Int32) (a3 : Int32) (a4 : Int32) (a5 : Int32) (a6 : Int32) (a7 : Int32) (x0 : Nat) (τ : St), Ru M_Ways_measureAround d Q 76 [some (.ref a0), some (.int a1), some (.int a2), some (.int a3), some (.int a4), some (.int a5), some (.int a6), some (.int a7)] [.ref x0] τ = Ru M_Ways_measureAround d Q 78 [some (.ref a0), some (.int a1), some (.int a2), some (.int a3), some (.int a4), some (.int a5), some (.int a6), some (.int a7)] [.int a5, .ref x0] τ) ∧
    (∀ (a0 : Nat) (a1 : Int32) (a2 : Int32) (a3 : Int32) (a4 : Int32) (a5 : Int32) (a6 : Int32) (a7 : Int32) (x0 : Int32) (x1 : Nat) (τ : St), Ru M_Ways_measureAround d Q 78 [some (.ref a0), some (.int a1), some (.int a2), some (.int a3), some (.int a4), some (.int a5), some (.int a6), some (.int a7)] [.int x0, .ref x1] τ = Ru M_Ways_measureAround d Q 80 [some (.ref a0), some (.int a1), some (.int a2), some (.int a3), some (.int a4), some (.int a5), some (.int a6), some (.int a7)] [.int a7, .int x0, .ref x1] τ) ∧
    (∀ (a0 : Nat) (a1 : Int32) (a2 : Int32) (a3 : Int32) (a4 : Int32) (a5 : Int32) (a6 : Int32) (a7 : Int32) (x0 : Int32) (x1 : Int32) (x2 : Nat) (τ : St), Ru M_Ways_measureAround d Q 80 [some (.ref a0), some (.int a1), some (.int a2), some (.int a3), some (.int a4), some (.int a5), some (.int a6), some (.int a7)] [.int x0, .int x1, .ref x2] τ = (isA 14 x2 ∧ vp_in x1 (len x2) ∧ Ru M_Ways_measureAround d Q 81 [some (.ref a0), some (.int a1), some (.int a2), some (.int a3), some (.int a4), some (.int a5), some (.int a6), some (.int a7)] [] (sI τ x2 x1.toNatClampNeg (x0)))) ∧
    (∀ (a0 : Nat) (a1 : Int32) (a2 : Int32) (a3 : Int32) (a4 : Int32) (a5 : Int32) (a6 : Option Value) (a7 : Option Value) (τ : St), Ru M_Ways_measureAround d Q 81 [some (.ref a0), some (.int a1), some (.int a2), some (.int a3), some (.int a4), some (.int a5), a6, a7] [] τ = Ru M_Ways_measureAround d Q 84 [some (.ref a0), some (.int a1), some (.int a2), some (.int a3), some (.int (a4 + 1)), some (.int a5), a6, a7] [] τ) ∧
    (∀ (a0 : Nat) (a1 : Int32) (a2 : Int32) (a3 : Int32) (a4 : Int32) (a5 : Int32) (a6 : Option Value) (a7 : Option Value) (τ : St), Ru M_Ways_measureAround d Q 84 [some (.ref a0), some (.int a1), some (.int a2), some (.int a3), some (.int a4), some (.int a5), a6, a7] [] τ = Rs M_Ways_measureAround d Q 3 [some (.ref a0), some (.int a1), some (.int a2), some (.int a3), some (.int a4), some (.int a5), a6, a7] [] τ) ∧
    (∀ (a0 : Nat) (a1 : Int32) (a2 : Int32) (a3 : Int32) (a4 : Int32) (a5 : Option Value) (a6 : Option Value) (a7 : Option Value) (τ : St), Ru M_Ways_measureAround d Q 87 [some (.ref a0), some (.int a1), some (.int a2), some (.int a3), some (.int a4), a5, a6, a7] [] τ = Q none τ) := ⟨
  fun _ _ _ _ _ => (R_at ok_Ways_measureAround rfl).trans e_push,
  fun _ _ _ _ _ _ => (R_at ok_Ways_measureAround rfl).trans e_ist,
  fun _ _ _ _ _ _ _ _ _ => (R_at ok_Ways_measureAround rfl).trans (e_ild rfl),
  fun _ _ _ _ _ _ _ _ _ _ => (R_at ok_Ways_measureAround rfl).trans e_push,
  fun _ _ _ _ _ _ _ _ _ _ _ => (R_at ok_Ways_measureAround rfl).trans e_ic,
  fun _ _ _ _ _ _ _ _ _ => (R_at ok_Ways_measureAround rfl).trans (e_ald rfl),
  fun _ _ _ _ _ _ _ _ _ _ => (R_at ok_Ways_measureAround rfl).trans e_gR,
  fun _ _ _ _ _ _ _ _ _ _ => (R_at ok_Ways_measureAround rfl).trans (e_ild rfl),
  fun _ _ _ _ _ _ _ _ _ _ _ => (R_at ok_Ways_measureAround rfl).trans (e_ild rfl),
  fun _ _ _ _ _ _ _ _ x0 x1 _ _ => (R_at ok_Ways_measureAround rfl).trans (e_cv [.int x1, .int x0] rfl rfl rfl),
  fun _ _ _ _ _ _ _ _ _ _ => (R_at ok_Ways_measureAround rfl).trans e_ist,
  fun _ _ _ _ _ _ _ _ _ => (R_at ok_Ways_measureAround rfl).trans (e_ild rfl),
  fun _ _ _ _ _ _ _ _ _ _ => (R_at ok_Ways_measureAround rfl).trans e_push,
  fun _ _ _ _ _ _ _ _ _ _ _ => (R_at ok_Ways_measureAround rfl).trans e_icn,
  fun _ _ _ _ _ _ _ _ _ => (R_at ok_Ways_measureAround rfl).trans e_goto,
  fun _ _ _ _ _ _ _ _ _ => (R_at ok_Ways_measureAround rfl).trans (e_ald rfl),
  fun _ _ _ _ _ _ _ _ _ _ => (R_at ok_Ways_measureAround rfl).trans (e_ild rfl),
  fun _ _ _ _ _ _ _ _ _ _ _ => (R_at ok_Ways_measureAround rfl).trans (e_ild rfl),
  fun _ _ _ _ _ _ _ _ x0 x1 _ _ => (R_at ok_Ways_measureAround rfl).trans (e_cv [.int x1, .int x0] rfl rfl rfl),
  fun _ _ _ _ _ _ _ _ _ _ => (R_at ok_Ways_measureAround rfl).trans e_ist,
  fun _ _ _ _ _ _ _ _ _ => (R_at ok_Ways_measureAround rfl).trans (e_ald rfl),
  fun _ _ _ _ _ _ _ _ _ _ => (R_at ok_Ways_measureAround rfl).trans e_gR,
  fun _ _ _ _ _ _ _ _ _ _ => (R_at ok_Ways_measureAround rfl).trans (e_ild rfl),
  fun _ _ _ _ _ _ _ _ _ _ _ => (R_at ok_Ways_measureAround rfl).trans e_al,
  fun _ _ _ _ _ _ _ _ _ _ => (R_at ok_Ways_measureAround rfl).trans (e_ild rfl),
  fun _ _ _ _ _ _ _ _ _ _ _ => (R_at ok_Ways_measureAround rfl).trans (e_ild rfl),
  fun _ _ _ _ _ _ _ _ _ _ _ _ => (R_at ok_Ways_measureAround rfl).trans e_bin,
  fun _ _ _ _ _ _ _ _ _ _ _ => (R_at ok_Ways_measureAround rfl).trans e_bin,
  fun _ _ _ _ _ _ _ _ _ _ => (R_at ok_Ways_measureAround rfl).trans e_push,
  fun _ _ _ _ _ _ _ _ _ _ _ => (R_at ok_Ways_measureAround rfl).trans e_bin,
  fun _ _ _ _ _ _ _ _ _ _ => (R_at ok_Ways_measureAround rfl).trans e_ist,
  fun _ _ _ _ _ _ _ _ _ => (R_at ok_Ways_measureAround rfl).trans (e_ild rfl),
  fun _ _ _ _ _ _ _ _ _ _ => (R_at ok_Ways_measureAround rfl).trans (e_ild rfl),
  fun _ _ _ _ _ _ _ _ _ _ _ => (R_at ok_Ways_measureAround rfl).trans e_ic,
  fun _ _ _ _ _ _ _ _ _ => (R_at ok_Ways_measureAround rfl).trans (e_ild rfl),
  fun _ _ _ _ _ _ _ _ _ _ => (R_at ok_Ways_measureAround rfl).trans (e_ald rfl),
  fun _ _ _ _ _ _ _ _ _ _ _ => (R_at ok_Ways_measureAround rfl).trans e_gR,
  fun _ _ _ _ _ _ _ _ _ _ _ => (R_at ok_Ways_measureAround rfl).trans (e_ild rfl),
  fun _ _ _ _ _ _ _ _ _ _ _ _ => (R_at ok_Ways_measureAround rfl).trans e_al,
  fun _ _ _ _ _ _ _ _ _ _ _ => (R_at ok_Ways_measureAround rfl).trans e_ic,
  fun _ _ _ _ _ _ _ _ _ => (R_at ok_Ways_measureAround rfl).trans (e_ald rfl),
  fun _ _ _ _ _ _ _ _ _ _ => (R_at ok_Ways_measureAround rfl).trans e_gR,
  fun _ _ _ _ _ _ _ _ _ _ => (R_at ok_Ways_measureAround rfl).trans (e_ild rfl),
  fun _ _ _ _ _ _ _ _ _ _ _ => (R_at ok_Ways_measureAround rfl).trans (e_ild rfl),
  fun _ _ _ _ _ _ _ _ _ _ _ _ => (R_at ok_Ways_measureAround rfl).trans e_as,
  fun _ _ _ _ _ _ _ _ _ => (R_at ok_Ways_measureAround rfl).trans (e_iinc rfl),
  fun _ _ _ _ _ _ _ _ _ => (R_at ok_Ways_measureAround rfl).trans e_goto,
  fun _ _ _ _ _ _ _ _ _ => (R_at ok_Ways_measureAround rfl).trans e_vret⟩
set_option maxHeartbeats 4000000 in
theorem N_Ways_costFrom (d : Nat) (Q : Qt) : ∀ (x0 : Nat) (x1 : Int32) (τ : St), Cl (d + 1) m_Ways_costFrom [.ref x0, .int x1] τ Q = Ru M_Ways_costFrom d Q 0 [some (.ref x0), some (.int x1)] [] τ := fun _ _ _ => propext ⟨fun h => h.2, fun h => ⟨Nat.le_of_ble_eq_true rfl, h⟩⟩
set_option maxHeartbeats 4000000 in
theorem E_Ways_costFrom (d : Nat) (Q : Qt) :
    (∀ (a0 : Nat) (a1 : Int32) (τ : St), Ru M_Ways_costFrom d Q 0 [some (.ref a0), some (.int a1)] [] τ = Ru M_Ways_costFrom d Q 1 [some (.ref a0), some (.int a1)] [.ref a0] τ) ∧
    (∀ (a0 : Nat) (a1 : Int32) (x0 : Nat) (τ : St), Ru M_Ways_costFrom d Q 1 [some (.ref a0), some (.int a1)] [.ref x0] τ = (isA 10 x0 ∧ Ru M_Ways_costFrom d Q 4 [some (.ref a0), some (.int a1)] [.ref (rtab x0 0)] τ)) ∧
    (∀ (a0 : Nat) (a1 : Int32) (x0 : Nat) (τ : St), Ru M_Ways_costFrom d Q 4 [some (.ref a0), some (.int a1)] [.ref x0] τ = Ru M_Ways_costFrom d Q 5 [some (.ref a0), some (.int a1)] [.int a1, .ref x0] τ) ∧
    (∀ (a0 : Nat) (a1 : Int32) (x0 : Int32) (x1 : Nat) (τ : St), Ru M_Ways_costFrom d Q 5 [some (.ref a0), some (.int a1)] [.int x0, .ref x1] τ = (isA 0 x1 ∧ Cl d m_Ground_has [.ref x1, .int x0] τ (fun v τ' => Ru M_Ways_costFrom d Q 8 [some (.ref a0), some (.int a1)] (v.toList ++ []) τ'))) ∧
    (∀ (a0 : Nat) (a1 : Int32) (x0 : Int32) (τ : St), Ru M_Ways_costFrom d Q 8 [some (.ref a0), some (.int a1)] [.int x0] τ = ((x0 = 0 → Ru M_Ways_costFrom d Q 20 [some (.ref a0), some (.int a1)] [] τ) ∧ (¬ x0 = 0 → Ru M_Ways_costFrom d Q 11 [some (.ref a0), some (.int a1)] [] τ))) ∧
    (∀ (a0 : Nat) (a1 : Int32) (τ : St), Ru M_Ways_costFrom d Q 11 [some (.ref a0), some (.int a1)] [] τ = Ru M_Ways_costFrom d Q 12 [some (.ref a0), some (.int a1)] [.ref a0] τ) ∧
    (∀ (a0 : Nat) (a1 : Int32) (x0 : Nat) (τ : St), Ru M_Ways_costFrom d Q 12 [some (.ref a0), some (.int a1)] [.ref x0] τ = (isA 10 x0 ∧ Ru M_Ways_costFrom d Q 15 [some (.ref a0), some (.int a1)] [.ref (rtab x0 5)] τ)) ∧
    (∀ (a0 : Nat) (a1 : Int32) (x0 : Nat) (τ : St), Ru M_Ways_costFrom d Q 15 [some (.ref a0), some (.int a1)] [.ref x0] τ = Ru M_Ways_costFrom d Q 16 [some (.ref a0), some (.int a1)] [.int a1, .ref x0] τ) ∧
    (∀ (a0 : Nat) (a1 : Int32) (x0 : Int32) (x1 : Nat) (τ : St), Ru M_Ways_costFrom d Q 16 [some (.ref a0), some (.int a1)] [.int x0, .ref x1] τ = (isA 14 x1 ∧ vp_in x0 (len x1) ∧ Ru M_Ways_costFrom d Q 17 [some (.ref a0), some (.int a1)] [.int (τ.1 x1 x0.toNatClampNeg)] τ)) ∧
    (∀ (a0 : Nat) (a1 : Int32) (x0 : Int32) (τ : St), Ru M_Ways_costFrom d Q 17 [some (.ref a0), some (.int a1)] [.int x0] τ = Ru M_Ways_costFrom d Q 22 [some (.ref a0), some (.int a1)] [.int x0] τ) ∧
    (∀ (a0 : Nat) (a1 : Int32) (τ : St), Ru M_Ways_costFrom d Q 20 [some (.ref a0), some (.int a1)] [] τ = Ru M_Ways_costFrom d Q 22 [some (.ref a0), some (.int a1)] [.int 1073741824] τ) ∧
    (∀ (a0 : Nat) (a1 : Int32) (x0 : Int32) (τ : St), Ru M_Ways_costFrom d Q 22 [some (.ref a0), some (.int a1)] [.int x0] τ = Q (some (.int x0)) τ) := ⟨
  fun _ _ _ => (R_at ok_Ways_costFrom rfl).trans (e_ald rfl),
  fun _ _ _ _ => (R_at ok_Ways_costFrom rfl).trans e_gR,
  fun _ _ _ _ => (R_at ok_Ways_costFrom rfl).trans (e_ild rfl),
  fun _ _ x0 _ _ => (R_at ok_Ways_costFrom rfl).trans (e_cv [.int x0] rfl rfl rfl),
  fun _ _ _ _ => (R_at ok_Ways_costFrom rfl).trans e_if,
  fun _ _ _ => (R_at ok_Ways_costFrom rfl).trans (e_ald rfl),
  fun _ _ _ _ => (R_at ok_Ways_costFrom rfl).trans e_gR,
  fun _ _ _ _ => (R_at ok_Ways_costFrom rfl).trans (e_ild rfl),
  fun _ _ _ _ _ => (R_at ok_Ways_costFrom rfl).trans e_al,
  fun _ _ _ _ => (R_at ok_Ways_costFrom rfl).trans e_goto,
  fun _ _ _ => (R_at ok_Ways_costFrom rfl).trans e_push,
  fun _ _ _ _ => (R_at ok_Ways_costFrom rfl).trans e_iret⟩
set_option maxHeartbeats 4000000 in
theorem N_Ways_tell (d : Nat) (Q : Qt) : ∀ (x0 : Nat) (x1 : Int32) (x2 : Int32) (x3 : Int32) (x4 : Nat) (τ : St), Cl (d + 1) m_Ways_tell [.ref x0, .int x1, .int x2, .int x3, .ref x4] τ Q = Ru M_Ways_tell d Q 0 [some (.ref x0), some (.int x1), some (.int x2), some (.int x3), some (.ref x4), none, none] [] τ := fun _ _ _ _ _ _ => propext ⟨fun h => h.2, fun h => ⟨Nat.le_of_ble_eq_true rfl, h⟩⟩
set_option maxHeartbeats 4000000 in
theorem E_Ways_tell (d : Nat) (Q : Qt) :
    (∀ (a0 : Nat) (a1 : Int32) (a2 : Int32) (a3 : Int32) (a4 : Nat) (τ : St), Ru M_Ways_tell d Q 0 [some (.ref a0), some (.int a1), some (.int a2), some (.int a3), some (.ref a4), none, none] [] τ = Ru M_Ways_tell d Q 2 [some (.ref a0), some (.int a1), some (.int a2), some (.int a3), some (.ref a4), none, none] [.ref a4] τ) ∧
    (∀ (a0 : Nat) (a1 : Int32) (a2 : Int32) (a3 : Int32) (a4 : Nat) (x0 : Nat) (τ : St), Ru M_Ways_tell d Q 2 [some (.ref a0), some (.int a1), some (.int a2), some (.int a3), some (.ref a4), none, none] [.ref x0] τ = Ru M_Ways_tell d Q 3 [some (.ref a0), some (.int a1), some (.int a2), some (.int a3), some (.ref a4), none, none] [.int a1, .ref x0] τ) ∧
    (∀ (a0 : Nat) (a1 : Int32) (a2 : Int32) (a3 : Int32) (a4 : Nat) (x0 : Int32) (x1 : Nat) (τ : St), Ru M_Ways_tell d Q 3 [some (.ref a0), some (.int a1), some (.int a2), some (.int a3), some (.ref a4), none, none] [.int x0, .ref x1] τ = Ru M_Ways_tell d Q 4 [some (.ref a0), some (.int a1), some (.int a2), some (.int a3), some (.ref a4), none, none] [.long x0.toInt64, .ref x1] τ) ∧
    (∀ (a0 : Nat) (a1 : Int32) (a2 : Int32) (a3 : Int32) (a4 : Nat) (x0 : Int64) (x1 : Nat) (τ : St), Ru M_Ways_tell d Q 4 [some (.ref a0), some (.int a1), some (.int a2), some (.int a3), some (.ref a4), none, none] [.long x0, .ref x1] τ = (isA 4 x1 ∧ Cl d m_Row_only [.ref x1, .long x0] τ (fun v τ' => Ru M_Ways_tell d Q 7 [some (.ref a0), some (.int a1), some (.int a2), some (.int a3), some (.ref a4), none, none] (v.toList ++ []) τ'))) ∧
    (∀ (a0 : Nat) (a1 : Int32) (a2 : Int32) (a3 : Int32) (a4 : Nat) (τ : St), Ru M_Ways_tell d Q 7 [some (.ref a0), some (.int a1), some (.int a2), some (.int a3), some (.ref a4), none, none] [] τ = Ru M_Ways_tell d Q 8 [some (.ref a0), some (.int a1), some (.int a2), some (.int a3), some (.ref a4), none, none] [.ref a0] τ) ∧
    (∀ (a0 : Nat) (a1 : Int32) (a2 : Int32) (a3 : Int32) (a4 : Nat) (x0 : Nat) (τ : St), Ru M_Ways_tell d Q 8 [some (.ref a0), some (.int a1), some (.int a2), some (.int a3), some (.ref a4), none, none] [.ref x0] τ = Ru M_Ways_tell d Q 9 [some (.ref a0), some (.int a1), some (.int a2), some (.int a3), some (.ref a4), none, none] [.int a1, .ref x0] τ) ∧
    (∀ (a0 : Nat) (a1 : Int32) (a2 : Int32) (a3 : Int32) (a4 : Nat) (x0 : Int32) (x1 : Nat) (τ : St), Ru M_Ways_tell d Q 9 [some (.ref a0), some (.int a1), some (.int a2), some (.int a3), some (.ref a4), none, none] [.int x0, .ref x1] τ = Ru M_Ways_tell d Q 10 [some (.ref a0), some (.int a1), some (.int a2), some (.int a3), some (.ref a4), none, none] [.int a2, .int x0, .ref x1] τ) ∧
    (∀ (a0 : Nat) (a1 : Int32) (a2 : Int32) (a3 : Int32) (a4 : Nat) (x0 : Int32) (x1 : Int32) (x2 : Nat) (τ : St), Ru M_Ways_tell d Q 10 [some (.ref a0), some (.int a1), some (.int a2), some (.int a3), some (.ref a4), none, none] [.int x0, .int x1, .ref x2] τ = Ru M_Ways_tell d Q 11 [some (.ref a0), some (.int a1), some (.int a2), some (.int a3), some (.ref a4), none, none] [.int a3, .int x0, .int x1, .ref x2] τ) ∧
    (∀ (a0 : Nat) (a1 : Int32) (a2 : Int32) (a3 : Int32) (a4 : Nat) (x0 : Int32) (x1 : Int32) (x2 : Int32) (x3 : Nat) (τ : St), Ru M_Ways_tell d Q 11 [some (.ref a0), some (.int a1), some (.int a2), some (.int a3), some (.ref a4), none, none] [.int x0, .int x1, .int x2, .ref x3] τ = (isA 10 x3 ∧ Cl d m_Ways_nextOn [.ref x3, .int x2, .int x1, .int x0] τ (fun v τ' => Ru M_Ways_tell d Q 14 [some (.ref a0), some (.int a1), some (.int a2), some (.int a3), some (.ref a4), none, none] (v.toList ++ []) τ'))) ∧
    (∀ (a0 : Nat) (a1 : Int32) (a2 : Int32) (a3 : Int32) (a4 : Nat) (x0 : Int32) (τ : St), Ru M_Ways_tell d Q 14 [some (.ref a0), some (.int a1), some (.int a2), some (.int a3), some (.ref a4), none, none] [.int x0] τ = Ru M_Ways_tell d Q 16 [some (.ref a0), some (.int a1), some (.int a2), some (.int a3), some (.ref a4), some (.int x0), none] [] τ) ∧
    (∀ (a0 : Nat) (a1 : Int32) (a2 : Int32) (a3 : Int32) (a4 : Nat) (a5 : Int32) (τ : St), Ru M_Ways_tell d Q 16 [some (.ref a0), some (.int a1), some (.int a2), some (.int a3), some (.ref a4), some (.int a5), none] [] τ = Ru M_Ways_tell d Q 17 [some (.ref a0), some (.int a1), some (.int a2), some (.int a3), some (.ref a4), some (.int a5), none] [.int 0] τ) ∧
    (∀ (a0 : Nat) (a1 : Int32) (a2 : Int32) (a3 : Int32) (a4 : Nat) (a5 : Int32) (x0 : Int32) (τ : St), Ru M_Ways_tell d Q 17 [some (.ref a0), some (.int a1), some (.int a2), some (.int a3), some (.ref a4), some (.int a5), none] [.int x0] τ = Rs M_Ways_tell d Q 19 [some (.ref a0), some (.int a1), some (.int a2), some (.int a3), some (.ref a4), some (.int a5), some (.int x0)] [] τ) ∧
    (∀ (a0 : Nat) (a1 : Int32) (a2 : Int32) (a3 : Int32) (a4 : Nat) (a5 : Int32) (a6 : Int32) (τ : St), Ru M_Ways_tell d Q 19 [some (.ref a0), some (.int a1), some (.int a2), some (.int a3), some (.ref a4), some (.int a5), some (.int a6)] [] τ = Ru M_Ways_tell d Q 21 [some (.ref a0), some (.int a1), some (.int a2), some (.int a3), some (.ref a4), some (.int a5), some (.int a6)] [.int a6] τ) ∧
    (∀ (a0 : Nat) (a1 : Int32) (a2 : Int32) (a3 : Int32) (a4 : Nat) (a5 : Int32) (a6 : Int32) (x0 : Int32) (τ : St), Ru M_Ways_tell d Q 21 [some (.ref a0), some (.int a1), some (.int a2), some (.int a3), some (.ref a4), some (.int a5), some (.int a6)] [.int x0] τ = Ru M_Ways_tell d Q 23 [some (.ref a0), some (.int a1), some (.int a2), some (.int a3), some (.ref a4), some (.int a5), some (.int a6)] [.int 36, .int x0] τ) ∧
    (∀ (a0 : Nat) (a1 : Int32) (a2 : Int32) (a3 : Int32) (a4 : Nat) (a5 : Int32) (a6 : Int32) (x0 : Int32) (x1 : Int32) (τ : St), Ru M_Ways_tell d Q 23 [some (.ref a0), some (.int a1), some (.int a2), some (.int a3), some (.ref a4), some (.int a5), some (.int a6)] [.int x0, .int x1] τ = ((x0 ≤ x1 → Ru M_Ways_tell d Q 56 [some (.ref a0), some (.int a1), some (.int a2), some (.int a3), some (.ref a4), some (.int a5), some (.int a6)] [] τ) ∧ (¬ x0 ≤ x1 → Ru M_Ways_tell d Q 26 [some (.ref a0), some (.int a1), some (.int a2), some (.int a3), some (.ref a4), some (.int a5), some (.int a6)] [] τ))) ∧
    (∀ (a0 : Nat) (a1 : Int32) (a2 : Int32) (a3 : Int32) (a4 : Nat) (a5 : Int32) (a6 : Int32) (τ : St), Ru M_Ways_tell d Q 26 [some (.ref a0), some (.int a1), some (.int a2), some (.int a3), some (.ref a4), some (.int a5), some (.int a6)] [] τ = Ru M_Ways_tell d Q 28 [some (.ref a0), some (.int a1), some (.int a2), some (.int a3), some (.ref a4), some (.int a5), some (.int a6)] [.int a5] τ) ∧
    (∀ (a0 : Nat) (a1 : Int32) (a2 : Int32) (a3 : Int32) (a4 : Nat) (a5 : Int32) (a6 : Int32) (x0 : Int32) (τ : St), Ru M_Ways_tell d Q 28 [some (.ref a0), some (.int a1), some (.int a2), some (.int a3), some (.ref a4), some (.int a5), some (.int a6)] [.int x0] τ = Ru M_Ways_tell d Q 29 [some (.ref a0), some (.int a1), some (.int a2), some (.int a3), some (.ref a4), some (.int a5), some (.int a6)] [.int (-1), .int x0] τ) ∧
    (∀ (a0 : Nat) (a1 : Int32) (a2 : Int32) (a3 : Int32) (a4 : Nat) (a5 : Int32) (a6 : Int32) (x0 : Int32) (x1 : Int32) (τ : St), Ru M_Ways_tell d Q 29 [some (.ref a0), some (.int a1), some (.int a2), some (.int a3), some (.ref a4), some (.int a5), some (.int a6)] [.int x0, .int x1] τ = ((x1 = x0 → Ru M_Ways_tell d Q 56 [some (.ref a0), some (.int a1), some (.int a2), some (.int a3), some (.ref a4), some (.int a5), some (.int a6)] [] τ) ∧ (¬ x1 = x0 → Ru M_Ways_tell d Q 32 [some (.ref a0), some (.int a1), some (.int a2), some (.int a3), some (.ref a4), some (.int a5), some (.int a6)] [] τ))) ∧
    (∀ (a0 : Nat) (a1 : Int32) (a2 : Int32) (a3 : Int32) (a4 : Nat) (a5 : Int32) (a6 : Int32) (τ : St), Ru M_Ways_tell d Q 32 [some (.ref a0), some (.int a1), some (.int a2), some (.int a3), some (.ref a4), some (.int a5), some (.int a6)] [] τ = Ru M_Ways_tell d Q 34 [some (.ref a0), some (.int a1), some (.int a2), some (.int a3), some (.ref a4), some (.int a5), some (.int a6)] [.ref a4] τ) ∧
    (∀ (a0 : Nat) (a1 : Int32) (a2 : Int32) (a3 : Int32) (a4 : Nat) (a5 : Int32) (a6 : Int32) (x0 : Nat) (τ : St), Ru M_Ways_tell d Q 34 [some (.ref a0), some (.int a1), some (.int a2), some (.int a3), some (.ref a4), some (.int a5), some (.int a6)] [.ref x0] τ = Ru M_Ways_tell d Q 36 [some (.ref a0), some (.int a1), some (.int a2), some (.int a3), some (.ref a4), some (.int a5), some (.int a6)] [.int a5, .ref x0] τ) ∧
    (∀ (a0 : Nat) (a1 : Int32) (a2 : Int32) (a3 : Int32) (a4 : Nat) (a5 : Int32) (a6 : Int32) (x0 : Int32) (x1 : Nat) (τ : St), Ru M_Ways_tell d Q 36 [some (.ref a0), some (.int a1), some (.int a2), some (.int a3), some (.ref a4), some (.int a5), some (.int a6)] [.int x0, .ref x1] τ = Ru M_Ways_tell d Q 37 [some (.ref a0), some (.int a1), some (.int a2), some (.int a3), some (.ref a4), some (.int a5), some (.int a6)] [.long x0.toInt64, .ref x1] τ) ∧
    (∀ (a0 : Nat) (a1 : Int32) (a2 : Int32) (a3 : Int32) (a4 : Nat) (a5 : Int32) (a6 : Int32) (x0 : Int64) (x1 : Nat) (τ : St), Ru M_Ways_tell d Q 37 [some (.ref a0), some (.int a1), some (.int a2), some (.int a3), some (.ref a4), some (.int a5), some (.int a6)] [.long x0, .ref x1] τ = (isA 4 x1 ∧ Cl d m_Row_add [.ref x1, .long x0] τ (fun v τ' => Ru M_Ways_tell d Q 40 [some (.ref a0), some (.int a1), some (.int a2), some (.int a3), some (.ref a4), some (.int a5), some (.int a6)] (v.toList ++ []) τ'))) ∧
    (∀ (a0 : Nat) (a1 : Int32) (a2 : Int32) (a3 : Int32) (a4 : Nat) (a5 : Int32) (a6 : Int32) (τ : St), Ru M_Ways_tell d Q 40 [some (.ref a0), some (.int a1), some (.int a2), some (.int a3), some (.ref a4), some (.int a5), some (.int a6)] [] τ = Ru M_Ways_tell d Q 41 [some (.ref a0), some (.int a1), some (.int a2), some (.int a3), some (.ref a4), some (.int a5), some (.int a6)] [.ref a0] τ) ∧
    (∀ (a0 : Nat) (a1 : Int32) (a2 : Int32) (a3 : Int32) (a4 : Nat) (a5 : Int32) (a6 : Int32) (x0 : Nat) (τ : St), Ru M_Ways_tell d Q 41 [some (.ref a0), some (.int a1), some (.int a2), some (.int a3), some (.ref a4), some (.int a5), some (.int a6)] [.ref x0] τ = Ru M_Ways_tell d Q 43 [some (.ref a0), some (.int a1), some (.int a2), some (.int a3), some (.ref a4), some (.int a5), some (.int a6)] [.int a5, .ref x0] τ) ∧
    (∀ (a0 : Nat) (a1 : Int32) (a2 : Int32) (a3 : Int32) (a4 : Nat) (a5 : Int32) (a6 : Int32) (x0 : Int32) (x1 : Nat) (τ : St), Ru M_Ways_tell d Q 43 [some (.ref a0), some (.int a1), some (.int a2), some (.int a3), some (.ref a4), some (.int a5), some (.int a6)] [.int x0, .ref x1] τ = Ru M_Ways_tell d Q 44 [some (.ref a0), some (.int a1), some (.int a2), some (.int a3), some (.ref a4), some (.int a5), some (.int a6)] [.int a2, .int x0, .ref x1] τ) ∧
    (∀ (a0 : Nat) (a1 : Int32) (a2 : Int32) (a3 : Int32) (a4 : Nat) (a5 : Int32) (a6 : Int32) (x0 : Int32) (x1 : Int32) (x2 : Nat) (τ : St), Ru M_Ways_tell d Q 44 [some (.ref a0), some (.int a1), some (.int a2), some (.int a3), some (.ref a4), some (.int a5), some (.int a6)] [.int x0, .int x1, .ref x2] τ = Ru M_Ways_tell d Q 45 [some (.ref a0), some (.int a1), some (.int a2), some (.int a3), some (.ref a4), some (.int a5), some (.int a6)] [.int a3, .int x0, .int x1, .ref x2] τ) ∧
    (∀ (a0 : Nat) (a1 : Int32) (a2 : Int32) (a3 : Int32) (a4 : Nat) (a5 : Int32) (a6 : Int32) (x0 : Int32) (x1 : Int32) (x2 : Int32) (x3 : Nat) (τ : St), Ru M_Ways_tell d Q 45 [some (.ref a0), some (.int a1), some (.int a2), some (.int a3), some (.ref a4), some (.int a5), some (.int a6)] [.int x0, .int x1, .int x2, .ref x3] τ = (isA 10 x3 ∧ Cl d m_Ways_nextOn [.ref x3, .int x2, .int x1, .int x0] τ (fun v τ' => Ru M_Ways_tell d Q 48 [some (.ref a0), some (.int a1), some (.int a2), some (.int a3), some (.ref a4), some (.int a5), some (.int a6)] (v.toList ++ []) τ'))) ∧
    (∀ (a0 : Nat) (a1 : Int32) (a2 : Int32) (a3 : Int32) (a4 : Nat) (a5 : Int32) (a6 : Int32) (x0 : Int32) (τ : St), Ru M_Ways_tell d Q 48 [some (.ref a0), some (.int a1), some (.int a2), some (.int a3), some (.ref a4), some (.int a5), some (.int a6)] [.int x0] τ = Ru M_Ways_tell d Q 50 [some (.ref a0), some (.int a1), some (.int a2), some (.int a3), some (.ref a4), some (.int x0), some (.int a6)] [] τ) ∧
    (∀ (a0 : Nat) (a1 : Int32) (a2 : Int32) (a3 : Int32) (a4 : Nat) (a5 : Int32) (a6 : Int32) (τ : St), Ru M_Ways_tell d Q 50 [some (.ref a0), some (.int a1), some (.int a2), some (.int a3), some (.ref a4), some (.int a5), some (.int a6)] [] τ = Ru M_Ways_tell d Q 53 [some (.ref a0), some (.int a1), some (.int a2), some (.int a3), some (.ref a4), some (.int a5), some (.int (a6 + 1))] [] τ) ∧
    (∀ (a0 : Nat) (a1 : Int32) (a2 : Int32) (a3 : Int32) (a4 : Nat) (a5 : Int32) (a6 : Int32) (τ : St), Ru M_Ways_tell d Q 53 [some (.ref a0), some (.int a1), some (.int a2), some (.int a3), some (.ref a4), some (.int a5), some (.int a6)] [] τ = Rs M_Ways_tell d Q 19 [some (.ref a0), some (.int a1), some (.int a2), some (.int a3), some (.ref a4), some (.int a5), some (.int a6)] [] τ) ∧
    (∀ (a0 : Nat) (a1 : Int32) (a2 : Int32) (a3 : Int32) (a4 : Nat) (a5 : Int32) (a6 : Int32) (τ : St), Ru M_Ways_tell d Q 56 [some (.ref a0), some (.int a1), some (.int a2), some (.int a3), some (.ref a4), some (.int a5), some (.int a6)] [] τ = Q none τ) := ⟨
  fun _ _ _ _ _ _ => (R_at ok_Ways_tell rfl).trans (e_ald rfl),
  fun _ _ _ _ _ _ _ => (R_at ok_Ways_tell rfl).trans (e_ild rfl),
  fun _ _ _ _ _ _ _ _ => (R_at ok_Ways_tell rfl).trans e_il,
  fun _ _ _ _ _ x0 _ _ => (R_at ok_Ways_tell rfl).trans (e_cv [.long x0] rfl rfl rfl),
  fun _ _ _ _ _ _ => (R_at ok_Ways_tell rfl).trans (e_ald rfl),
  fun _ _ _ _ _ _ _ => (R_at ok_Ways_tell rfl).trans (e_ild rfl),
  fun _ _ _ _ _ _ _ _ => (R_at ok_Ways_tell rfl).trans (e_ild rfl),
  fun _ _ _ _ _ _ _ _ _ => (R_at ok_Ways_tell rfl).trans (e_ild rfl),
  fun _ _ _ _ _ x0 x1 x2 _ _ => (R_at ok_Ways_tell rfl).trans (e_cv [.int x2, .int x1, .int x0] rfl rfl rfl),
  fun _ _ _ _ _ _ _ => (R_at ok_Ways_tell rfl).trans e_ist,
  fun _ _ _ _ _ _ _ => (R_at ok_Ways_tell rfl).trans e_push,
  fun _ _ _ _ _ _ _ _ => (R_at ok_Ways_tell rfl).trans e_ist,
  fun _ _ _ _ _ _ _ _ => (R_at ok_Ways_tell rfl).trans (e_ild rfl),
  fun _ _ _ _ _ _ _ _ _ => (R_at ok_Ways_tell rfl).trans e_push,
  fun _ _ _ _ _ _ _ _ _ _ => (R_at ok_Ways_tell rfl).trans e_ic,
  fun _ _ _ _ _ _ _ _ => (R_at ok_Ways_tell rfl).trans (e_ild rfl),
  fun _ _ _ _ _ _ _ _ _ => (R_at ok_Ways_tell rfl).trans e_push,
  fun _ _ _ _ _ _ _ _ _ _ => (R_at ok_Ways_tell rfl).trans e_ic,
  fun _ _ _ _ _ _ _ _ => (R_at ok_Ways_tell rfl).trans (e_ald rfl),
  fun _ _ _ _ _ _ _ _ _ => (R_at ok_Ways_tell rfl).trans (e_ild rfl),
  fun _ _ _ _ _ _ _ _ _ _ => (R_at ok_Ways_tell rfl).trans e_il,
  fun _ _ _ _ _ _ _ x0 _ _ => (R_at ok_Ways_tell rfl).trans (e_cv [.long x0] rfl rfl rfl),
  fun _ _ _ _ _ _ _ _ => (R_at ok_Ways_tell rfl).trans (e_ald rfl),
  fun _ _ _ _ _ _ _ _ _ => (R_at ok_Ways_tell rfl).trans (e_ild rfl),
  fun _ _ _ _ _ _ _ _ _ _ => (R_at ok_Ways_tell rfl).trans (e_ild rfl),
  fun _ _ _ _ _ _ _ _ _ _ _ => (R_at ok_Ways_tell rfl).trans (e_ild rfl),
  fun _ _ _ _ _ _ _ x0 x1 x2 _ _ => (R_at ok_Ways_tell rfl).trans (e_cv [.int x2, .int x1, .int x0] rfl rfl rfl),
  fun _ _ _ _ _ _ _ _ _ => (R_at ok_Ways_tell rfl).trans e_ist,
  fun _ _ _ _ _ _ _ _ => (R_at ok_Ways_tell rfl).trans (e_iinc rfl),
  fun _ _ _ _ _ _ _ _ => (R_at ok_Ways_tell rfl).trans e_goto,
  fun _ _ _ _ _ _ _ _ => (R_at ok_Ways_tell rfl).trans e_vret⟩
set_option maxHeartbeats 4000000 in
theorem N_Ways_noiseFrom (d : Nat) (Q : Qt) : ∀ (x0 : Nat) (x1 : Int32) (x2 : Int32) (τ : St), Cl (d + 1) m_Ways_noiseFrom [.ref x0, .int x1, .int x2] τ Q = Ru M_Ways_noiseFrom d Q 0 [some (.ref x0), some (.int x1), some (.int x2), none, none, none, none] [] τ := fun _ _ _ _ => propext ⟨fun h => h.2, fun h => ⟨Nat.le_of_ble_eq_true rfl, h⟩⟩
set_option maxHeartbeats 4000000 in
theorem E_Ways_noiseFrom (d : Nat) (Q : Qt) :
    (∀ (a0 : Nat) (a1 : Int32) (a2 : Int32) (τ : St), Ru M_Ways_noiseFrom d Q 0 [some (.ref a0), some (.int a1), some (.int a2), none, none, none, none] [] τ = Ru M_Ways_noiseFrom d Q 1 [some (.ref a0), some (.int a1), some (.int a2), none, none, none, none] [.int 0] τ) ∧
    (∀ (a0 : Nat) (a1 : Int32) (a2 : Int32) (x0 : Int32) (τ : St), Ru M_Ways_noiseFrom d Q 1 [some (.ref a0), some (.int a1), some (.int a2), none, none, none, none] [.int x0] τ = Ru M_Ways_noiseFrom d Q 2 [some (.ref a0), some (.int a1), some (.int a2), some (.int x0), none, none, none] [] τ) ∧
    (∀ (a0 : Nat) (a1 : Int32) (a2 : Int32) (a3 : Int32) (τ : St), Ru M_Ways_noiseFrom d Q 2 [some (.ref a0), some (.int a1), some (.int a2), some (.int a3), none, none, none] [] τ = Ru M_Ways_noiseFrom d Q 3 [some (.ref a0), some (.int a1), some (.int a2), some (.int a3), none, none, none] [.int a1] τ) ∧
    (∀ (a0 : Nat) (a1 : Int32) (a2 : Int32) (a3 : Int32) (x0 : Int32) (τ : St), Ru M_Ways_noiseFrom d Q 3 [some (.ref a0), some (.int a1), some (.int a2), some (.int a3), none, none, none] [.int x0] τ = Ru M_Ways_noiseFrom d Q 5 [some (.ref a0), some (.int a1), some (.int a2), some (.int a3), some (.int x0), none, none] [] τ) ∧
    (∀ (a0 : Nat) (a1 : Int32) (a2 : Int32) (a3 : Int32) (a4 : Int32) (τ : St), Ru M_Ways_noiseFrom d Q 5 [some (.ref a0), some (.int a1), some (.int a2), some (.int a3), some (.int a4), none, none] [] τ = Ru M_Ways_noiseFrom d Q 6 [some (.ref a0), some (.int a1), some (.int a2), some (.int a3), some (.int a4), none, none] [.int 0] τ) ∧
    (∀ (a0 : Nat) (a1 : Int32) (a2 : Int32) (a3 : Int32) (a4 : Int32) (x0 : Int32) (τ : St), Ru M_Ways_noiseFrom d Q 6 [some (.ref a0), some (.int a1), some (.int a2), some (.int a3), some (.int a4), none, none] [.int x0] τ = Rs M_Ways_noiseFrom d Q 8 [some (.ref a0), some (.int a1), some (.int a2), some (.int a3), some (.int a4), some (.int x0), none] [] τ) ∧
    (∀ (a0 : Nat) (a1 : Int32) (a2 : Int32) (a3 : Int32) (a4 : Int32) (a5 : Int32) (a6 : Option Value) (τ : St), Ru M_Ways_noiseFrom d Q 8 [some (.ref a0), some (.int a1), some (.int a2), some (.int a3), some (.int a4), some (.int a5), a6] [] τ = Ru M_Ways_noiseFrom d Q 10 [some (.ref a0), some (.int a1), some (.int a2), some (.int a3), some (.int a4), some (.int a5), a6] [.int a5] τ) ∧
    (∀ (a0 : Nat) (a1 : Int32) (a2 : Int32) (a3 : Int32) (a4 : Int32) (a5 : Int32) (a6 : Option Value) (x0 : Int32) (τ : St), Ru M_Ways_noiseFrom d Q 10 [some (.ref a0), some (.int a1), some (.int a2), some (.int a3), some (.int a4), some (.int a5), a6] [.int x0] τ = Ru M_Ways_noiseFrom d Q 12 [some (.ref a0), some (.int a1), some (.int a2), some (.int a3), some (.int a4), some (.int a5), a6] [.int 36, .int x0] τ) ∧
    (∀ (a0 : Nat) (a1 : Int32) (a2 : Int32) (a3 : Int32) (a4 : Int32) (a5 : Int32) (a6 : Option Value) (x0 : Int32) (x1 : Int32) (τ : St), Ru M_Ways_noiseFrom d Q 12 [some (.ref a0), some (.int a1), some (.int a2), some (.int a3), some (.int a4), some (.int a5), a6] [.int x0, .int x1] τ = ((x0 ≤ x1 → Ru M_Ways_noiseFrom d Q 61 [some (.ref a0), some (.int a1), some (.int a2), some (.int a3), some (.int a4), some (.int a5), a6] [] τ) ∧ (¬ x0 ≤ x1 → Ru M_Ways_noiseFrom d Q 15 [some (.ref a0), some (.int a1), some (.int a2), some (.int a3), some (.int a4), some (.int a5), a6] [] τ))) ∧
    (∀ (a0 : Nat) (a1 : Int32) (a2 : Int32) (a3 : Int32) (a4 : Int32) (a5 : Int32) (a6 : Option Value) (τ : St), Ru M_Ways_noiseFrom d Q 15 [some (.ref a0), some (.int a1), some (.int a2), some (.int a3), some (.int a4), some (.int a5), a6] [] τ = Ru M_Ways_noiseFrom d Q 16 [some (.ref a0), some (.int a1), some (.int a2), some (.int a3), some (.int a4), some (.int a5), a6] [.ref a0] τ) ∧
    (∀ (a0 : Nat) (a1 : Int32) (a2 : Int32) (a3 : Int32) (a4 : Int32) (a5 : Int32) (a6 : Option Value) (x0 : Nat) (τ : St), Ru M_Ways_noiseFrom d Q 16 [some (.ref a0), some (.int a1), some (.int a2), some (.int a3), some (.int a4), some (.int a5), a6] [.ref x0] τ = Ru M_Ways_noiseFrom d Q 18 [some (.ref a0), some (.int a1), some (.int a2), some (.int a3), some (.int a4), some (.int a5), a6] [.int a4, .ref x0] τ) ∧
    (∀ (a0 : Nat) (a1 : Int32) (a2 : Int32) (a3 : Int32) (a4 : Int32) (a5 : Int32) (a6 : Option Value) (x0 : Int32) (x1 : Nat) (τ : St), Ru M_Ways_noiseFrom d Q 18 [some (.ref a0), some (.int a1), some (.int a2), some (.int a3), some (.int a4), some (.int a5), a6] [.int x0, .ref x1] τ = Ru M_Ways_noiseFrom d Q 21 [some (.ref a0), some (.int a1), some (.int a2), some (.int a3), some (.int a4), some (.int a5), a6] [.int 1498, .int x0, .ref x1] τ) ∧
    (∀ (a0 : Nat) (a1 : Int32) (a2 : Int32) (a3 : Int32) (a4 : Int32) (a5 : Int32) (a6 : Option Value) (x0 : Int32) (x1 : Int32) (x2 : Nat) (τ : St), Ru M_Ways_noiseFrom d Q 21 [some (.ref a0), some (.int a1), some (.int a2), some (.int a3), some (.int a4), some (.int a5), a6] [.int x0, .int x1, .ref x2] τ = Ru M_Ways_noiseFrom d Q 23 [some (.ref a0), some (.int a1), some (.int a2), some (.int a3), some (.int a4), some (.int a5), a6] [.int 64, .int x0, .int x1, .ref x2] τ) ∧
    (∀ (a0 : Nat) (a1 : Int32) (a2 : Int32) (a3 : Int32) (a4 : Int32) (a5 : Int32) (a6 : Option Value) (x0 : Int32) (x1 : Int32) (x2 : Int32) (x3 : Nat) (τ : St), Ru M_Ways_noiseFrom d Q 23 [some (.ref a0), some (.int a1), some (.int a2), some (.int a3), some (.int a4), some (.int a5), a6] [.int x0, .int x1, .int x2, .ref x3] τ = (isA 10 x3 ∧ Cl d m_Ways_nextOn [.ref x3, .int x2, .int x1, .int x0] τ (fun v τ' => Ru M_Ways_noiseFrom d Q 26 [some (.ref a0), some (.int a1), some (.int a2), some (.int a3), some (.int a4), some (.int a5), a6] (v.toList ++ []) τ'))) ∧
    (∀ (a0 : Nat) (a1 : Int32) (a2 : Int32) (a3 : Int32) (a4 : Int32) (a5 : Int32) (a6 : Option Value) (x0 : Int32) (τ : St), Ru M_Ways_noiseFrom d Q 26 [some (.ref a0), some (.int a1), some (.int a2), some (.int a3), some (.int a4), some (.int a5), a6] [.int x0] τ = Ru M_Ways_noiseFrom d Q 28 [some (.ref a0), some (.int a1), some (.int a2), some (.int a3), some (.int a4), some (.int a5), some (.int x0)] [] τ) ∧
    (∀ (a0 : Nat) (a1 : Int32) (a2 : Int32) (a3 : Int32) (a4 : Int32) (a5 : Int32) (a6 : Int32) (τ : St), Ru M_Ways_noiseFrom d Q 28 [some (.ref a0), some (.int a1), some (.int a2), some (.int a3), some (.int a4), some (.int a5), some (.int a6)] [] τ = Ru M_Ways_noiseFrom d Q 30 [some (.ref a0), some (.int a1), some (.int a2), some (.int a3), some (.int a4), some (.int a5), some (.int a6)] [.int a6] τ) ∧
    (∀ (a0 : Nat) (a1 : Int32) (a2 : Int32) (a3 : Int32) (a4 : Int32) (a5 : Int32) (a6 : Int32) (x0 : Int32) (τ : St), Ru M_Ways_noiseFrom d Q 30 [some (.ref a0), some (.int a1), some (.int a2), some (.int a3), some (.int a4), some (.int a5), some (.int a6)] [.int x0] τ = Ru M_Ways_noiseFrom d Q 31 [some (.ref a0), some (.int a1), some (.int a2), some (.int a3), some (.int a4), some (.int a5), some (.int a6)] [.int (-1), .int x0] τ) ∧
    (∀ (a0 : Nat) (a1 : Int32) (a2 : Int32) (a3 : Int32) (a4 : Int32) (a5 : Int32) (a6 : Int32) (x0 : Int32) (x1 : Int32) (τ : St), Ru M_Ways_noiseFrom d Q 31 [some (.ref a0), some (.int a1), some (.int a2), some (.int a3), some (.int a4), some (.int a5), some (.int a6)] [.int x0, .int x1] τ = ((¬ x1 = x0 → Ru M_Ways_noiseFrom d Q 36 [some (.ref a0), some (.int a1), some (.int a2), some (.int a3), some (.int a4), some (.int a5), some (.int a6)] [] τ) ∧ (x1 = x0 → Ru M_Ways_noiseFrom d Q 34 [some (.ref a0), some (.int a1), some (.int a2), some (.int a3), some (.int a4), some (.int a5), some (.int a6)] [] τ))) ∧
    (∀ (a0 : Nat) (a1 : Int32) (a2 : Int32) (a3 : Int32) (a4 : Int32) (a5 : Int32) (a6 : Int32) (τ : St), Ru M_Ways_noiseFrom d Q 34 [some (.ref a0), some (.int a1), some (.int a2), some (.int a3), some (.int a4), some (.int a5), some (.int a6)] [] τ = Ru M_Ways_noiseFrom d Q 35 [some (.ref a0), some (.int a1), some (.int a2), some (.int a3), some (.int a4), some (.int a5), some (.int a6)] [.int a3] τ) ∧
    (∀ (a0 : Nat) (a1 : Int32) (a2 : Int32) (a3 : Int32) (a4 : Int32) (a5 : Int32) (a6 : Int32) (x0 : Int32) (τ : St), Ru M_Ways_noiseFrom d Q 35 [some (.ref a0), some (.int a1), some (.int a2), some (.int a3), some (.int a4), some (.int a5), some (.int a6)] [.int x0] τ = Q (some (.int x0)) τ) ∧
    (∀ (a0 : Nat) (a1 : Int32) (a2 : Int32) (a3 : Int32) (a4 : Int32) (a5 : Int32) (a6 : Int32) (τ : St), Ru M_Ways_noiseFrom d Q 36 [some (.ref a0), some (.int a1), some (.int a2), some (.int a3), some (.int a4), some (.int a5), some (.int a6)] [] τ = Ru M_Ways_noiseFrom d Q 37 [some (.ref a0), some (.int a1), some (.int a2), some (.int a3), some (.int a4), some (.int a5), some (.int a6)] [.int a3] τ) ∧
    (∀ (a0 : Nat) (a1 : Int32) (a2 : Int32) (a3 : Int32) (a4 : Int32) (a5 : Int32) (a6 : Int32) (x0 : Int32) (τ : St), Ru M_Ways_noiseFrom d Q 37 [some (.ref a0), some (.int a1), some (.int a2), some (.int a3), some (.int a4), some (.int a5), some (.int a6)] [.int x0] τ = Ru M_Ways_noiseFrom d Q 38 [some (.ref a0), some (.int a1), some (.int a2), some (.int a3), some (.int a4), some (.int a5), some (.int a6)] [.ref a0, .int x0] τ) ∧
    (∀ (a0 : Nat) (a1 : Int32) (a2 : Int32) (a3 : Int32) (a4 : Int32) (a5 : Int32) (a6 : Int32) (x0 : Nat) (x1 : Int32) (τ : St), Ru M_Ways_noiseFrom d Q 38 [some (.ref a0), some (.int a1), some (.int a2), some (.int a3), some (.int a4), some (.int a5), some (.int a6)] [.ref x0, .int x1] τ = Ru M_Ways_noiseFrom d Q 40 [some (.ref a0), some (.int a1), some (.int a2), some (.int a3), some (.int a4), some (.int a5), some (.int a6)] [.int a4, .ref x0, .int x1] τ) ∧
    (∀ (a0 : Nat) (a1 : Int32) (a2 : Int32) (a3 : Int32) (a4 : Int32) (a5 : Int32) (a6 : Int32) (x0 : Int32) (x1 : Nat) (x2 : Int32) (τ : St), Ru M_Ways_noiseFrom d Q 40 [some (.ref a0), some (.int a1), some (.int a2), some (.int a3), some (.int a4), some (.int a5), some (.int a6)] [.int x0, .ref x1, .int x2] τ = Ru M_Ways_noiseFrom d Q 42 [some (.ref a0), some (.int a1), some (.int a2), some (.int a3), some (.int a4), some (.int a5), some (.int a6)] [.int a6, .int x0, .ref x1, .int x2] τ) ∧
    (∀ (a0 : Nat) (a1 : Int32) (a2 : Int32) (a3 : Int32) (a4 : Int32) (a5 : Int32) (a6 : Int32) (x0 : Int32) (x1 : Int32) (x2 : Nat) (x3 : Int32) (τ : St), Ru M_Ways_noiseFrom d Q 42 [some (.ref a0), some (.int a1), some (.int a2), some (.int a3), some (.int a4), some (.int a5), some (.int a6)] [.int x0, .int x1, .ref x2, .int x3] τ = (isA 10 x2 ∧ Cl d m_Ways_pullTo [.ref x2, .int x1, .int x0] τ (fun v τ' => Ru M_Ways_noiseFrom d Q 45 [some (.ref a0), some (.int a1), some (.int a2), some (.int a3), some (.int a4), some (.int a5), some (.int a6)] (v.toList ++ [.int x3]) τ'))) ∧
    (∀ (a0 : Nat) (a1 : Int32) (a2 : Int32) (a3 : Int32) (a4 : Int32) (a5 : Int32) (a6 : Int32) (x0 : Int32) (x1 : Int32) (τ : St), Ru M_Ways_noiseFrom d Q 45 [some (.ref a0), some (.int a1), some (.int a2), some (.int a3), some (.int a4), some (.int a5), some (.int a6)] [.int x0, .int x1] τ = Ru M_Ways_noiseFrom d Q 46 [some (.ref a0), some (.int a1), some (.int a2), some (.int a3), some (.int a4), some (.int a5), some (.int a6)] [.int a2, .int x0, .int x1] τ) ∧
    (∀ (a0 : Nat) (a1 : Int32) (a2 : Int32) (a3 : Int32) (a4 : Int32) (a5 : Int32) (a6 : Int32) (x0 : Int32) (x1 : Int32) (x2 : Int32) (τ : St), Ru M_Ways_noiseFrom d Q 46 [some (.ref a0), some (.int a1), some (.int a2), some (.int a3), some (.int a4), some (.int a5), some (.int a6)] [.int x0, .int x1, .int x2] τ = Cl d m_H_noiseOf [.int x1, .int x0] τ (fun v τ' => Ru M_Ways_noiseFrom d Q 49 [some (.ref a0), some (.int a1), some (.int a2), some (.int a3), some (.int a4), some (.int a5), some (.int a6)] (v.toList ++ [.int x2]) τ')) ∧
    (∀ (a0 : Nat) (a1 : Int32) (a2 : Int32) (a3 : Int32) (a4 : Int32) (a5 : Int32) (a6 : Int32) (x0 : Int32) (x1 : Int32) (τ : St), Ru M_Ways_noiseFrom d Q 49 [some (.ref a0), some (.int a1), some (.int a2), some (.int a3), some (.int a4), some (.int a5), some (.int a6)] [.int x0, .int x1] τ = Ru M_Ways_noiseFrom d Q 50 [some (.ref a0), some (.int a1), some (.int a2), some (.int a3), some (.int a4), some (.int a5), some (.int a6)] [.int (x1 + x0)] τ) ∧
    (∀ (a0 : Nat) (a1 : Int32) (a2 : Int32) (a3 : Int32) (a4 : Int32) (a5 : Int32) (a6 : Int32) (x0 : Int32) (τ : St), Ru M_Ways_noiseFrom d Q 50 [some (.ref a0), some (.int a1), some (.int a2), some (.int a3), some (.int a4), some (.int a5), some (.int a6)] [.int x0] τ = Ru M_Ways_noiseFrom d Q 51 [some (.ref a0), some (.int a1), some (.int a2), some (.int x0), some (.int a4), some (.int a5), some (.int a6)] [] τ) ∧
    (∀ (a0 : Nat) (a1 : Int32) (a2 : Int32) (a3 : Int32) (a4 : Int32) (a5 : Int32) (a6 : Int32) (τ : St), Ru M_Ways_noiseFrom d Q 51 [some (.ref a0), some (.int a1), some (.int a2), some (.int a3), some (.int a4), some (.int a5), some (.int a6)] [] τ = Ru M_Ways_noiseFrom d Q 53 [some (.ref a0), some (.int a1), some (.int a2), some (.int a3), some (.int a4), some (.int a5), some (.int a6)] [.int a6] τ) ∧
    (∀ (a0 : Nat) (a1 : Int32) (a2 : Int32) (a3 : Int32) (a4 : Int32) (a5 : Int32) (a6 : Int32) (x0 : Int32) (τ : St), Ru M_Ways_noiseFrom d Q 53 [some (.ref a0), some (.int a1), some (.int a2), some (.int a3), some (.int a4), some (.int a5), some (.int a6)] [.int x0] τ = Ru M_Ways_noiseFrom d Q 55 [some (.ref a0), some (.int a1), some (.int a2), some (.int a3), some (.int x0), some (.int a5), some (.int a6)] [] τ) ∧
    (∀ (a0 : Nat) (a1 : Int32) (a2 : Int32) (a3 : Int32) (a4 : Int32) (a5 : Int32) (a6 : Int32) (τ : St), Ru M_Ways_noiseFrom d Q 55 [some (.ref a0), some (.int a1), some (.int a2), some (.int a3), some (.int a4), some (.int a5), some (.int a6)] [] τ = Ru M_Ways_noiseFrom d Q 58 [some (.ref a0), some (.int a1), some (.int a2), some (.int a3), some (.int a4), some (.int (a5 + 1)), some (.int a6)] [] τ) ∧
    (∀ (a0 : Nat) (a1 : Int32) (a2 : Int32) (a3 : Int32) (a4 : Int32) (a5 : Int32) (a6 : Int32) (τ : St), Ru M_Ways_noiseFrom d Q 58 [some (.ref a0), some (.int a1), some (.int a2), some (.int a3), some (.int a4), some (.int a5), some (.int a6)] [] τ = Rs M_Ways_noiseFrom d Q 8 [some (.ref a0), some (.int a1), some (.int a2), some (.int a3), some (.int a4), some (.int a5), some (.int a6)] [] τ) ∧
    (∀ (a0 : Nat) (a1 : Int32) (a2 : Int32) (a3 : Int32) (a4 : Int32) (a5 : Int32) (a6 : Option Value) (τ : St), Ru M_Ways_noiseFrom d Q 61 [some (.ref a0), some (.int a1), some (.int a2), some (.int a3), some (.int a4), some (.int a5), a6] [] τ = Ru M_Ways_noiseFrom d Q 62 [some (.ref a0), some (.int a1), some (.int a2), some (.int a3), some (.int a4), some (.int a5), a6] [.int a3] τ) ∧
    (∀ (a0 : Nat) (a1 : Int32) (a2 : Int32) (a3 : Int32) (a4 : Int32) (a5 : Int32) (a6 : Option Value) (x0 : Int32) (τ : St), Ru M_Ways_noiseFrom d Q 62 [some (.ref a0), some (.int a1), some (.int a2), some (.int a3), some (.int a4), some (.int a5), a6] [.int x0] τ = Q (some (.int x0)) τ) := ⟨
  fun _ _ _ _ => (R_at ok_Ways_noiseFrom rfl).trans e_push,
  fun _ _ _ _ _ => (R_at ok_Ways_noiseFrom rfl).trans e_ist,
  fun _ _ _ _ _ => (R_at ok_Ways_noiseFrom rfl).trans (e_ild rfl),
  fun _ _ _ _ _ _ => (R_at ok_Ways_noiseFrom rfl).trans e_ist,
  fun _ _ _ _ _ _ => (R_at ok_Ways_noiseFrom rfl).trans e_push,
  fun _ _ _ _ _ _ _ => (R_at ok_Ways_noiseFrom rfl).trans e_ist,
  fun _ _ _ _ _ _ _ _ => (R_at ok_Ways_noiseFrom rfl).trans (e_ild rfl),
  fun _ _ _ _ _ _ _ _ _ => (R_at ok_Ways_noiseFrom rfl).trans e_push,
  fun _ _ _ _ _ _ _ _ _ _ => (R_at ok_Ways_noiseFrom rfl).trans e_ic,
  fun _ _ _ _ _ _ _ _ => (R_at ok_Ways_noiseFrom rfl).trans (e_ald rfl),
  fun _ _ _ _ _ _ _ _ _ => (R_at ok_Ways_noiseFrom rfl).trans (e_ild rfl),
  fun _ _ _ _ _ _ _ _ _ _ => (R_at ok_Ways_noiseFrom rfl).trans e_push,
  fun _ _ _ _ _ _ _ _ _ _ _ => (R_at ok_Ways_noiseFrom rfl).trans e_push,
  fun _ _ _ _ _ _ _ x0 x1 x2 _ _ => (R_at ok_Ways_noiseFrom rfl).trans (e_cv [.int x2, .int x1, .int x0] rfl rfl rfl),
  fun _ _ _ _ _ _ _ _ _ => (R_at ok_Ways_noiseFrom rfl).trans e_ist,
  fun _ _ _ _ _ _ _ _ => (R_at ok_Ways_noiseFrom rfl).trans (e_ild rfl),
  fun _ _ _ _ _ _ _ _ _ => (R_at ok_Ways_noiseFrom rfl).trans e_push,
  fun _ _ _ _ _ _ _ _ _ _ => (R_at ok_Ways_noiseFrom rfl).trans e_icn,
  fun _ _ _ _ _ _ _ _ => (R_at ok_Ways_noiseFrom rfl).trans (e_ild rfl),
  fun _ _ _ _ _ _ _ _ _ => (R_at ok_Ways_noiseFrom rfl).trans e_iret,
  fun _ _ _ _ _ _ _ _ => (R_at ok_Ways_noiseFrom rfl).trans (e_ild rfl),
  fun _ _ _ _ _ _ _ _ _ => (R_at ok_Ways_noiseFrom rfl).trans (e_ald rfl),
  fun _ _ _ _ _ _ _ _ _ _ => (R_at ok_Ways_noiseFrom rfl).trans (e_ild rfl),
  fun _ _ _ _ _ _ _ _ _ _ _ => (R_at ok_Ways_noiseFrom rfl).trans (e_ild rfl),
  fun _ _ _ _ _ _ _ x0 x1 _ _ _ => (R_at ok_Ways_noiseFrom rfl).trans (e_cv [.int x1, .int x0] rfl rfl rfl),
  fun _ _ _ _ _ _ _ _ _ _ => (R_at ok_Ways_noiseFrom rfl).trans (e_ild rfl),
  fun _ _ _ _ _ _ _ x0 x1 _ _ => (R_at ok_Ways_noiseFrom rfl).trans (e_cs [.int x1, .int x0] rfl rfl rfl),
  fun _ _ _ _ _ _ _ _ _ _ => (R_at ok_Ways_noiseFrom rfl).trans e_bin,
  fun _ _ _ _ _ _ _ _ _ => (R_at ok_Ways_noiseFrom rfl).trans e_ist,
  fun _ _ _ _ _ _ _ _ => (R_at ok_Ways_noiseFrom rfl).trans (e_ild rfl),
  fun _ _ _ _ _ _ _ _ _ => (R_at ok_Ways_noiseFrom rfl).trans e_ist,
  fun _ _ _ _ _ _ _ _ => (R_at ok_Ways_noiseFrom rfl).trans (e_iinc rfl),
  fun _ _ _ _ _ _ _ _ => (R_at ok_Ways_noiseFrom rfl).trans e_goto,
  fun _ _ _ _ _ _ _ _ => (R_at ok_Ways_noiseFrom rfl).trans (e_ild rfl),
  fun _ _ _ _ _ _ _ _ _ => (R_at ok_Ways_noiseFrom rfl).trans e_iret⟩
set_option maxHeartbeats 4000000 in
theorem N_Ways_nextOn (d : Nat) (Q : Qt) : ∀ (x0 : Nat) (x1 : Int32) (x2 : Int32) (x3 : Int32) (τ : St), Cl (d + 1) m_Ways_nextOn [.ref x0, .int x1, .int x2, .int x3] τ Q = Ru M_Ways_nextOn d Q 0 [some (.ref x0), some (.int x1), some (.int x2), some (.int x3), none, none, none, none, none, none] [] τ := fun _ _ _ _ _ => propext ⟨fun h => h.2, fun h => ⟨Nat.le_of_ble_eq_true rfl, h⟩⟩
set_option maxHeartbeats 4000000 in
theorem E_Ways_nextOn (d : Nat) (Q : Qt) :
    (∀ (a0 : Nat) (a1 : Int32) (a2 : Int32) (a3 : Int32) (τ : St), Ru M_Ways_nextOn d Q 0 [some (.ref a0), some (.int a1), some (.int a2), some (.int a3), none, none, none, none, none, none] [] τ = Ru M_Ways_nextOn d Q 1 [some (.ref a0), some (.int a1), some (.int a2), some (.int a3), none, none, none, none, none, none] [.ref a0] τ) ∧
    (∀ (a0 : Nat) (a1 : Int32) (a2 : Int32) (a3 : Int32) (x0 : Nat) (τ : St), Ru M_Ways_nextOn d Q 1 [some (.ref a0), some (.int a1), some (.int a2), some (.int a3), none, none, none, none, none, none] [.ref x0] τ = Ru M_Ways_nextOn d Q 2 [some (.ref a0), some (.int a1), some (.int a2), some (.int a3), none, none, none, none, none, none] [.int a1, .ref x0] τ) ∧
    (∀ (a0 : Nat) (a1 : Int32) (a2 : Int32) (a3 : Int32) (x0 : Int32) (x1 : Nat) (τ : St), Ru M_Ways_nextOn d Q 2 [some (.ref a0), some (.int a1), some (.int a2), some (.int a3), none, none, none, none, none, none] [.int x0, .ref x1] τ = (isA 10 x1 ∧ Cl d m_Ways_costFrom [.ref x1, .int x0] τ (fun v τ' => Ru M_Ways_nextOn d Q 5 [some (.ref a0), some (.int a1), some (.int a2), some (.int a3), none, none, none, none, none, none] (v.toList ++ []) τ'))) ∧
    (∀ (a0 : Nat) (a1 : Int32) (a2 : Int32) (a3 : Int32) (x0 : Int32) (τ : St), Ru M_Ways_nextOn d Q 5 [some (.ref a0), some (.int a1), some (.int a2), some (.int a3), none, none, none, none, none, none] [.int x0] τ = Ru M_Ways_nextOn d Q 7 [some (.ref a0), some (.int a1), some (.int a2), some (.int a3), some (.int x0), none, none, none, none, none] [] τ) ∧
    (∀ (a0 : Nat) (a1 : Int32) (a2 : Int32) (a3 : Int32) (a4 : Int32) (τ : St), Ru M_Ways_nextOn d Q 7 [some (.ref a0), some (.int a1), some (.int a2), some (.int a3), some (.int a4), none, none, none, none, none] [] τ = Ru M_Ways_nextOn d Q 8 [some (.ref a0), some (.int a1), some (.int a2), some (.int a3), some (.int a4), none, none, none, none, none] [.int (-1)] τ) ∧
    (∀ (a0 : Nat) (a1 : Int32) (a2 : Int32) (a3 : Int32) (a4 : Int32) (x0 : Int32) (τ : St), Ru M_Ways_nextOn d Q 8 [some (.ref a0), some (.int a1), some (.int a2), some (.int a3), some (.int a4), none, none, none, none, none] [.int x0] τ = Ru M_Ways_nextOn d Q 10 [some (.ref a0), some (.int a1), some (.int a2), some (.int a3), some (.int a4), some (.int x0), none, none, none, none] [] τ) ∧
    (∀ (a0 : Nat) (a1 : Int32) (a2 : Int32) (a3 : Int32) (a4 : Int32) (a5 : Int32) (τ : St), Ru M_Ways_nextOn d Q 10 [some (.ref a0), some (.int a1), some (.int a2), some (.int a3), some (.int a4), some (.int a5), none, none, none, none] [] τ = Ru M_Ways_nextOn d Q 11 [some (.ref a0), some (.int a1), some (.int a2), some (.int a3), some (.int a4), some (.int a5), none, none, none, none] [.int 0] τ) ∧
    (∀ (a0 : Nat) (a1 : Int32) (a2 : Int32) (a3 : Int32) (a4 : Int32) (a5 : Int32) (x0 : Int32) (τ : St), Ru M_Ways_nextOn d Q 11 [some (.ref a0), some (.int a1), some (.int a2), some (.int a3), some (.int a4), some (.int a5), none, none, none, none] [.int x0] τ = Rs M_Ways_nextOn d Q 13 [some (.ref a0), some (.int a1), some (.int a2), some (.int a3), some (.int a4), some (.int a5), some (.int x0), none, none, none] [] τ) ∧
    (∀ (a0 : Nat) (a1 : Int32) (a2 : Int32) (a3 : Int32) (a4 : Int32) (a5 : Int32) (a6 : Int32) (a7 : Option Value) (a8 : Option Value) (a9 : Option Value) (τ : St), Ru M_Ways_nextOn d Q 13 [some (.ref a0), some (.int a1), some (.int a2), some (.int a3), some (.int a4), some (.int a5), some (.int a6), a7, a8, a9] [] τ = Ru M_Ways_nextOn d Q 15 [some (.ref a0), some (.int a1), some (.int a2), some (.int a3), some (.int a4), some (.int a5), some (.int a6), a7, a8, a9] [.int a6] τ) ∧
    (∀ (a0 : Nat) (a1 : Int32) (a2 : Int32) (a3 : Int32) (a4 : Int32) (a5 : Int32) (a6 : Int32) (a7 : Option Value) (a8 : Option Value) (a9 : Option Value) (x0 : Int32) (τ : St), Ru M_Ways_nextOn d Q 15 [some (.ref a0), some (.int a1), some (.int a2), some (.int a3), some (.int a4), some (.int a5), some (.int a6), a7, a8, a9] [.int x0] τ = Ru M_Ways_nextOn d Q 16 [some (.ref a0), some (.int a1), some (.int a2), some (.int a3), some (.int a4), some (.int a5), some (.int a6), a7, a8, a9] [.int 4, .int x0] τ) ∧
    (∀ (a0 : Nat) (a1 : Int32) (a2 : Int32) (a3 : Int32) (a4 : Int32) (a5 : Int32) (a6 : Int32) (a7 : Option Value) (a8 : Option Value) (a9 : Option Value) (x0 : Int32) (x1 : Int32) (τ : St), Ru M_Ways_nextOn d Q 16 [some (.ref a0), some (.int a1), some (.int a2), some (.int a3), some (.int a4), some (.int a5), some (.int a6), a7, a8, a9] [.int x0, .int x1] τ = ((x0 ≤ x1 → Ru M_Ways_nextOn d Q 121 [some (.ref a0), some (.int a1), some (.int a2), some (.int a3), some (.int a4), some (.int a5), some (.int a6), a7, a8, a9] [] τ) ∧ (¬ x0 ≤ x1 → Ru M_Ways_nextOn d Q 19 [some (.ref a0), some (.int a1), some (.int a2), some (.int a3), some (.int a4), some (.int a5), some (.int a6), a7, a8, a9] [] τ))) ∧
    (∀ (a0 : Nat) (a1 : Int32) (a2 : Int32) (a3 : Int32) (a4 : Int32) (a5 : Int32) (a6 : Int32) (a7 : Option Value) (a8 : Option Value) (a9 : Option Value) (τ : St), Ru M_Ways_nextOn d Q 19 [some (.ref a0), some (.int a1), some (.int a2), some (.int a3), some (.int a4), some (.int a5), some (.int a6), a7, a8, a9] [] τ = Ru M_Ways_nextOn d Q 20 [some (.ref a0), some (.int a1), some (.int a2), some (.int a3), some (.int a4), some (.int a5), some (.int a6), a7, a8, a9] [.ref a0] τ) ∧
    (∀ (a0 : Nat) (a1 : Int32) (a2 : Int32) (a3 : Int32) (a4 : Int32) (a5 : Int32) (a6 : Int32) (a7 : Option Value) (a8 : Option Value) (a9 : Option Value) (x0 : Nat) (τ : St), Ru M_Ways_nextOn d Q 20 [some (.ref a0), some (.int a1), some (.int a2), some (.int a3), some (.int a4), some (.int a5), some (.int a6), a7, a8, a9] [.ref x0] τ = (isA 10 x0 ∧ Ru M_Ways_nextOn d Q 23 [some (.ref a0), some (.int a1), some (.int a2), some (.int a3), some (.int a4), some (.int a5), some (.int a6), a7, a8, a9] [.ref (rtab x0 0)] τ)) ∧
    (∀ (a0 : Nat) (a1 : Int32) (a2 : Int32) (a3 : Int32) (a4 : Int32) (a5 : Int32) (a6 : Int32) (a7 : Option Value) (a8 : Option Value) (a9 : Option Value) (x0 : Nat) (τ : St), Ru M_Ways_nextOn d Q 23 [some (.ref a0), some (.int a1), some (.int a2), some (.int a3), some (.int a4), some (.int a5), some (.int a6), a7, a8, a9] [.ref x0] τ = Ru M_Ways_nextOn d Q 24 [some (.ref a0), some (.int a1), some (.int a2), some (.int a3), some (.int a4), some (.int a5), some (.int a6), a7, a8, a9] [.int a1, .ref x0] τ) ∧
    (∀ (a0 : Nat) (a1 : Int32) (a2 : Int32) (a3 : Int32) (a4 : Int32) (a5 : Int32) (a6 : Int32) (a7 : Option Value) (a8 : Option Value) (a9 : Option Value) (x0 : Int32) (x1 : Nat) (τ : St), Ru M_Ways_nextOn d Q 24 [some (.ref a0), some (.int a1), some (.int a2), some (.int a3), some (.int a4), some (.int a5), some (.int a6), a7, a8, a9] [.int x0, .ref x1] τ = Ru M_Ways_nextOn d Q 26 [some (.ref a0), some (.int a1), some (.int a2), some (.int a3), some (.int a4), some (.int a5), some (.int a6), a7, a8, a9] [.int a6, .int x0, .ref x1] τ) ∧
    (∀ (a0 : Nat) (a1 : Int32) (a2 : Int32) (a3 : Int32) (a4 : Int32) (a5 : Int32) (a6 : Int32) (a7 : Option Value) (a8 : Option Value) (a9 : Option Value) (x0 : Int32) (x1 : Int32) (x2 : Nat) (τ : St), Ru M_Ways_nextOn d Q 26 [some (.ref a0), some (.int a1), some (.int a2), some (.int a3), some (.int a4), some (.int a5), some (.int a6), a7, a8, a9] [.int x0, .int x1, .ref x2] τ = (isA 0 x2 ∧ Cl d m_Ground_beside [.ref x2, .int x1, .int x0] τ (fun v τ' => Ru M_Ways_nextOn d Q 29 [some (.ref a0), some (.int a1), some (.int a2), some (.int a3), some (.int a4), some (.int a5), some (.int a6), a7, a8, a9] (v.toList ++ []) τ'))) ∧
    (∀ (a0 : Nat) (a1 : Int32) (a2 : Int32) (a3 : Int32) (a4 : Int32) (a5 : Int32) (a6 : Int32) (a7 : Option Value) (a8 : Option Value) (a9 : Option Value) (x0 : Int32) (τ : St), Ru M_Ways_nextOn d Q 29 [some (.ref a0), some (.int a1), some (.int a2), some (.int a3), some (.int a4), some (.int a5), some (.int a6), a7, a8, a9] [.int x0] τ = Ru M_Ways_nextOn d Q 31 [some (.ref a0), some (.int a1), some (.int a2), some (.int a3), some (.int a4), some (.int a5), some (.int a6), some (.int x0), a8, a9] [] τ) ∧
    (∀ (a0 : Nat) (a1 : Int32) (a2 : Int32) (a3 : Int32) (a4 : Int32) (a5 : Int32) (a6 : Int32) (a7 : Int32) (a8 : Option Value) (a9 : Option Value) (τ : St), Ru M_Ways_nextOn d Q 31 [some (.ref a0), some (.int a1), some (.int a2), some (.int a3), some (.int a4), some (.int a5), some (.int a6), some (.int a7), a8, a9] [] τ = Ru M_Ways_nextOn d Q 33 [some (.ref a0), some (.int a1), some (.int a2), some (.int a3), some (.int a4), some (.int a5), some (.int a6), some (.int a7), a8, a9] [.int a7] τ) ∧
    (∀ (a0 : Nat) (a1 : Int32) (a2 : Int32) (a3 : Int32) (a4 : Int32) (a5 : Int32) (a6 : Int32) (a7 : Int32) (a8 : Option Value) (a9 : Option Value) (x0 : Int32) (τ : St), Ru M_Ways_nextOn d Q 33 [some (.ref a0), some (.int a1), some (.int a2), some (.int a3), some (.int a4), some (.int a5), some (.int a6), some (.int a7), a8, a9] [.int x0] τ = Ru M_Ways_nextOn d Q 34 [some (.ref a0), some (.int a1), some (.int a2), some (.int a3), some (.int a4), some (.int a5), some (.int a6), some (.int a7), a8, a9] [.int (-1), .int x0] τ) ∧
    (∀ (a0 : Nat) (a1 : Int32) (a2 : Int32) (a3 : Int32) (a4 : Int32) (a5 : Int32) (a6 : Int32) (a7 : Int32) (a8 : Option Value) (a9 : Option Value) (x0 : Int32) (x1 : Int32) (τ : St), Ru M_Ways_nextOn d Q 34 [some (.ref a0), some (.int a1), some (.int a2), some (.int a3), some (.int a4), some (.int a5), some (.int a6), some (.int a7), a8, a9] [.int x0, .int x1] τ = ((x1 = x0 → Ru M_Ways_nextOn d Q 115 [some (.ref a0), some (.int a1), some (.int a2), some (.int a3), some (.int a4), some (.int a5), some (.int a6), some (.int a7), a8, a9] [] τ) ∧ (¬ x1 = x0 → Ru M_Ways_nextOn d Q 37 [some (.ref a0), some (.int a1), some (.int a2), some (.int a3), some (.int a4), some (.int a5), some (.int a6), some (.int a7), a8, a9] [] τ))) ∧
    (∀ (a0 : Nat) (a1 : Int32) (a2 : Int32) (a3 : Int32) (a4 : Int32) (a5 : Int32) (a6 : Int32) (a7 : Int32) (a8 : Option Value) (a9 : Option Value) (τ : St), Ru M_Ways_nextOn d Q 37 [some (.ref a0), some (.int a1), some (.int a2), some (.int a3), some (.int a4), some (.int a5), some (.int a6), some (.int a7), a8, a9] [] τ = Ru M_Ways_nextOn d Q 38 [some (.ref a0), some (.int a1), some (.int a2), some (.int a3), some (.int a4), some (.int a5), some (.int a6), some (.int a7), a8, a9] [.ref a0] τ) ∧
    (∀ (a0 : Nat) (a1 : Int32) (a2 : Int32) (a3 : Int32) (a4 : Int32) (a5 : Int32) (a6 : Int32) (a7 : Int32) (a8 : Option Value) (a9 : Option Value) (x0 : Nat) (τ : St), Ru M_Ways_nextOn d Q 38 [some (.ref a0), some (.int a1), some (.int a2), some (.int a3), some (.int a4), some (.int a5), some (.int a6), some (.int a7), a8, a9] [.ref x0] τ = (isA 10 x0 ∧ Ru M_Ways_nextOn d Q 41 [some (.ref a0), some (.int a1), some (.int a2), some (.int a3), some (.int a4), some (.int a5), some (.int a6), some (.int a7), a8, a9] [.ref (rtab x0 5)] τ)) ∧
    (∀ (a0 : Nat) (a1 : Int32) (a2 : Int32) (a3 : Int32) (a4 : Int32) (a5 : Int32) (a6 : Int32) (a7 : Int32) (a8 : Option Value) (a9 : Option Value) (x0 : Nat) (τ : St), Ru M_Ways_nextOn d Q 41 [some (.ref a0), some (.int a1), some (.int a2), some (.int a3), some (.int a4), some (.int a5), some (.int a6), some (.int a7), a8, a9] [.ref x0] τ = Ru M_Ways_nextOn d Q 43 [some (.ref a0), some (.int a1), some (.int a2), some (.int a3), some (.int a4), some (.int a5), some (.int a6), some (.int a7), a8, a9] [.int a7, .ref x0] τ) ∧
    (∀ (a0 : Nat) (a1 : Int32) (a2 : Int32) (a3 : Int32) (a4 : Int32) (a5 : Int32) (a6 : Int32) (a7 : Int32) (a8 : Option Value) (a9 : Option Value) (x0 : Int32) (x1 : Nat) (τ : St), Ru M_Ways_nextOn d Q 43 [some (.ref a0), some (.int a1), some (.int a2), some (.int a3), some (.int a4), some (.int a5), some (.int a6), some (.int a7), a8, a9] [.int x0, .ref x1] τ = (isA 14 x1 ∧ vp_in x0 (len x1) ∧ Ru M_Ways_nextOn d Q 44 [some (.ref a0), some (.int a1), some (.int a2), some (.int a3), some (.int a4), some (.int a5), some (.int a6), some (.int a7), a8, a9] [.int (τ.1 x1 x0.toNatClampNeg)] τ)) ∧
    (∀ (a0 : Nat) (a1 : Int32) (a2 : Int32) (a3 : Int32) (a4 : Int32) (a5 : Int32) (a6 : Int32) (a7 : Int32) (a8 : Option Value) (a9 : Option Value) (x0 : Int32) (τ : St), Ru M_Ways_nextOn d Q 44 [some (.ref a0), some (.int a1), some (.int a2), some (.int a3), some (.int a4), some (.int a5), some (.int a6), some (.int a7), a8, a9] [.int x0] τ = Ru M_Ways_nextOn d Q 46 [some (.ref a0), some (.int a1), some (.int a2), some (.int a3), some (.int a4), some (.int a5), some (.int a6), some (.int a7), a8, a9] [.int 1073741824, .int x0] τ) ∧
    (∀ (a0 : Nat) (a1 : Int32) (a2 : Int32) (a3 : Int32) (a4 : Int32) (a5 : Int32) (a6 : Int32) (a7 : Int32) (a8 : Option Value) (a9 : Option Value) (x0 : Int32) (x1 : Int32) (τ : St), Ru M_Ways_nextOn d Q 46 [some (.ref a0), some (.int a1), some (.int a2), some (.int a3), some (.int a4), some (.int a5), some (.int a6), some (.int a7), a8, a9] [.int x0, .int x1] τ = ((¬ x1 = x0 → Ru M_Ways_nextOn d Q 52 [some (.ref a0), some (.int a1), some (.int a2), some (.int a3), some (.int a4), some (.int a5), some (.int a6), some (.int a7), a8, a9] [] τ) ∧ (x1 = x0 → Ru M_Ways_nextOn d Q 49 [some (.ref a0), some (.int a1), some (.int a2), some (.int a3), some (.int a4), some (.int a5), some (.int a6), some (.int a7), a8, a9] [] τ))) ∧
    (∀ (a0 : Nat) (a1 : Int32) (a2 : Int32) (a3 : Int32) (a4 : Int32) (a5 : Int32) (a6 : Int32) (a7 : Int32) (a8 : Option Value) (a9 : Option Value) (τ : St), Ru M_Ways_nextOn d Q 49 [some (.ref a0), some (.int a1), some (.int a2), some (.int a3), some (.int a4), some (.int a5), some (.int a6), some (.int a7), a8, a9] [] τ = Ru M_Ways_nextOn d Q 115 [some (.ref a0), some (.int a1), some (.int a2), some (.int a3), some (.int a4), some (.int a5), some (.int a6), some (.int a7), a8, a9] [] τ) ∧
    (∀ (a0 : Nat) (a1 : Int32) (a2 : Int32) (a3 : Int32) (a4 : Int32) (a5 : Int32) (a6 : Int32) (a7 : Int32) (a8 : Option Value) (a9 : Option Value) (τ : St), Ru M_Ways_nextOn d Q 52 [some (.ref a0), some (.int a1), some (.int a2), some (.int a3), some (.int a4), some (.int a5), some (.int a6), some (.int a7), a8, a9] [] τ = Ru M_Ways_nextOn d Q 53 [some (.ref a0), some (.int a1), some (.int a2), some (.int a3), some (.int a4), some (.int a5), some (.int a6), some (.int a7), a8, a9] [.ref a0] τ) ∧
    (∀ (a0 : Nat) (a1 : Int32) (a2 : Int32) (a3 : Int32) (a4 : Int32) (a5 : Int32) (a6 : Int32) (a7 : Int32) (a8 : Option Value) (a9 : Option Value) (x0 : Nat) (τ : St), Ru M_Ways_nextOn d Q 53 [some (.ref a0), some (.int a1), some (.int a2), some (.int a3), some (.int a4), some (.int a5), some (.int a6), some (.int a7), a8, a9] [.ref x0] τ = Ru M_Ways_nextOn d Q 54 [some (.ref a0), some (.int a1), some (.int a2), some (.int a3), some (.int a4), some (.int a5), some (.int a6), some (.int a7), a8, a9] [.int a1, .ref x0] τ) ∧
    (∀ (a0 : Nat) (a1 : Int32) (a2 : Int32) (a3 : Int32) (a4 : Int32) (a5 : Int32) (a6 : Int32) (a7 : Int32) (a8 : Option Value) (a9 : Option Value) (x0 : Int32) (x1 : Nat) (τ : St), Ru M_Ways_nextOn d Q 54 [some (.ref a0), some (.int a1), some (.int a2), some (.int a3), some (.int a4), some (.int a5), some (.int a6), some (.int a7), a8, a9] [.int x0, .ref x1] τ = Ru M_Ways_nextOn d Q 56 [some (.ref a0), some (.int a1), some (.int a2), some (.int a3), some (.int a4), some (.int a5), some (.int a6), some (.int a7), a8, a9] [.int a7, .int x0, .ref x1] τ) ∧
    (∀ (a0 : Nat) (a1 : Int32) (a2 : Int32) (a3 : Int32) (a4 : Int32) (a5 : Int32) (a6 : Int32) (a7 : Int32) (a8 : Option Value) (a9 : Option Value) (x0 : Int32) (x1 : Int32) (x2 : Nat) (τ : St), Ru M_Ways_nextOn d Q 56 [some (.ref a0), some (.int a1), some (.int a2), some (.int a3), some (.int a4), some (.int a5), some (.int a6), some (.int a7), a8, a9] [.int x0, .int x1, .ref x2] τ = (isA 10 x2 ∧ Cl d m_Ways_pullTo [.ref x2, .int x1, .int x0] τ (fun v τ' => Ru M_Ways_nextOn d Q 59 [some (.ref a0), some (.int a1), some (.int a2), some (.int a3), some (.int a4), some (.int a5), some (.int a6), some (.int a7), a8, a9] (v.toList ++ []) τ'))) ∧
    (∀ (a0 : Nat) (a1 : Int32) (a2 : Int32) (a3 : Int32) (a4 : Int32) (a5 : Int32) (a6 : Int32) (a7 : Int32) (a8 : Option Value) (a9 : Option Value) (x0 : Int32) (τ : St), Ru M_Ways_nextOn d Q 59 [some (.ref a0), some (.int a1), some (.int a2), some (.int a3), some (.int a4), some (.int a5), some (.int a6), some (.int a7), a8, a9] [.int x0] τ = Ru M_Ways_nextOn d Q 61 [some (.ref a0), some (.int a1), some (.int a2), some (.int a3), some (.int a4), some (.int a5), some (.int a6), some (.int a7), some (.int x0), a9] [] τ) ∧
    (∀ (a0 : Nat) (a1 : Int32) (a2 : Int32) (a3 : Int32) (a4 : Int32) (a5 : Int32) (a6 : Int32) (a7 : Int32) (a8 : Int32) (a9 : Option Value) (τ : St), Ru M_Ways_nextOn d Q 61 [some (.ref a0), some (.int a1), some (.int a2), some (.int a3), some (.int a4), some (.int a5), some (.int a6), some (.int a7), some (.int a8), a9] [] τ = Ru M_Ways_nextOn d Q 63 [some (.ref a0), some (.int a1), some (.int a2), some (.int a3), some (.int a4), some (.int a5), some (.int a6), some (.int a7), some (.int a8), a9] [.int a8] τ) ∧
    (∀ (a0 : Nat) (a1 : Int32) (a2 : Int32) (a3 : Int32) (a4 : Int32) (a5 : Int32) (a6 : Int32) (a7 : Int32) (a8 : Int32) (a9 : Option Value) (x0 : Int32) (τ : St), Ru M_Ways_nextOn d Q 63 [some (.ref a0), some (.int a1), some (.int a2), some (.int a3), some (.int a4), some (.int a5), some (.int a6), some (.int a7), some (.int a8), a9] [.int x0] τ = Ru M_Ways_nextOn d Q 64 [some (.ref a0), some (.int a1), some (.int a2), some (.int a3), some (.int a4), some (.int a5), some (.int a6), some (.int a7), some (.int a8), a9] [.int a2, .int x0] τ) ∧
    (∀ (a0 : Nat) (a1 : Int32) (a2 : Int32) (a3 : Int32) (a4 : Int32) (a5 : Int32) (a6 : Int32) (a7 : Int32) (a8 : Int32) (a9 : Option Value) (x0 : Int32) (x1 : Int32) (τ : St), Ru M_Ways_nextOn d Q 64 [some (.ref a0), some (.int a1), some (.int a2), some (.int a3), some (.int a4), some (.int a5), some (.int a6), some (.int a7), some (.int a8), a9] [.int x0, .int x1] τ = ((x0 < x1 → Ru M_Ways_nextOn d Q 90 [some (.ref a0), some (.int a1), some (.int a2), some (.int a3), some (.int a4), some (.int a5), some (.int a6), some (.int a7), some (.int a8), a9] [] τ) ∧ (¬ x0 < x1 → Ru M_Ways_nextOn d Q 67 [some (.ref a0), some (.int a1), some (.int a2), some (.int a3), some (.int a4), some (.int a5), some (.int a6), some (.int a7), some (.int a8), a9] [] τ))) ∧
    (∀ (a0 : Nat) (a1 : Int32) (a2 : Int32) (a3 : Int32) (a4 : Int32) (a5 : Int32) (a6 : Int32) (a7 : Int32) (a8 : Int32) (a9 : Option Value) (τ : St), Ru M_Ways_nextOn d Q 67 [some (.ref a0), some (.int a1), some (.int a2), some (.int a3), some (.int a4), some (.int a5), some (.int a6), some (.int a7), some (.int a8), a9] [] τ = Ru M_Ways_nextOn d Q 68 [some (.ref a0), some (.int a1), some (.int a2), some (.int a3), some (.int a4), some (.int a5), some (.int a6), some (.int a7), some (.int a8), a9] [.ref a0] τ) ∧
    (∀ (a0 : Nat) (a1 : Int32) (a2 : Int32) (a3 : Int32) (a4 : Int32) (a5 : Int32) (a6 : Int32) (a7 : Int32) (a8 : Int32) (a9 : Option Value) (x0 : Nat) (τ : St), Ru M_Ways_nextOn d Q 68 [some (.ref a0), some (.int a1), some (.int a2), some (.int a3), some (.int a4), some (.int a5), some (.int a6), some (.int a7), some (.int a8), a9] [.ref x0] τ = (isA 10 x0 ∧ Ru M_Ways_nextOn d Q 71 [some (.ref a0), some (.int a1), some (.int a2), some (.int a3), some (.int a4), some (.int a5), some (.int a6), some (.int a7), some (.int a8), a9] [.ref (rtab x0 5)] τ)) ∧
    (∀ (a0 : Nat) (a1 : Int32) (a2 : Int32) (a3 : Int32) (a4 : Int32) (a5 : Int32) (a6 : Int32) (a7 : Int32) (a8 : Int32) (a9 : Option Value) (x0 : Nat) (τ : St), Ru M_Ways_nextOn d Q 71 [some (.ref a0), some (.int a1), some (.int a2), some (.int a3), some (.int a4), some (.int a5), some (.int a6), some (.int a7), some (.int a8), a9] [.ref x0] τ = Ru M_Ways_nextOn d Q 73 [some (.ref a0), some (.int a1), some (.int a2), some (.int a3), some (.int a4), some (.int a5), some (.int a6), some (.int a7), some (.int a8), a9] [.int a7, .ref x0] τ) ∧
    (∀ (a0 : Nat) (a1 : Int32) (a2 : Int32) (a3 : Int32) (a4 : Int32) (a5 : Int32) (a6 : Int32) (a7 : Int32) (a8 : Int32) (a9 : Option Value) (x0 : Int32) (x1 : Nat) (τ : St), Ru M_Ways_nextOn d Q 73 [some (.ref a0), some (.int a1), some (.int a2), some (.int a3), some (.int a4), some (.int a5), some (.int a6), some (.int a7), some (.int a8), a9] [.int x0, .ref x1] τ = (isA 14 x1 ∧ vp_in x0 (len x1) ∧ Ru M_Ways_nextOn d Q 74 [some (.ref a0), some (.int a1), some (.int a2), some (.int a3), some (.int a4), some (.int a5), some (.int a6), some (.int a7), some (.int a8), a9] [.int (τ.1 x1 x0.toNatClampNeg)] τ)) ∧
    (∀ (a0 : Nat) (a1 : Int32) (a2 : Int32) (a3 : Int32) (a4 : Int32) (a5 : Int32) (a6 : Int32) (a7 : Int32) (a8 : Int32) (a9 : Option Value) (x0 : Int32) (τ : St), Ru M_Ways_nextOn d Q 74 [some (.ref a0), some (.int a1), some (.int a2), some (.int a3), some (.int a4), some (.int a5), some (.int a6), some (.int a7), some (.int a8), a9] [.int x0] τ = Ru M_Ways_nextOn d Q 76 [some (.ref a0), some (.int a1), some (.int a2), some (.int a3), some (.int a4), some (.int a5), some (.int a6), some (.int a7), some (.int a8), a9] [.int a8, .int x0] τ) ∧
    (∀ (a0 : Nat) (a1 : Int32) (a2 : Int32) (a3 : Int32) (a4 : Int32) (a5 : Int32) (a6 : Int32) (a7 : Int32) (a8 : Int32) (a9 : Option Value) (x0 : Int32) (x1 : Int32) (τ : St), Ru M_Ways_nextOn d Q 76 [some (.ref a0), some (.int a1), some (.int a2), some (.int a3), some (.int a4), some (.int a5), some (.int a6), some (.int a7), some (.int a8), a9] [.int x0, .int x1] τ = Ru M_Ways_nextOn d Q 77 [some (.ref a0), some (.int a1), some (.int a2), some (.int a3), some (.int a4), some (.int a5), some (.int a6), some (.int a7), some (.int a8), a9] [.int a3, .int x0, .int x1] τ) ∧
    (∀ (a0 : Nat) (a1 : Int32) (a2 : Int32) (a3 : Int32) (a4 : Int32) (a5 : Int32) (a6 : Int32) (a7 : Int32) (a8 : Int32) (a9 : Option Value) (x0 : Int32) (x1 : Int32) (x2 : Int32) (τ : St), Ru M_Ways_nextOn d Q 77 [some (.ref a0), some (.int a1), some (.int a2), some (.int a3), some (.int a4), some (.int a5), some (.int a6), some (.int a7), some (.int a8), a9] [.int x0, .int x1, .int x2] τ = Ru M_Ways_nextOn d Q 78 [some (.ref a0), some (.int a1), some (.int a2), some (.int a3), some (.int a4), some (.int a5), some (.int a6), some (.int a7), some (.int a8), a9] [.int (x1 * x0), .int x2] τ) ∧
    (∀ (a0 : Nat) (a1 : Int32) (a2 : Int32) (a3 : Int32) (a4 : Int32) (a5 : Int32) (a6 : Int32) (a7 : Int32) (a8 : Int32) (a9 : Option Value) (x0 : Int32) (x1 : Int32) (τ : St), Ru M_Ways_nextOn d Q 78 [some (.ref a0), some (.int a1), some (.int a2), some (.int a3), some (.int a4), some (.int a5), some (.int a6), some (.int a7), some (.int a8), a9] [.int x0, .int x1] τ = Ru M_Ways_nextOn d Q 79 [some (.ref a0), some (.int a1), some (.int a2), some (.int a3), some (.int a4), some (.int a5), some (.int a6), some (.int a7), some (.int a8), a9] [.int (x1 + x0)] τ) ∧
    (∀ (a0 : Nat) (a1 : Int32) (a2 : Int32) (a3 : Int32) (a4 : Int32) (a5 : Int32) (a6 : Int32) (a7 : Int32) (a8 : Int32) (a9 : Option Value) (x0 : Int32) (τ : St), Ru M_Ways_nextOn d Q 79 [some (.ref a0), some (.int a1), some (.int a2), some (.int a3), some (.int a4), some (.int a5), some (.int a6), some (.int a7), some (.int a8), a9] [.int x0] τ = Ru M_Ways_nextOn d Q 80 [some (.ref a0), some (.int a1), some (.int a2), some (.int a3), some (.int a4), some (.int a5), some (.int a6), some (.int a7), some (.int a8), a9] [.int 1, .int x0] τ) ∧
    (∀ (a0 : Nat) (a1 : Int32) (a2 : Int32) (a3 : Int32) (a4 : Int32) (a5 : Int32) (a6 : Int32) (a7 : Int32) (a8 : Int32) (a9 : Option Value) (x0 : Int32) (x1 : Int32) (τ : St), Ru M_Ways_nextOn d Q 80 [some (.ref a0), some (.int a1), some (.int a2), some (.int a3), some (.int a4), some (.int a5), some (.int a6), some (.int a7), some (.int a8), a9] [.int x0, .int x1] τ = Ru M_Ways_nextOn d Q 81 [some (.ref a0), some (.int a1), some (.int a2), some (.int a3), some (.int a4), some (.int a5), some (.int a6), some (.int a7), some (.int a8), a9] [.int (x1 + x0)] τ) ∧
    (∀ (a0 : Nat) (a1 : Int32) (a2 : Int32) (a3 : Int32) (a4 : Int32) (a5 : Int32) (a6 : Int32) (a7 : Int32) (a8 : Int32) (a9 : Option Value) (x0 : Int32) (τ : St), Ru M_Ways_nextOn d Q 81 [some (.ref a0), some (.int a1), some (.int a2), some (.int a3), some (.int a4), some (.int a5), some (.int a6), some (.int a7), some (.int a8), a9] [.int x0] τ = Ru M_Ways_nextOn d Q 83 [some (.ref a0), some (.int a1), some (.int a2), some (.int a3), some (.int a4), some (.int a5), some (.int a6), some (.int a7), some (.int a8), a9] [.int a4, .int x0] τ) ∧
    (∀ (a0 : Nat) (a1 : Int32) (a2 : Int32) (a3 : Int32) (a4 : Int32) (a5 : Int32) (a6 : Int32) (a7 : Int32) (a8 : Int32) (a9 : Option Value) (x0 : Int32) (x1 : Int32) (τ : St), Ru M_Ways_nextOn d Q 83 [some (.ref a0), some (.int a1), some (.int a2), some (.int a3), some (.int a4), some (.int a5), some (.int a6), some (.int a7), some (.int a8), a9] [.int x0, .int x1] τ = ((¬ x1 = x0 → Ru M_Ways_nextOn d Q 90 [some (.ref a0), some (.int a1), some (.int a2), some (.int a3), some (.int a4), some (.int a5), some (.int a6), some (.int a7), some (.int a8), a9] [] τ) ∧ (x1 = x0 → Ru M_Ways_nextOn d Q 86 [some (.ref a0), some (.int a1), some (.int a2), some (.int a3), some (.int a4), some (.int a5), some (.int a6), some (.int a7), some (.int a8), a9] [] τ))) ∧
    (∀ (a0 : Nat) (a1 : Int32) (a2 : Int32) (a3 : Int32) (a4 : Int32) (a5 : Int32) (a6 : Int32) (a7 : Int32) (a8 : Int32) (a9 : Option Value) (τ : St), Ru M_Ways_nextOn d Q 86 [some (.ref a0), some (.int a1), some (.int a2), some (.int a3), some (.int a4), some (.int a5), some (.int a6), some (.int a7), some (.int a8), a9] [] τ = Ru M_Ways_nextOn d Q 87 [some (.ref a0), some (.int a1), some (.int a2), some (.int a3), some (.int a4), some (.int a5), some (.int a6), some (.int a7), some (.int a8), a9] [.int 1] τ) ∧
    (∀ (a0 : Nat) (a1 : Int32) (a2 : Int32) (a3 : Int32) (a4 : Int32) (a5 : Int32) (a6 : Int32) (a7 : Int32) (a8 : Int32) (a9 : Option Value) (x0 : Int32) (τ : St), Ru M_Ways_nextOn d Q 87 [some (.ref a0), some (.int a1), some (.int a2), some (.int a3), some (.int a4), some (.int a5), some (.int a6), some (.int a7), some (.int a8), a9] [.int x0] τ = Ru M_Ways_nextOn d Q 91 [some (.ref a0), some (.int a1), some (.int a2), some (.int a3), some (.int a4), some (.int a5), some (.int a6), some (.int a7), some (.int a8), a9] [.int x0] τ) ∧
    (∀ (a0 : Nat) (a1 : Int32) (a2 : Int32) (a3 : Int32) (a4 : Int32) (a5 : Int32) (a6 : Int32) (a7 : Int32) (a8 : Int32) (a9 : Option Value) (τ : St), Ru M_Ways_nextOn d Q 90 [some (.ref a0), some (.int a1), some (.int a2), some (.int a3), some (.int a4), some (.int a5), some (.int a6), some (.int a7), some (.int a8), a9] [] τ = Ru M_Ways_nextOn d Q 91 [some (.ref a0), some (.int a1), some (.int a2), some (.int a3), some (.int a4), some (.int a5), some (.int a6), some (.int a7), some (.int a8), a9] [.int 0] τ) ∧
    (∀ (a0 : Nat) (a1 : Int32) (a2 : Int32) (a3 : Int32) (a4 : Int32) (a5 : Int32) (a6 : Int32) (a7 : Int32) (a8 : Int32) (a9 : Option Value) (x0 : Int32) (τ : St), Ru M_Ways_nextOn d Q 91 [some (.ref a0), some (.int a1), some (.int a2), some (.int a3), some (.int a4), some (.int a5), some (.int a6), some (.int a7), some (.int a8), a9] [.int x0] τ = Ru M_Ways_nextOn d Q 93 [some (.ref a0), some (.int a1), some (.int a2), some (.int a3), some (.int a4), some (.int a5), some (.int a6), some (.int a7), some (.int a8), some (.int x0)] [] τ) ∧
    (∀ (a0 : Nat) (a1 : Int32) (a2 : Int32) (a3 : Int32) (a4 : Int32) (a5 : Int32) (a6 : Int32) (a7 : Int32) (a8 : Int32) (a9 : Int32) (τ : St), Ru M_Ways_nextOn d Q 93 [some (.ref a0), some (.int a1), some (.int a2), some (.int a3), some (.int a4), some (.int a5), some (.int a6), some (.int a7), some (.int a8), some (.int a9)] [] τ = Ru M_Ways_nextOn d Q 95 [some (.ref a0), some (.int a1), some (.int a2), some (.int a3), some (.int a4), some (.int a5), some (.int a6), some (.int a7), some (.int a8), some (.int a9)] [.int a9] τ) ∧
    (∀ (a0 : Nat) (a1 : Int32) (a2 : Int32) (a3 : Int32) (a4 : Int32) (a5 : Int32) (a6 : Int32) (a7 : Int32) (a8 : Int32) (a9 : Int32) (x0 : Int32) (τ : St), Ru M_Ways_nextOn d Q 95 [some (.ref a0), some (.int a1), some (.int a2), some (.int a3), some (.int a4), some (.int a5), some (.int a6), some (.int a7), some (.int a8), some (.int a9)] [.int x0] τ = ((x0 = 0 → Ru M_Ways_nextOn d Q 115 [some (.ref a0), some (.int a1), some (.int a2), some (.int a3), some (.int a4), some (.int a5), some (.int a6), some (.int a7), some (.int a8), some (.int a9)] [] τ) ∧ (¬ x0 = 0 → Ru M_Ways_nextOn d Q 98 [some (.ref a0), some (.int a1), some (.int a2), some (.int a3), some (.int a4), some (.int a5), some (.int a6), some (.int a7), some (.int a8), some (.int a9)] [] τ))) ∧
    (∀ (a0 : Nat) (a1 : Int32) (a2 : Int32) (a3 : Int32) (a4 : Int32) (a5 : Int32) (a6 : Int32) (a7 : Int32) (a8 : Int32) (a9 : Int32) (τ : St), Ru M_Ways_nextOn d Q 98 [some (.ref a0), some (.int a1), some (.int a2), some (.int a3), some (.int a4), some (.int a5), some (.int a6), some (.int a7), some (.int a8), some (.int a9)] [] τ = Ru M_Ways_nextOn d Q 100 [some (.ref a0), some (.int a1), some (.int a2), some (.int a3), some (.int a4), some (.int a5), some (.int a6), some (.int a7), some (.int a8), some (.int a9)] [.int a5] τ) ∧
    (∀ (a0 : Nat) (a1 : Int32) (a2 : Int32) (a3 : Int32) (a4 : Int32) (a5 : Int32) (a6 : Int32) (a7 : Int32) (a8 : Int32) (a9 : Int32) (x0 : Int32) (τ : St), Ru M_Ways_nextOn d Q 100 [some (.ref a0), some (.int a1), some (.int a2), some (.int a3), some (.int a4), some (.int a5), some (.int a6), some (.int a7), some (.int a8), some (.int a9)] [.int x0] τ = Ru M_Ways_nextOn d Q 101 [some (.ref a0), some (.int a1), some (.int a2), some (.int a3), some (.int a4), some (.int a5), some (.int a6), some (.int a7), some (.int a8), some (.int a9)] [.int (-1), .int x0] τ) ∧
    (∀ (a0 : Nat) (a1 : Int32) (a2 : Int32) (a3 : Int32) (a4 : Int32) (a5 : Int32) (a6 : Int32) (a7 : Int32) (a8 : Int32) (a9 : Int32) (x0 : Int32) (x1 : Int32) (τ : St), Ru M_Ways_nextOn d Q 101 [some (.ref a0), some (.int a1), some (.int a2), some (.int a3), some (.int a4), some (.int a5), some (.int a6), some (.int a7), some (.int a8), some (.int a9)] [.int x0, .int x1] τ = ((x1 = x0 → Ru M_Ways_nextOn d Q 111 [some (.ref a0), some (.int a1), some (.int a2), some (.int a3), some (.int a4), some (.int a5), some (.int a6), some (.int a7), some (.int a8), some (.int a9)] [] τ) ∧ (¬ x1 = x0 → Ru M_Ways_nextOn d Q 104 [some (.ref a0), some (.int a1), some (.int a2), some (.int a3), some (.int a4), some (.int a5), some (.int a6), some (.int a7), some (.int a8), some (.int a9)] [] τ))) ∧
    (∀ (a0 : Nat) (a1 : Int32) (a2 : Int32) (a3 : Int32) (a4 : Int32) (a5 : Int32) (a6 : Int32) (a7 : Int32) (a8 : Int32) (a9 : Int32) (τ : St), Ru M_Ways_nextOn d Q 104 [some (.ref a0), some (.int a1), some (.int a2), some (.int a3), some (.int a4), some (.int a5), some (.int a6), some (.int a7), some (.int a8), some (.int a9)] [] τ = Ru M_Ways_nextOn d Q 106 [some (.ref a0), some (.int a1), some (.int a2), some (.int a3), some (.int a4), some (.int a5), some (.int a6), some (.int a7), some (.int a8), some (.int a9)] [.int a7] τ) ∧
    (∀ (a0 : Nat) (a1 : Int32) (a2 : Int32) (a3 : Int32) (a4 : Int32) (a5 : Int32) (a6 : Int32) (a7 : Int32) (a8 : Int32) (a9 : Int32) (x0 : Int32) (τ : St), Ru M_Ways_nextOn d Q 106 [some (.ref a0), some (.int a1), some (.int a2), some (.int a3), some (.int a4), some (.int a5), some (.int a6), some (.int a7), some (.int a8), some (.int a9)] [.int x0] τ = Ru M_Ways_nextOn d Q 108 [some (.ref a0), some (.int a1), some (.int a2), some (.int a3), some (.int a4), some (.int a5), some (.int a6), some (.int a7), some (.int a8), some (.int a9)] [.int a5, .int x0] τ) ∧
    (∀ (a0 : Nat) (a1 : Int32) (a2 : Int32) (a3 : Int32) (a4 : Int32) (a5 : Int32) (a6 : Int32) (a7 : Int32) (a8 : Int32) (a9 : Int32) (x0 : Int32) (x1 : Int32) (τ : St), Ru M_Ways_nextOn d Q 108 [some (.ref a0), some (.int a1), some (.int a2), some (.int a3), some (.int a4), some (.int a5), some (.int a6), some (.int a7), some (.int a8), some (.int a9)] [.int x0, .int x1] τ = ((x0 ≤ x1 → Ru M_Ways_nextOn d Q 115 [some (.ref a0), some (.int a1), some (.int a2), some (.int a3), some (.int a4), some (.int a5), some (.int a6), some (.int a7), some (.int a8), some (.int a9)] [] τ) ∧ (¬ x0 ≤ x1 → Ru M_Ways_nextOn d Q 111 [some (.ref a0), some (.int a1), some (.int a2), some (.int a3), some (.int a4), some (.int a5), some (.int a6), some (.int a7), some (.int a8), some (.int a9)] [] τ))) ∧
    (∀ (a0 : Nat) (a1 : Int32) (a2 : Int32) (a3 : Int32) (a4 : Int32) (a5 : Int32) (a6 : Int32) (a7 : Int32) (a8 : Int32) (a9 : Int32) (τ : St), Ru M_Ways_nextOn d Q 111 [some (.ref a0), some (.int a1), some (.int a2), some (.int a3), some (.int a4), some (.int a5), some (.int a6), some (.int a7), some (.int a8), some (.int a9)] [] τ = Ru M_Ways_nextOn d Q 113 [some (.ref a0), some (.int a1), some (.int a2), some (.int a3), some (.int a4), some (.int a5), some (.int a6), some (.int a7), some (.int a8), some (.int a9)] [.int a7] τ) ∧
    (∀ (a0 : Nat) (a1 : Int32) (a2 : Int32) (a3 : Int32) (a4 : Int32) (a5 : Int32) (a6 : Int32) (a7 : Int32) (a8 : Int32) (a9 : Int32) (x0 : Int32) (τ : St), Ru M_Ways_nextOn d Q 113 [some (.ref a0), some (.int a1), some (.int a2), some (.int a3), some (.int a4), some (.int a5), some (.int a6), some (.int a7), some (.int a8), some (.int a9)] [.int x0] τ = Ru M_Ways_nextOn d Q 115 [some (.ref a0), some (.int a1), some (.int a2), some (.int a3), some (.int a4), some (.int x0), some (.int a6), some (.int a7), some (.int a8), some (.int a9)] [] τ) ∧
    (∀ (a0 : Nat) (a1 : Int32) (a2 : Int32) (a3 : Int32) (a4 : Int32) (a5 : Int32) (a6 : Int32) (a7 : Int32) (a8 : Option Value) (a9 : Option Value) (τ : St), Ru M_Ways_nextOn d Q 115 [some (.ref a0), some (.int a1), some (.int a2), some (.int a3), some (.int a4), some (.int a5), some (.int a6), some (.int a7), a8, a9] [] τ = Ru M_Ways_nextOn d Q 118 [some (.ref a0), some (.int a1), some (.int a2), some (.int a3), some (.int a4), some (.int a5), some (.int (a6 + 1)), some (.int a7), a8, a9] [] τ) ∧
    (∀ (a0 : Nat) (a1 : Int32) (a2 : Int32) (a3 : Int32) (a4 : Int32) (a5 : Int32) (a6 : Int32) (a7 : Int32) (a8 : Option Value) (a9 : Option Value) (τ : St), Ru M_Ways_nextOn d Q 118 [some (.ref a0), some (.int a1), some (.int a2), some (.int a3), some (.int a4), some (.int a5), some (.int a6), some (.int a7), a8, a9] [] τ = Rs M_Ways_nextOn d Q 13 [some (.ref a0), some (.int a1), some (.int a2), some (.int a3), some (.int a4), some (.int a5), some (.int a6), some (.int a7), a8, a9] [] τ) ∧
    (∀ (a0 : Nat) (a1 : Int32) (a2 : Int32) (a3 : Int32) (a4 : Int32) (a5 : Int32) (a6 : Int32) (a7 : Option Value) (a8 : Option Value) (a9 : Option Value) (τ : St), Ru M_Ways_nextOn d Q 121 [some (.ref a0), some (.int a1), some (.int a2), some (.int a3), some (.int a4), some (.int a5), some (.int a6), a7, a8, a9] [] τ = Ru M_Ways_nextOn d Q 123 [some (.ref a0), some (.int a1), some (.int a2), some (.int a3), some (.int a4), some (.int a5), some (.int a6), a7, a8, a9] [.int a5] τ) ∧
    (∀ (a0 : Nat) (a1 : Int32) (a2 : Int32) (a3 : Int32) (a4 : Int32) (a5 : Int32) (a6 : Int32) (a7 : Option Value) (a8 : Option Value) (a9 : Option Value) (x0 : Int32) (τ : St), Ru M_Ways_nextOn d Q 123 [some (.ref a0), some (.int a1), some (.int a2), some (.int a3), some (.int a4), some (.int a5), some (.int a6), a7, a8, a9] [.int x0] τ = Q (some (.int x0)) τ) := ⟨
  fun _ _ _ _ _ => (R_at ok_Ways_nextOn rfl).trans (e_ald rfl),
  fun _ _ _ _ _ _ => (R_at ok_Ways_nextOn rfl).trans (e_ild rfl),
  fun _ _ _ _ x0 _ _ => (R_at ok_Ways_nextOn rfl).trans (e_cv [.int x0] rfl rfl rfl),
  fun _ _ _ _ _ _ => (R_at ok_Ways_nextOn rfl).trans e_ist,
  fun _ _ _ _ _ _ => (R_at ok_Ways_nextOn rfl).trans e_push,
  fun _ _ _ _ _ _ _ => (R_at ok_Ways_nextOn rfl).trans e_ist,
  fun _ _ _ _ _ _ _ => (R_at ok_Ways_nextOn rfl).trans e_push,
  fun _ _ _ _ _ _ _ _ => (R_at ok_Ways_nextOn rfl).trans e_ist,
  fun _ _ _ _ _ _ _ _ _ _ _ => (R_at ok_Ways_nextOn rfl).trans (e_ild rfl),
  fun _ _ _ _ _ _ _ _ _ _ _ _ => (R_at ok_Ways_nextOn rfl).trans e_push,
  fun _ _ _ _ _ _ _ _ _ _ _ _ _ => (R_at ok_Ways_nextOn rfl).trans e_ic,
  fun _ _ _ _ _ _ _ _ _ _ _ => (R_at ok_Ways_nextOn rfl).trans (e_ald rfl),
  fun _ _ _ _ _ _ _ _ _ _ _ _ => (R_at ok_Ways_nextOn rfl).trans e_gR,
  fun _ _ _ _ _ _ _ _ _ _ _ _ => (R_at ok_Ways_nextOn rfl).trans (e_ild rfl),
  fun _ _ _ _ _ _ _ _ _ _ _ _ _ => (R_at ok_Ways_nextOn rfl).trans (e_ild rfl),
  fun _ _ _ _ _ _ _ _ _ _ x0 x1 _ _ => (R_at ok_Ways_nextOn rfl).trans (e_cv [.int x1, .int x0] rfl rfl rfl),
  fun _ _ _ _ _ _ _ _ _ _ _ _ => (R_at ok_Ways_nextOn rfl).trans e_ist,
  fun _ _ _ _ _ _ _ _ _ _ _ => (R_at ok_Ways_nextOn rfl).trans (e_ild rfl),
  fun _ _ _ _ _ _ _ _ _ _ _ _ => (R_at ok_Ways_nextOn rfl).trans e_push,
  fun _ _ _ _ _ _ _ _ _ _ _ _ _ => (R_at ok_Ways_nextOn rfl).trans e_ic,
  fun _ _ _ _ _ _ _ _ _ _ _ => (R_at ok_Ways_nextOn rfl).trans (e_ald rfl),
  fun _ _ _ _ _ _ _ _ _ _ _ _ => (R_at ok_Ways_nextOn rfl).trans e_gR,
  fun _ _ _ _ _ _ _ _ _ _ _ _ => (R_at ok_Ways_nextOn rfl).trans (e_ild rfl),
  fun _ _ _ _ _ _ _ _ _ _ _ _ _ => (R_at ok_Ways_nextOn rfl).trans e_al,
  fun _ _ _ _ _ _ _ _ _ _ _ _ => (R_at ok_Ways_nextOn rfl).trans e_push,
  fun _ _ _ _ _ _ _ _ _ _ _ _ _ => (R_at ok_Ways_nextOn rfl).trans e_icn,
  fun _ _ _ _ _ _ _ _ _ _ _ => (R_at ok_Ways_nextOn rfl).trans e_goto,
  fun _ _ _ _ _ _ _ _ _ _ _ => (R_at ok_Ways_nextOn rfl).trans (e_ald rfl),
  fun _ _ _ _ _ _ _ _ _ _ _ _ => (R_at ok_Ways_nextOn rfl).trans (e_ild rfl),
  fun _ _ _ _ _ _ _ _ _ _ _ _ _ => (R_at ok_Ways_nextOn rfl).trans (e_ild rfl),
  fun _ _ _ _ _ _ _ _ _ _ x0 x1 _ _ => (R_at ok_Ways_nextOn rfl).trans (e_cv [.int x1, .int x0] rfl rfl rfl),
  fun _ _ _ _ _ _ _ _ _ _ _ _ => (R_at ok_Ways_nextOn rfl).trans e_ist,
  fun _ _ _ _ _ _ _ _ _ _ _ => (R_at ok_Ways_nextOn rfl).trans (e_ild rfl),
  fun _ _ _ _ _ _ _ _ _ _ _ _ => (R_at ok_Ways_nextOn rfl).trans (e_ild rfl),
  fun _ _ _ _ _ _ _ _ _ _ _ _ _ => (R_at ok_Ways_nextOn rfl).trans e_ic,
  fun _ _ _ _ _ _ _ _ _ _ _ => (R_at ok_Ways_nextOn rfl).trans (e_ald rfl),
  fun _ _ _ _ _ _ _ _ _ _ _ _ => (R_at ok_Ways_nextOn rfl).trans e_gR,
  fun _ _ _ _ _ _ _ _ _ _ _ _ => (R_at ok_Ways_nextOn rfl).trans (e_ild rfl),
  fun _ _ _ _ _ _ _ _ _ _ _ _ _ => (R_at ok_Ways_nextOn rfl).trans e_al,
  fun _ _ _ _ _ _ _ _ _ _ _ _ => (R_at ok_Ways_nextOn rfl).trans (e_ild rfl),
  fun _ _ _ _ _ _ _ _ _ _ _ _ _ => (R_at ok_Ways_nextOn rfl).trans (e_ild rfl),
  fun _ _ _ _ _ _ _ _ _ _ _ _ _ _ => (R_at ok_Ways_nextOn rfl).trans e_bin,
  fun _ _ _ _ _ _ _ _ _ _ _ _ _ => (R_at ok_Ways_nextOn rfl).trans e_bin,
  fun _ _ _ _ _ _ _ _ _ _ _ _ => (R_at ok_Ways_nextOn rfl).trans e_push,
  fun _ _ _ _ _ _ _ _ _ _ _ _ _ => (R_at ok_Ways_nextOn rfl).trans e_bin,
  fun _ _ _ _ _ _ _ _ _ _ _ _ => (R_at ok_Ways_nextOn rfl).trans (e_ild rfl),
  fun _ _ _ _ _ _ _ _ _ _ _ _ _ => (R_at ok_Ways_nextOn rfl).trans e_icn,
  fun _ _ _ _ _ _ _ _ _ _ _ => (R_at ok_Ways_nextOn rfl).trans e_push,
  fun _ _ _ _ _ _ _ _ _ _ _ _ => (R_at ok_Ways_nextOn rfl).trans e_goto,
  fun _ _ _ _ _ _ _ _ _ _ _ => (R_at ok_Ways_nextOn rfl).trans e_push,
  fun _ _ _ _ _ _ _ _ _ _ _ _ => (R_at ok_Ways_nextOn rfl).trans e_ist,
  fun _ _ _ _ _ _ _ _ _ _ _ => (R_at ok_Ways_nextOn rfl).trans (e_ild rfl),
  fun _ _ _ _ _ _ _ _ _ _ _ _ => (R_at ok_Ways_nextOn rfl).trans e_if,
  fun _ _ _ _ _ _ _ _ _ _ _ => (R_at ok_Ways_nextOn rfl).trans (e_ild rfl),
  fun _ _ _ _ _ _ _ _ _ _ _ _ => (R_at ok_Ways_nextOn rfl).trans e_push,
  fun _ _ _ _ _ _ _ _ _ _ _ _ _ => (R_at ok_Ways_nextOn rfl).trans e_ic,
  fun _ _ _ _ _ _ _ _ _ _ _ => (R_at ok_Ways_nextOn rfl).trans (e_ild rfl),
  fun _ _ _ _ _ _ _ _ _ _ _ _ => (R_at ok_Ways_nextOn rfl).trans (e_ild rfl),
  fun _ _ _ _ _ _ _ _ _ _ _ _ _ => (R_at ok_Ways_nextOn rfl).trans e_ic,
  fun _ _ _ _ _ _ _ _ _ _ _ => (R_at ok_Ways_nextOn rfl).trans (e_ild rfl),
  fun _ _ _ _ _ _ _ _ _ _ _ _ => (R_at ok_Ways_nextOn rfl).trans e_ist,
  fun _ _ _ _ _ _ _ _ _ _ _ => (R_at ok_Ways_nextOn rfl).trans (e_iinc rfl),
  fun _ _ _ _ _ _ _ _ _ _ _ => (R_at ok_Ways_nextOn rfl).trans e_goto,
  fun _ _ _ _ _ _ _ _ _ _ _ => (R_at ok_Ways_nextOn rfl).trans (e_ild rfl),
  fun _ _ _ _ _ _ _ _ _ _ _ _ => (R_at ok_Ways_nextOn rfl).trans e_iret⟩
set_option maxHeartbeats 4000000 in
theorem N_H_sign (d : Nat) (Q : Qt) : ∀ (x0 : Nat) (x1 : Int32) (τ : St), Cl (d + 1) m_H_sign [.ref x0, .int x1] τ Q = Ru M_H_sign d Q 0 [some (.ref x0), some (.int x1)] [] τ := fun _ _ _ => propext ⟨fun h => h.2, fun h => ⟨Nat.le_of_ble_eq_true rfl, h⟩⟩
set_option maxHeartbeats 4000000 in
theorem E_H_sign (d : Nat) (Q : Qt) :
    (∀ (a0 : Nat) (a1 : Int32) (τ : St), Ru M_H_sign d Q 0 [some (.ref a0), some (.int a1)] [] τ = Ru M_H_sign d Q 1 [some (.ref a0), some (.int a1)] [.ref a0] τ) ∧
    (∀ (a0 : Nat) (a1 : Int32) (x0 : Nat) (τ : St), Ru M_H_sign d Q 1 [some (.ref a0), some (.int a1)] [.ref x0] τ = (isA 11 x0 ∧ Ru M_H_sign d Q 4 [some (.ref a0), some (.int a1)] [.ref (rtab x0 0)] τ)) ∧
    (∀ (a0 : Nat) (a1 : Int32) (x0 : Nat) (τ : St), Ru M_H_sign d Q 4 [some (.ref a0), some (.int a1)] [.ref x0] τ = Ru M_H_sign d Q 5 [some (.ref a0), some (.int a1)] [.int a1, .ref x0] τ) ∧
    (∀ (a0 : Nat) (a1 : Int32) (x0 : Int32) (x1 : Nat) (τ : St), Ru M_H_sign d Q 5 [some (.ref a0), some (.int a1)] [.int x0, .ref x1] τ = (isA 6 x1 ∧ Cl d m_Text_takeFour [.ref x1, .int x0] τ (fun v τ' => Ru M_H_sign d Q 8 [some (.ref a0), some (.int a1)] (v.toList ++ []) τ'))) ∧
    (∀ (a0 : Nat) (a1 : Int32) (x0 : Int32) (τ : St), Ru M_H_sign d Q 8 [some (.ref a0), some (.int a1)] [.int x0] τ = ((x0 = 0 → Ru M_H_sign d Q 21 [some (.ref a0), some (.int a1)] [] τ) ∧ (¬ x0 = 0 → Ru M_H_sign d Q 11 [some (.ref a0), some (.int a1)] [] τ))) ∧
    (∀ (a0 : Nat) (a1 : Int32) (τ : St), Ru M_H_sign d Q 11 [some (.ref a0), some (.int a1)] [] τ = Ru M_H_sign d Q 12 [some (.ref a0), some (.int a1)] [.ref a0] τ) ∧
    (∀ (a0 : Nat) (a1 : Int32) (x0 : Nat) (τ : St), Ru M_H_sign d Q 12 [some (.ref a0), some (.int a1)] [.ref x0] τ = (isA 11 x0 ∧ Ru M_H_sign d Q 15 [some (.ref a0), some (.int a1)] [.ref (rtab x0 0)] τ)) ∧
    (∀ (a0 : Nat) (a1 : Int32) (x0 : Nat) (τ : St), Ru M_H_sign d Q 15 [some (.ref a0), some (.int a1)] [.ref x0] τ = (isA 6 x0 ∧ Ru M_H_sign d Q 18 [some (.ref a0), some (.int a1)] [.int (τ.1 x0 1)] τ)) ∧
    (∀ (a0 : Nat) (a1 : Int32) (x0 : Int32) (τ : St), Ru M_H_sign d Q 18 [some (.ref a0), some (.int a1)] [.int x0] τ = Ru M_H_sign d Q 22 [some (.ref a0), some (.int a1)] [.int x0] τ) ∧
    (∀ (a0 : Nat) (a1 : Int32) (τ : St), Ru M_H_sign d Q 21 [some (.ref a0), some (.int a1)] [] τ = Ru M_H_sign d Q 22 [some (.ref a0), some (.int a1)] [.int (-1)] τ) ∧
    (∀ (a0 : Nat) (a1 : Int32) (x0 : Int32) (τ : St), Ru M_H_sign d Q 22 [some (.ref a0), some (.int a1)] [.int x0] τ = Q (some (.int x0)) τ) := ⟨
  fun _ _ _ => (R_at ok_H_sign rfl).trans (e_ald rfl),
  fun _ _ _ _ => (R_at ok_H_sign rfl).trans e_gR,
  fun _ _ _ _ => (R_at ok_H_sign rfl).trans (e_ild rfl),
  fun _ _ x0 _ _ => (R_at ok_H_sign rfl).trans (e_cv [.int x0] rfl rfl rfl),
  fun _ _ _ _ => (R_at ok_H_sign rfl).trans e_if,
  fun _ _ _ => (R_at ok_H_sign rfl).trans (e_ald rfl),
  fun _ _ _ _ => (R_at ok_H_sign rfl).trans e_gR,
  fun _ _ _ _ => (R_at ok_H_sign rfl).trans e_gI,
  fun _ _ _ _ => (R_at ok_H_sign rfl).trans e_goto,
  fun _ _ _ => (R_at ok_H_sign rfl).trans e_push,
  fun _ _ _ _ => (R_at ok_H_sign rfl).trans e_iret⟩
set_option maxHeartbeats 4000000 in
theorem N_H_end (d : Nat) (Q : Qt) : ∀ (x0 : Nat) (x1 : Int32) (τ : St), Cl (d + 1) m_H_end [.ref x0, .int x1] τ Q = Ru M_H_end d Q 0 [some (.ref x0), some (.int x1)] [] τ := fun _ _ _ => propext ⟨fun h => h.2, fun h => ⟨Nat.le_of_ble_eq_true rfl, h⟩⟩
set_option maxHeartbeats 4000000 in
theorem E_H_end (d : Nat) (Q : Qt) :
    (∀ (a0 : Nat) (a1 : Int32) (τ : St), Ru M_H_end d Q 0 [some (.ref a0), some (.int a1)] [] τ = Ru M_H_end d Q 1 [some (.ref a0), some (.int a1)] [.ref a0] τ) ∧
    (∀ (a0 : Nat) (a1 : Int32) (x0 : Nat) (τ : St), Ru M_H_end d Q 1 [some (.ref a0), some (.int a1)] [.ref x0] τ = (isA 11 x0 ∧ Ru M_H_end d Q 4 [some (.ref a0), some (.int a1)] [.ref (rtab x0 0)] τ)) ∧
    (∀ (a0 : Nat) (a1 : Int32) (x0 : Nat) (τ : St), Ru M_H_end d Q 4 [some (.ref a0), some (.int a1)] [.ref x0] τ = Ru M_H_end d Q 5 [some (.ref a0), some (.int a1)] [.int a1, .ref x0] τ) ∧
    (∀ (a0 : Nat) (a1 : Int32) (x0 : Int32) (x1 : Nat) (τ : St), Ru M_H_end d Q 5 [some (.ref a0), some (.int a1)] [.int x0, .ref x1] τ = (isA 6 x1 ∧ Cl d m_Text_cutTo [.ref x1, .int x0] τ (fun v τ' => Ru M_H_end d Q 8 [some (.ref a0), some (.int a1)] (v.toList ++ []) τ'))) ∧
    (∀ (a0 : Nat) (a1 : Int32) (x0 : Int32) (τ : St), Ru M_H_end d Q 8 [some (.ref a0), some (.int a1)] [.int x0] τ = ((x0 = 0 ∨ x0 = 1) ∧ Q (some (.int x0)) τ)) := ⟨
  fun _ _ _ => (R_at ok_H_end rfl).trans (e_ald rfl),
  fun _ _ _ _ => (R_at ok_H_end rfl).trans e_gR,
  fun _ _ _ _ => (R_at ok_H_end rfl).trans (e_ild rfl),
  fun _ _ x0 _ _ => (R_at ok_H_end rfl).trans (e_cv [.int x0] rfl rfl rfl),
  fun _ _ _ _ => (R_at ok_H_end rfl).trans e_zret⟩
set_option maxHeartbeats 4000000 in
theorem N_H_land (d : Nat) (Q : Qt) : ∀ (x0 : Nat) (τ : St), Cl (d + 1) m_H_land [.ref x0] τ Q = Ru M_H_land d Q 0 [some (.ref x0), none, none] [] τ := fun _ _ => propext ⟨fun h => h.2, fun h => ⟨Nat.le_of_ble_eq_true rfl, h⟩⟩
set_option maxHeartbeats 4000000 in
theorem E_H_land (d : Nat) (Q : Qt) :
    (∀ (a0 : Nat) (τ : St), Ru M_H_land d Q 0 [some (.ref a0), none, none] [] τ = Ru M_H_land d Q 1 [some (.ref a0), none, none] [.ref a0] τ) ∧
    (∀ (a0 : Nat) (x0 : Nat) (τ : St), Ru M_H_land d Q 1 [some (.ref a0), none, none] [.ref x0] τ = (isA 11 x0 ∧ Ru M_H_land d Q 4 [some (.ref a0), none, none] [.ref (rtab x0 0)] τ)) ∧
    (∀ (a0 : Nat) (x0 : Nat) (τ : St), Ru M_H_land d Q 4 [some (.ref a0), none, none] [.ref x0] τ = Ru M_H_land d Q 6 [some (.ref a0), none, none] [.int 80, .ref x0] τ) ∧
    (∀ (a0 : Nat) (x0 : Int32) (x1 : Nat) (τ : St), Ru M_H_land d Q 6 [some (.ref a0), none, none] [.int x0, .ref x1] τ = (isA 6 x1 ∧ Cl d m_Text_open [.ref x1, .int x0] τ (fun v τ' => Ru M_H_land d Q 9 [some (.ref a0), none, none] (v.toList ++ []) τ'))) ∧
    (∀ (a0 : Nat) (τ : St), Ru M_H_land d Q 9 [some (.ref a0), none, none] [] τ = Ru M_H_land d Q 10 [some (.ref a0), none, none] [.ref a0] τ) ∧
    (∀ (a0 : Nat) (x0 : Nat) (τ : St), Ru M_H_land d Q 10 [some (.ref a0), none, none] [.ref x0] τ = (isA 11 x0 ∧ Ru M_H_land d Q 13 [some (.ref a0), none, none] [.ref (rtab x0 2)] τ)) ∧
    (∀ (a0 : Nat) (x0 : Nat) (τ : St), Ru M_H_land d Q 13 [some (.ref a0), none, none] [.ref x0] τ = Ru M_H_land d Q 14 [some (.ref a0), none, none] [.ref a0, .ref x0] τ) ∧
    (∀ (a0 : Nat) (x0 : Nat) (x1 : Nat) (τ : St), Ru M_H_land d Q 14 [some (.ref a0), none, none] [.ref x0, .ref x1] τ = (isA 11 x0 ∧ Ru M_H_land d Q 17 [some (.ref a0), none, none] [.ref (rtab x0 0), .ref x1] τ)) ∧
    (∀ (a0 : Nat) (x0 : Nat) (x1 : Nat) (τ : St), Ru M_H_land d Q 17 [some (.ref a0), none, none] [.ref x0, .ref x1] τ = (isA 0 x1 ∧ Cl d m_Ground_canRead [.ref x1, .ref x0] τ (fun v τ' => Ru M_H_land d Q 20 [some (.ref a0), none, none] (v.toList ++ []) τ'))) ∧
    (∀ (a0 : Nat) (x0 : Int32) (τ : St), Ru M_H_land d Q 20 [some (.ref a0), none, none] [.int x0] τ = Ru M_H_land d Q 21 [some (.ref a0), some (.int x0), none] [] τ) ∧
    (∀ (a0 : Nat) (a1 : Int32) (τ : St), Ru M_H_land d Q 21 [some (.ref a0), some (.int a1), none] [] τ = Ru M_H_land d Q 22 [some (.ref a0), some (.int a1), none] [.int (-1)] τ) ∧
    (∀ (a0 : Nat) (a1 : Int32) (x0 : Int32) (τ : St), Ru M_H_land d Q 22 [some (.ref a0), some (.int a1), none] [.int x0] τ = Ru M_H_land d Q 23 [some (.ref a0), some (.int a1), none] [.ref a0, .int x0] τ) ∧
    (∀ (a0 : Nat) (a1 : Int32) (x0 : Nat) (x1 : Int32) (τ : St), Ru M_H_land d Q 23 [some (.ref a0), some (.int a1), none] [.ref x0, .int x1] τ = (isA 11 x0 ∧ Ru M_H_land d Q 26 [some (.ref a0), some (.int a1), none] [.ref (rtab x0 0), .int x1] τ)) ∧
    (∀ (a0 : Nat) (a1 : Int32) (x0 : Nat) (x1 : Int32) (τ : St), Ru M_H_land d Q 26 [some (.ref a0), some (.int a1), none] [.ref x0, .int x1] τ = (isA 6 x0 ∧ Ru M_H_land d Q 29 [some (.ref a0), some (.int a1), none] [.int (τ.1 x0 2), .int x1] τ)) ∧
    (∀ (a0 : Nat) (a1 : Int32) (x0 : Int32) (x1 : Int32) (τ : St), Ru M_H_land d Q 29 [some (.ref a0), some (.int a1), none] [.int x0, .int x1] τ = Ru M_H_land d Q 30 [some (.ref a0), some (.int a1), none] [.int (x1 - x0)] τ) ∧
    (∀ (a0 : Nat) (a1 : Int32) (x0 : Int32) (τ : St), Ru M_H_land d Q 30 [some (.ref a0), some (.int a1), none] [.int x0] τ = Ru M_H_land d Q 31 [some (.ref a0), some (.int a1), some (.int x0)] [] τ) ∧
    (∀ (a0 : Nat) (a1 : Int32) (a2 : Int32) (τ : St), Ru M_H_land d Q 31 [some (.ref a0), some (.int a1), some (.int a2)] [] τ = Ru M_H_land d Q 32 [some (.ref a0), some (.int a1), some (.int a2)] [.int a1] τ) ∧
    (∀ (a0 : Nat) (a1 : Int32) (a2 : Int32) (x0 : Int32) (τ : St), Ru M_H_land d Q 32 [some (.ref a0), some (.int a1), some (.int a2)] [.int x0] τ = ((x0 = 0 → Ru M_H_land d Q 58 [some (.ref a0), some (.int a1), some (.int a2)] [] τ) ∧ (¬ x0 = 0 → Ru M_H_land d Q 35 [some (.ref a0), some (.int a1), some (.int a2)] [] τ))) ∧
    (∀ (a0 : Nat) (a1 : Int32) (a2 : Int32) (τ : St), Ru M_H_land d Q 35 [some (.ref a0), some (.int a1), some (.int a2)] [] τ = Ru M_H_land d Q 36 [some (.ref a0), some (.int a1), some (.int a2)] [.ref a0] τ) ∧
    (∀ (a0 : Nat) (a1 : Int32) (a2 : Int32) (x0 : Nat) (τ : St), Ru M_H_land d Q 36 [some (.ref a0), some (.int a1), some (.int a2)] [.ref x0] τ = (isA 11 x0 ∧ Ru M_H_land d Q 39 [some (.ref a0), some (.int a1), some (.int a2)] [.ref (rtab x0 2)] τ)) ∧
    (∀ (a0 : Nat) (a1 : Int32) (a2 : Int32) (x0 : Nat) (τ : St), Ru M_H_land d Q 39 [some (.ref a0), some (.int a1), some (.int a2)] [.ref x0] τ = Ru M_H_land d Q 40 [some (.ref a0), some (.int a1), some (.int a2)] [.ref a0, .ref x0] τ) ∧
    (∀ (a0 : Nat) (a1 : Int32) (a2 : Int32) (x0 : Nat) (x1 : Nat) (τ : St), Ru M_H_land d Q 40 [some (.ref a0), some (.int a1), some (.int a2)] [.ref x0, .ref x1] τ = (isA 11 x0 ∧ Ru M_H_land d Q 43 [some (.ref a0), some (.int a1), some (.int a2)] [.ref (rtab x0 0), .ref x1] τ)) ∧
    (∀ (a0 : Nat) (a1 : Int32) (a2 : Int32) (x0 : Nat) (x1 : Nat) (τ : St), Ru M_H_land d Q 43 [some (.ref a0), some (.int a1), some (.int a2)] [.ref x0, .ref x1] τ = (isA 0 x1 ∧ Cl d m_Ground_take [.ref x1, .ref x0] τ (fun v τ' => Ru M_H_land d Q 46 [some (.ref a0), some (.int a1), some (.int a2)] (v.toList ++ []) τ'))) ∧
    (∀ (a0 : Nat) (a1 : Int32) (a2 : Int32) (τ : St), Ru M_H_land d Q 46 [some (.ref a0), some (.int a1), some (.int a2)] [] τ = Ru M_H_land d Q 47 [some (.ref a0), some (.int a1), some (.int a2)] [.ref a0] τ) ∧
    (∀ (a0 : Nat) (a1 : Int32) (a2 : Int32) (x0 : Nat) (τ : St), Ru M_H_land d Q 47 [some (.ref a0), some (.int a1), some (.int a2)] [.ref x0] τ = (isA 11 x0 ∧ Cl d m_H_startAnew [.ref x0] τ (fun v τ' => Ru M_H_land d Q 50 [some (.ref a0), some (.int a1), some (.int a2)] (v.toList ++ []) τ'))) ∧
    (∀ (a0 : Nat) (a1 : Int32) (a2 : Int32) (τ : St), Ru M_H_land d Q 50 [some (.ref a0), some (.int a1), some (.int a2)] [] τ = Ru M_H_land d Q 51 [some (.ref a0), some (.int a1), some (.int a2)] [.ref a0] τ) ∧
    (∀ (a0 : Nat) (a1 : Int32) (a2 : Int32) (x0 : Nat) (τ : St), Ru M_H_land d Q 51 [some (.ref a0), some (.int a1), some (.int a2)] [.ref x0] τ = (isA 11 x0 ∧ Ru M_H_land d Q 54 [some (.ref a0), some (.int a1), some (.int a2)] [.ref (rtab x0 2)] τ)) ∧
    (∀ (a0 : Nat) (a1 : Int32) (a2 : Int32) (x0 : Nat) (τ : St), Ru M_H_land d Q 54 [some (.ref a0), some (.int a1), some (.int a2)] [.ref x0] τ = (isA 0 x0 ∧ Ru M_H_land d Q 57 [some (.ref a0), some (.int a1), some (.int a2)] [.int (τ.1 x0 2)] τ)) ∧
    (∀ (a0 : Nat) (a1 : Int32) (a2 : Int32) (x0 : Int32) (τ : St), Ru M_H_land d Q 57 [some (.ref a0), some (.int a1), some (.int a2)] [.int x0] τ = Ru M_H_land d Q 58 [some (.ref a0), some (.int a1), some (.int x0)] [] τ) ∧
    (∀ (a0 : Nat) (a1 : Int32) (a2 : Int32) (τ : St), Ru M_H_land d Q 58 [some (.ref a0), some (.int a1), some (.int a2)] [] τ = Ru M_H_land d Q 59 [some (.ref a0), some (.int a1), some (.int a2)] [.ref a0] τ) ∧
    (∀ (a0 : Nat) (a1 : Int32) (a2 : Int32) (x0 : Nat) (τ : St), Ru M_H_land d Q 59 [some (.ref a0), some (.int a1), some (.int a2)] [.ref x0] τ = (isA 11 x0 ∧ Ru M_H_land d Q 62 [some (.ref a0), some (.int a1), some (.int a2)] [.ref (rtab x0 0)] τ)) ∧
    (∀ (a0 : Nat) (a1 : Int32) (a2 : Int32) (x0 : Nat) (τ : St), Ru M_H_land d Q 62 [some (.ref a0), some (.int a1), some (.int a2)] [.ref x0] τ = (isA 6 x0 ∧ Cl d m_Text_empty [.ref x0] τ (fun v τ' => Ru M_H_land d Q 65 [some (.ref a0), some (.int a1), some (.int a2)] (v.toList ++ []) τ'))) ∧
    (∀ (a0 : Nat) (a1 : Int32) (a2 : Int32) (τ : St), Ru M_H_land d Q 65 [some (.ref a0), some (.int a1), some (.int a2)] [] τ = Ru M_H_land d Q 66 [some (.ref a0), some (.int a1), some (.int a2)] [.int a2] τ) ∧
    (∀ (a0 : Nat) (a1 : Int32) (a2 : Int32) (x0 : Int32) (τ : St), Ru M_H_land d Q 66 [some (.ref a0), some (.int a1), some (.int a2)] [.int x0] τ = Q (some (.int x0)) τ) := ⟨
  fun _ _ => (R_at ok_H_land rfl).trans (e_ald rfl),
  fun _ _ _ => (R_at ok_H_land rfl).trans e_gR,
  fun _ _ _ => (R_at ok_H_land rfl).trans e_push,
  fun _ x0 _ _ => (R_at ok_H_land rfl).trans (e_cv [.int x0] rfl rfl rfl),
  fun _ _ => (R_at ok_H_land rfl).trans (e_ald rfl),
  fun _ _ _ => (R_at ok_H_land rfl).trans e_gR,
  fun _ _ _ => (R_at ok_H_land rfl).trans (e_ald rfl),
  fun _ _ _ _ => (R_at ok_H_land rfl).trans e_gR,
  fun _ x0 _ _ => (R_at ok_H_land rfl).trans (e_cv [.ref x0] rfl rfl rfl),
  fun _ _ _ => (R_at ok_H_land rfl).trans e_ist,
  fun _ _ _ => (R_at ok_H_land rfl).trans e_push,
  fun _ _ _ _ => (R_at ok_H_land rfl).trans (e_ald rfl),
  fun _ _ _ _ _ => (R_at ok_H_land rfl).trans e_gR,
  fun _ _ _ _ _ => (R_at ok_H_land rfl).trans e_gI,
  fun _ _ _ _ _ => (R_at ok_H_land rfl).trans e_bin,
  fun _ _ _ _ => (R_at ok_H_land rfl).trans e_ist,
  fun _ _ _ _ => (R_at ok_H_land rfl).trans (e_ild rfl),
  fun _ _ _ _ _ => (R_at ok_H_land rfl).trans e_if,
  fun _ _ _ _ => (R_at ok_H_land rfl).trans (e_ald rfl),
  fun _ _ _ _ _ => (R_at ok_H_land rfl).trans e_gR,
  fun _ _ _ _ _ => (R_at ok_H_land rfl).trans (e_ald rfl),
  fun _ _ _ _ _ _ => (R_at ok_H_land rfl).trans e_gR,
  fun _ _ _ x0 _ _ => (R_at ok_H_land rfl).trans (e_cv [.ref x0] rfl rfl rfl),
  fun _ _ _ _ => (R_at ok_H_land rfl).trans (e_ald rfl),
  fun _ _ _ _ _ => (R_at ok_H_land rfl).trans (e_cv [] rfl rfl rfl),
  fun _ _ _ _ => (R_at ok_H_land rfl).trans (e_ald rfl),
  fun _ _ _ _ _ => (R_at ok_H_land rfl).trans e_gR,
  fun _ _ _ _ _ => (R_at ok_H_land rfl).trans e_gI,
  fun _ _ _ _ _ => (R_at ok_H_land rfl).trans e_ist,
  fun _ _ _ _ => (R_at ok_H_land rfl).trans (e_ald rfl),
  fun _ _ _ _ _ => (R_at ok_H_land rfl).trans e_gR,
  fun _ _ _ _ _ => (R_at ok_H_land rfl).trans (e_cv [] rfl rfl rfl),
  fun _ _ _ _ => (R_at ok_H_land rfl).trans (e_ild rfl),
  fun _ _ _ _ _ => (R_at ok_H_land rfl).trans e_iret⟩
set_option maxHeartbeats 4000000 in
theorem N_H_startAnew (d : Nat) (Q : Qt) : ∀ (x0 : Nat) (τ : St), Cl (d + 1) m_H_startAnew [.ref x0] τ Q = Ru M_H_startAnew d Q 0 [some (.ref x0), none] [] τ := fun _ _ => propext ⟨fun h => h.2, fun h => ⟨Nat.le_of_ble_eq_true rfl, h⟩⟩
set_option maxHeartbeats 4000000 in
theorem E_H_startAnew (d : Nat) (Q : Qt) :
    (∀ (a0 : Nat) (τ : St), Ru M_H_startAnew d Q 0 [some (.ref a0), none] [] τ = Ru M_H_startAnew d Q 1 [some (.ref a0), none] [.ref a0] τ) ∧
    (∀ (a0 : Nat) (x0 : Nat) (τ : St), Ru M_H_startAnew d Q 1 [some (.ref a0), none] [.ref x0] τ = (isA 11 x0 ∧ Ru M_H_startAnew d Q 4 [some (.ref a0), none] [.ref (rtab x0 3)] τ)) ∧
    (∀ (a0 : Nat) (x0 : Nat) (τ : St), Ru M_H_startAnew d Q 4 [some (.ref a0), none] [.ref x0] τ = (isA 1 x0 ∧ Cl d m_Moment_clear [.ref x0] τ (fun v τ' => Ru M_H_startAnew d Q 7 [some (.ref a0), none] (v.toList ++ []) τ'))) ∧
    (∀ (a0 : Nat) (τ : St), Ru M_H_startAnew d Q 7 [some (.ref a0), none] [] τ = Ru M_H_startAnew d Q 8 [some (.ref a0), none] [.ref a0] τ) ∧
    (∀ (a0 : Nat) (x0 : Nat) (τ : St), Ru M_H_startAnew d Q 8 [some (.ref a0), none] [.ref x0] τ = (isA 11 x0 ∧ Ru M_H_startAnew d Q 11 [some (.ref a0), none] [.ref (rtab x0 5)] τ)) ∧
    (∀ (a0 : Nat) (x0 : Nat) (τ : St), Ru M_H_startAnew d Q 11 [some (.ref a0), none] [.ref x0] τ = (isA 2 x0 ∧ Cl d m_Past_clear [.ref x0] τ (fun v τ' => Ru M_H_startAnew d Q 14 [some (.ref a0), none] (v.toList ++ []) τ'))) ∧
    (∀ (a0 : Nat) (τ : St), Ru M_H_startAnew d Q 14 [some (.ref a0), none] [] τ = Ru M_H_startAnew d Q 15 [some (.ref a0), none] [.ref a0] τ) ∧
    (∀ (a0 : Nat) (x0 : Nat) (τ : St), Ru M_H_startAnew d Q 15 [some (.ref a0), none] [.ref x0] τ = (isA 11 x0 ∧ Ru M_H_startAnew d Q 18 [some (.ref a0), none] [.ref (rtab x0 13)] τ)) ∧
    (∀ (a0 : Nat) (x0 : Nat) (τ : St), Ru M_H_startAnew d Q 18 [some (.ref a0), none] [.ref x0] τ = (isA 8 x0 ∧ Cl d m_Traces_clear [.ref x0] τ (fun v τ' => Ru M_H_startAnew d Q 21 [some (.ref a0), none] (v.toList ++ []) τ'))) ∧
    (∀ (a0 : Nat) (τ : St), Ru M_H_startAnew d Q 21 [some (.ref a0), none] [] τ = Ru M_H_startAnew d Q 22 [some (.ref a0), none] [.int 0] τ) ∧
    (∀ (a0 : Nat) (x0 : Int32) (τ : St), Ru M_H_startAnew d Q 22 [some (.ref a0), none] [.int x0] τ = Rs M_H_startAnew d Q 23 [some (.ref a0), some (.int x0)] [] τ) ∧
    (∀ (a0 : Nat) (a1 : Int32) (τ : St), Ru M_H_startAnew d Q 23 [some (.ref a0), some (.int a1)] [] τ = Ru M_H_startAnew d Q 24 [some (.ref a0), some (.int a1)] [.int a1] τ) ∧
    (∀ (a0 : Nat) (a1 : Int32) (x0 : Int32) (τ : St), Ru M_H_startAnew d Q 24 [some (.ref a0), some (.int a1)] [.int x0] τ = Ru M_H_startAnew d Q 25 [some (.ref a0), some (.int a1)] [.ref a0, .int x0] τ) ∧
    (∀ (a0 : Nat) (a1 : Int32) (x0 : Nat) (x1 : Int32) (τ : St), Ru M_H_startAnew d Q 25 [some (.ref a0), some (.int a1)] [.ref x0, .int x1] τ = (isA 11 x0 ∧ Ru M_H_startAnew d Q 28 [some (.ref a0), some (.int a1)] [.ref (rtab x0 6), .int x1] τ)) ∧
    (∀ (a0 : Nat) (a1 : Int32) (x0 : Nat) (x1 : Int32) (τ : St), Ru M_H_startAnew d Q 28 [some (.ref a0), some (.int a1)] [.ref x0, .int x1] τ = (x0 < NC ∧ (13 ≤ shp x0 ∧ shp x0 < 18) ∧ Ru M_H_startAnew d Q 29 [some (.ref a0), some (.int a1)] [.int (Int32.ofNat (len x0)), .int x1] τ)) ∧
    (∀ (a0 : Nat) (a1 : Int32) (x0 : Int32) (x1 : Int32) (τ : St), Ru M_H_startAnew d Q 29 [some (.ref a0), some (.int a1)] [.int x0, .int x1] τ = ((x0 ≤ x1 → Ru M_H_startAnew d Q 48 [some (.ref a0), some (.int a1)] [] τ) ∧ (¬ x0 ≤ x1 → Ru M_H_startAnew d Q 32 [some (.ref a0), some (.int a1)] [] τ))) ∧
    (∀ (a0 : Nat) (a1 : Int32) (τ : St), Ru M_H_startAnew d Q 32 [some (.ref a0), some (.int a1)] [] τ = Ru M_H_startAnew d Q 33 [some (.ref a0), some (.int a1)] [.ref a0] τ) ∧
    (∀ (a0 : Nat) (a1 : Int32) (x0 : Nat) (τ : St), Ru M_H_startAnew d Q 33 [some (.ref a0), some (.int a1)] [.ref x0] τ = (isA 11 x0 ∧ Ru M_H_startAnew d Q 36 [some (.ref a0), some (.int a1)] [.ref (rtab x0 6)] τ)) ∧
    (∀ (a0 : Nat) (a1 : Int32) (x0 : Nat) (τ : St), Ru M_H_startAnew d Q 36 [some (.ref a0), some (.int a1)] [.ref x0] τ = Ru M_H_startAnew d Q 37 [some (.ref a0), some (.int a1)] [.int a1, .ref x0] τ) ∧
    (∀ (a0 : Nat) (a1 : Int32) (x0 : Int32) (x1 : Nat) (τ : St), Ru M_H_startAnew d Q 37 [some (.ref a0), some (.int a1)] [.int x0, .ref x1] τ = (isA 17 x1 ∧ vp_in x0 (len x1) ∧ Ru M_H_startAnew d Q 38 [some (.ref a0), some (.int a1)] [.ref (mrf x1 x0.toNatClampNeg)] τ)) ∧
    (∀ (a0 : Nat) (a1 : Int32) (x0 : Nat) (τ : St), Ru M_H_startAnew d Q 38 [some (.ref a0), some (.int a1)] [.ref x0] τ = Ru M_H_startAnew d Q 39 [some (.ref a0), some (.int a1)] [.int (-1), .ref x0] τ) ∧
    (∀ (a0 : Nat) (a1 : Int32) (x0 : Int32) (x1 : Nat) (τ : St), Ru M_H_startAnew d Q 39 [some (.ref a0), some (.int a1)] [.int x0, .ref x1] τ = (isA 1 x1 ∧ Ru M_H_startAnew d Q 42 [some (.ref a0), some (.int a1)] [] (sI τ x1 1 x0))) ∧
    (∀ (a0 : Nat) (a1 : Int32) (τ : St), Ru M_H_startAnew d Q 42 [some (.ref a0), some (.int a1)] [] τ = Ru M_H_startAnew d Q 45 [some (.ref a0), some (.int (a1 + 1))] [] τ) ∧
    (∀ (a0 : Nat) (a1 : Int32) (τ : St), Ru M_H_startAnew d Q 45 [some (.ref a0), some (.int a1)] [] τ = Rs M_H_startAnew d Q 23 [some (.ref a0), some (.int a1)] [] τ) ∧
    (∀ (a0 : Nat) (a1 : Int32) (τ : St), Ru M_H_startAnew d Q 48 [some (.ref a0), some (.int a1)] [] τ = Q none τ) := ⟨
  fun _ _ => (R_at ok_H_startAnew rfl).trans (e_ald rfl),
  fun _ _ _ => (R_at ok_H_startAnew rfl).trans e_gR,
  fun _ _ _ => (R_at ok_H_startAnew rfl).trans (e_cv [] rfl rfl rfl),
  fun _ _ => (R_at ok_H_startAnew rfl).trans (e_ald rfl),
  fun _ _ _ => (R_at ok_H_startAnew rfl).trans e_gR,
  fun _ _ _ => (R_at ok_H_startAnew rfl).trans (e_cv [] rfl rfl rfl),
  fun _ _ => (R_at ok_H_startAnew rfl).trans (e_ald rfl),
  fun _ _ _ => (R_at ok_H_startAnew rfl).trans e_gR,
  fun _ _ _ => (R_at ok_H_startAnew rfl).trans (e_cv [] rfl rfl rfl),
  fun _ _ => (R_at ok_H_startAnew rfl).trans e_push,
  fun _ _ _ => (R_at ok_H_startAnew rfl).trans e_ist,
  fun _ _ _ => (R_at ok_H_startAnew rfl).trans (e_ild rfl),
  fun _ _ _ _ => (R_at ok_H_startAnew rfl).trans (e_ald rfl),
  fun _ _ _ _ _ => (R_at ok_H_startAnew rfl).trans e_gR,
  fun _ _ _ _ _ => (R_at ok_H_startAnew rfl).trans e_len,
  fun _ _ _ _ _ => (R_at ok_H_startAnew rfl).trans e_ic,
  fun _ _ _ => (R_at ok_H_startAnew rfl).trans (e_ald rfl),
  fun _ _ _ _ => (R_at ok_H_startAnew rfl).trans e_gR,
  fun _ _ _ _ => (R_at ok_H_startAnew rfl).trans (e_ild rfl),
  fun _ _ _ _ _ => (R_at ok_H_startAnew rfl).trans e_ala,
  fun _ _ _ _ => (R_at ok_H_startAnew rfl).trans e_push,
  fun _ _ _ _ _ => (R_at ok_H_startAnew rfl).trans e_pI,
  fun _ _ _ => (R_at ok_H_startAnew rfl).trans (e_iinc rfl),
  fun _ _ _ => (R_at ok_H_startAnew rfl).trans e_goto,
  fun _ _ _ => (R_at ok_H_startAnew rfl).trans e_vret⟩
set_option maxHeartbeats 4000000 in
theorem N_H_ships (d : Nat) (Q : Qt) : ∀ (x0 : Nat) (τ : St), Cl (d + 1) m_H_ships [.ref x0] τ Q = Ru M_H_ships d Q 0 [some (.ref x0), none, none] [] τ := fun _ _ => propext ⟨fun h => h.2, fun h => ⟨Nat.le_of_ble_eq_true rfl, h⟩⟩
set_option maxHeartbeats 4000000 in
theorem E_H_ships (d : Nat) (Q : Qt) :
    (∀ (a0 : Nat) (τ : St), Ru M_H_ships d Q 0 [some (.ref a0), none, none] [] τ = Ru M_H_ships d Q 1 [some (.ref a0), none, none] [.ref a0] τ) ∧
    (∀ (a0 : Nat) (x0 : Nat) (τ : St), Ru M_H_ships d Q 1 [some (.ref a0), none, none] [.ref x0] τ = (isA 11 x0 ∧ Ru M_H_ships d Q 4 [some (.ref a0), none, none] [.ref (rtab x0 0)] τ)) ∧
    (∀ (a0 : Nat) (x0 : Nat) (τ : St), Ru M_H_ships d Q 4 [some (.ref a0), none, none] [.ref x0] τ = Ru M_H_ships d Q 6 [some (.ref a0), none, none] [.int 55, .ref x0] τ) ∧
    (∀ (a0 : Nat) (x0 : Int32) (x1 : Nat) (τ : St), Ru M_H_ships d Q 6 [some (.ref a0), none, none] [.int x0, .ref x1] τ = (isA 6 x1 ∧ Cl d m_Text_open [.ref x1, .int x0] τ (fun v τ' => Ru M_H_ships d Q 9 [some (.ref a0), none, none] (v.toList ++ []) τ'))) ∧
    (∀ (a0 : Nat) (τ : St), Ru M_H_ships d Q 9 [some (.ref a0), none, none] [] τ = Ru M_H_ships d Q 10 [some (.ref a0), none, none] [.ref a0] τ) ∧
    (∀ (a0 : Nat) (x0 : Nat) (τ : St), Ru M_H_ships d Q 10 [some (.ref a0), none, none] [.ref x0] τ = (isA 11 x0 ∧ Ru M_H_ships d Q 13 [some (.ref a0), none, none] [.ref (rtab x0 0)] τ)) ∧
    (∀ (a0 : Nat) (x0 : Nat) (τ : St), Ru M_H_ships d Q 13 [some (.ref a0), none, none] [.ref x0] τ = (isA 6 x0 ∧ Cl d m_Text_finished [.ref x0] τ (fun v τ' => Ru M_H_ships d Q 16 [some (.ref a0), none, none] (v.toList ++ []) τ'))) ∧
    (∀ (a0 : Nat) (x0 : Int32) (τ : St), Ru M_H_ships d Q 16 [some (.ref a0), none, none] [.int x0] τ = ((x0 = 0 → Ru M_H_ships d Q 23 [some (.ref a0), none, none] [] τ) ∧ (¬ x0 = 0 → Ru M_H_ships d Q 19 [some (.ref a0), none, none] [] τ))) ∧
    (∀ (a0 : Nat) (τ : St), Ru M_H_ships d Q 19 [some (.ref a0), none, none] [] τ = Ru M_H_ships d Q 20 [some (.ref a0), none, none] [.int 0] τ) ∧
    (∀ (a0 : Nat) (x0 : Int32) (τ : St), Ru M_H_ships d Q 20 [some (.ref a0), none, none] [.int x0] τ = Rs M_H_ships d Q 27 [some (.ref a0), none, none] [.int x0] τ) ∧
    (∀ (a0 : Nat) (τ : St), Ru M_H_ships d Q 23 [some (.ref a0), none, none] [] τ = Ru M_H_ships d Q 24 [some (.ref a0), none, none] [.ref a0] τ) ∧
    (∀ (a0 : Nat) (x0 : Nat) (τ : St), Ru M_H_ships d Q 24 [some (.ref a0), none, none] [.ref x0] τ = (isA 11 x0 ∧ Cl d m_H_readLines [.ref x0] τ (fun v τ' => Rs M_H_ships d Q 27 [some (.ref a0), none, none] (v.toList ++ []) τ'))) ∧
    (∀ (a0 : Nat) (x0 : Int32) (τ : St), Ru M_H_ships d Q 27 [some (.ref a0), none, none] [.int x0] τ = Ru M_H_ships d Q 28 [some (.ref a0), some (.int x0), none] [] τ) ∧
    (∀ (a0 : Nat) (a1 : Int32) (τ : St), Ru M_H_ships d Q 28 [some (.ref a0), some (.int a1), none] [] τ = Ru M_H_ships d Q 29 [some (.ref a0), some (.int a1), none] [.int a1] τ) ∧
    (∀ (a0 : Nat) (a1 : Int32) (x0 : Int32) (τ : St), Ru M_H_ships d Q 29 [some (.ref a0), some (.int a1), none] [.int x0] τ = Ru M_H_ships d Q 30 [some (.ref a0), some (.int a1), none] [.int (-1), .int x0] τ) ∧
    (∀ (a0 : Nat) (a1 : Int32) (x0 : Int32) (x1 : Int32) (τ : St), Ru M_H_ships d Q 30 [some (.ref a0), some (.int a1), none] [.int x0, .int x1] τ = ((¬ x1 = x0 → Ru M_H_ships d Q 45 [some (.ref a0), some (.int a1), none] [] τ) ∧ (x1 = x0 → Ru M_H_ships d Q 33 [some (.ref a0), some (.int a1), none] [] τ))) ∧
    (∀ (a0 : Nat) (a1 : Int32) (τ : St), Ru M_H_ships d Q 33 [some (.ref a0), some (.int a1), none] [] τ = Ru M_H_ships d Q 34 [some (.ref a0), some (.int a1), none] [.int (-1)] τ) ∧
    (∀ (a0 : Nat) (a1 : Int32) (x0 : Int32) (τ : St), Ru M_H_ships d Q 34 [some (.ref a0), some (.int a1), none] [.int x0] τ = Ru M_H_ships d Q 35 [some (.ref a0), some (.int a1), none] [.ref a0, .int x0] τ) ∧
    (∀ (a0 : Nat) (a1 : Int32) (x0 : Nat) (x1 : Int32) (τ : St), Ru M_H_ships d Q 35 [some (.ref a0), some (.int a1), none] [.ref x0, .int x1] τ = (isA 11 x0 ∧ Ru M_H_ships d Q 38 [some (.ref a0), some (.int a1), none] [.ref (rtab x0 0), .int x1] τ)) ∧
    (∀ (a0 : Nat) (a1 : Int32) (x0 : Nat) (x1 : Int32) (τ : St), Ru M_H_ships d Q 38 [some (.ref a0), some (.int a1), none] [.ref x0, .int x1] τ = (isA 6 x0 ∧ Ru M_H_ships d Q 41 [some (.ref a0), some (.int a1), none] [.int (τ.1 x0 2), .int x1] τ)) ∧
    (∀ (a0 : Nat) (a1 : Int32) (x0 : Int32) (x1 : Int32) (τ : St), Ru M_H_ships d Q 41 [some (.ref a0), some (.int a1), none] [.int x0, .int x1] τ = Ru M_H_ships d Q 42 [some (.ref a0), some (.int a1), none] [.int (x1 - x0)] τ) ∧
    (∀ (a0 : Nat) (a1 : Int32) (x0 : Int32) (τ : St), Ru M_H_ships d Q 42 [some (.ref a0), some (.int a1), none] [.int x0] τ = Ru M_H_ships d Q 46 [some (.ref a0), some (.int a1), none] [.int x0] τ) ∧
    (∀ (a0 : Nat) (a1 : Int32) (τ : St), Ru M_H_ships d Q 45 [some (.ref a0), some (.int a1), none] [] τ = Ru M_H_ships d Q 46 [some (.ref a0), some (.int a1), none] [.int a1] τ) ∧
    (∀ (a0 : Nat) (a1 : Int32) (x0 : Int32) (τ : St), Ru M_H_ships d Q 46 [some (.ref a0), some (.int a1), none] [.int x0] τ = Ru M_H_ships d Q 47 [some (.ref a0), some (.int a1), some (.int x0)] [] τ) ∧
    (∀ (a0 : Nat) (a1 : Int32) (a2 : Int32) (τ : St), Ru M_H_ships d Q 47 [some (.ref a0), some (.int a1), some (.int a2)] [] τ = Ru M_H_ships d Q 48 [some (.ref a0), some (.int a1), some (.int a2)] [.int a1] τ) ∧
    (∀ (a0 : Nat) (a1 : Int32) (a2 : Int32) (x0 : Int32) (τ : St), Ru M_H_ships d Q 48 [some (.ref a0), some (.int a1), some (.int a2)] [.int x0] τ = ((x0 ≤ 0 → Ru M_H_ships d Q 71 [some (.ref a0), some (.int a1), some (.int a2)] [] τ) ∧ (¬ x0 ≤ 0 → Ru M_H_ships d Q 51 [some (.ref a0), some (.int a1), some (.int a2)] [] τ))) ∧
    (∀ (a0 : Nat) (a1 : Int32) (a2 : Int32) (τ : St), Ru M_H_ships d Q 51 [some (.ref a0), some (.int a1), some (.int a2)] [] τ = Ru M_H_ships d Q 52 [some (.ref a0), some (.int a1), some (.int a2)] [.ref a0] τ) ∧
    (∀ (a0 : Nat) (a1 : Int32) (a2 : Int32) (x0 : Nat) (τ : St), Ru M_H_ships d Q 52 [some (.ref a0), some (.int a1), some (.int a2)] [.ref x0] τ = (isA 11 x0 ∧ Ru M_H_ships d Q 55 [some (.ref a0), some (.int a1), some (.int a2)] [.ref (rtab x0 3)] τ)) ∧
    (∀ (a0 : Nat) (a1 : Int32) (a2 : Int32) (x0 : Nat) (τ : St), Ru M_H_ships d Q 55 [some (.ref a0), some (.int a1), some (.int a2)] [.ref x0] τ = Ru M_H_ships d Q 56 [some (.ref a0), some (.int a1), some (.int a2)] [.ref x0, .ref x0] τ) ∧
    (∀ (a0 : Nat) (a1 : Int32) (a2 : Int32) (x0 : Nat) (x1 : Nat) (τ : St), Ru M_H_ships d Q 56 [some (.ref a0), some (.int a1), some (.int a2)] [.ref x0, .ref x1] τ = (isA 1 x0 ∧ Ru M_H_ships d Q 59 [some (.ref a0), some (.int a1), some (.int a2)] [.int (τ.1 x0 1), .ref x1] τ)) ∧
    (∀ (a0 : Nat) (a1 : Int32) (a2 : Int32) (x0 : Int32) (x1 : Nat) (τ : St), Ru M_H_ships d Q 59 [some (.ref a0), some (.int a1), some (.int a2)] [.int x0, .ref x1] τ = Ru M_H_ships d Q 60 [some (.ref a0), some (.int a1), some (.int a2)] [.int a1, .int x0, .ref x1] τ) ∧
    (∀ (a0 : Nat) (a1 : Int32) (a2 : Int32) (x0 : Int32) (x1 : Int32) (x2 : Nat) (τ : St), Ru M_H_ships d Q 60 [some (.ref a0), some (.int a1), some (.int a2)] [.int x0, .int x1, .ref x2] τ = Ru M_H_ships d Q 61 [some (.ref a0), some (.int a1), some (.int a2)] [.int (x1 + x0), .ref x2] τ) ∧
    (∀ (a0 : Nat) (a1 : Int32) (a2 : Int32) (x0 : Int32) (x1 : Nat) (τ : St), Ru M_H_ships d Q 61 [some (.ref a0), some (.int a1), some (.int a2)] [.int x0, .ref x1] τ = (isA 1 x1 ∧ Ru M_H_ships d Q 64 [some (.ref a0), some (.int a1), some (.int a2)] [] (sI τ x1 1 x0))) ∧
    (∀ (a0 : Nat) (a1 : Int32) (a2 : Int32) (τ : St), Ru M_H_ships d Q 64 [some (.ref a0), some (.int a1), some (.int a2)] [] τ = Ru M_H_ships d Q 65 [some (.ref a0), some (.int a1), some (.int a2)] [.ref a0] τ) ∧
    (∀ (a0 : Nat) (a1 : Int32) (a2 : Int32) (x0 : Nat) (τ : St), Ru M_H_ships d Q 65 [some (.ref a0), some (.int a1), some (.int a2)] [.ref x0] τ = (isA 11 x0 ∧ Ru M_H_ships d Q 68 [some (.ref a0), some (.int a1), some (.int a2)] [.ref (rtab x0 5)] τ)) ∧
    (∀ (a0 : Nat) (a1 : Int32) (a2 : Int32) (x0 : Nat) (τ : St), Ru M_H_ships d Q 68 [some (.ref a0), some (.int a1), some (.int a2)] [.ref x0] τ = (isA 2 x0 ∧ Cl d m_Past_clear [.ref x0] τ (fun v τ' => Ru M_H_ships d Q 71 [some (.ref a0), some (.int a1), some (.int a2)] (v.toList ++ []) τ'))) ∧
    (∀ (a0 : Nat) (a1 : Int32) (a2 : Int32) (τ : St), Ru M_H_ships d Q 71 [some (.ref a0), some (.int a1), some (.int a2)] [] τ = Ru M_H_ships d Q 72 [some (.ref a0), some (.int a1), some (.int a2)] [.ref a0] τ) ∧
    (∀ (a0 : Nat) (a1 : Int32) (a2 : Int32) (x0 : Nat) (τ : St), Ru M_H_ships d Q 72 [some (.ref a0), some (.int a1), some (.int a2)] [.ref x0] τ = (isA 11 x0 ∧ Ru M_H_ships d Q 75 [some (.ref a0), some (.int a1), some (.int a2)] [.ref (rtab x0 0)] τ)) ∧
    (∀ (a0 : Nat) (a1 : Int32) (a2 : Int32) (x0 : Nat) (τ : St), Ru M_H_ships d Q 75 [some (.ref a0), some (.int a1), some (.int a2)] [.ref x0] τ = (isA 6 x0 ∧ Cl d m_Text_empty [.ref x0] τ (fun v τ' => Ru M_H_ships d Q 78 [some (.ref a0), some (.int a1), some (.int a2)] (v.toList ++ []) τ'))) ∧
    (∀ (a0 : Nat) (a1 : Int32) (a2 : Int32) (τ : St), Ru M_H_ships d Q 78 [some (.ref a0), some (.int a1), some (.int a2)] [] τ = Ru M_H_ships d Q 79 [some (.ref a0), some (.int a1), some (.int a2)] [.int a2] τ) ∧
    (∀ (a0 : Nat) (a1 : Int32) (a2 : Int32) (x0 : Int32) (τ : St), Ru M_H_ships d Q 79 [some (.ref a0), some (.int a1), some (.int a2)] [.int x0] τ = Q (some (.int x0)) τ) := ⟨
  fun _ _ => (R_at ok_H_ships rfl).trans (e_ald rfl),
  fun _ _ _ => (R_at ok_H_ships rfl).trans e_gR,
  fun _ _ _ => (R_at ok_H_ships rfl).trans e_push,
  fun _ x0 _ _ => (R_at ok_H_ships rfl).trans (e_cv [.int x0] rfl rfl rfl),
  fun _ _ => (R_at ok_H_ships rfl).trans (e_ald rfl),
  fun _ _ _ => (R_at ok_H_ships rfl).trans e_gR,
  fun _ _ _ => (R_at ok_H_ships rfl).trans (e_cv [] rfl rfl rfl),
  fun _ _ _ => (R_at ok_H_ships rfl).trans e_if,
  fun _ _ => (R_at ok_H_ships rfl).trans e_push,
  fun _ _ _ => (R_at ok_H_ships rfl).trans e_goto,
  fun _ _ => (R_at ok_H_ships rfl).trans (e_ald rfl),
  fun _ _ _ => (R_at ok_H_ships rfl).trans (e_cv [] rfl rfl rfl),
  fun _ _ _ => (R_at ok_H_ships rfl).trans e_ist,
  fun _ _ _ => (R_at ok_H_ships rfl).trans (e_ild rfl),
  fun _ _ _ _ => (R_at ok_H_ships rfl).trans e_push,
  fun _ _ _ _ _ => (R_at ok_H_ships rfl).trans e_icn,
  fun _ _ _ => (R_at ok_H_ships rfl).trans e_push,
  fun _ _ _ _ => (R_at ok_H_ships rfl).trans (e_ald rfl),
  fun _ _ _ _ _ => (R_at ok_H_ships rfl).trans e_gR,
  fun _ _ _ _ _ => (R_at ok_H_ships rfl).trans e_gI,
  fun _ _ _ _ _ => (R_at ok_H_ships rfl).trans e_bin,
  fun _ _ _ _ => (R_at ok_H_ships rfl).trans e_goto,
  fun _ _ _ => (R_at ok_H_ships rfl).trans (e_ild rfl),
  fun _ _ _ _ => (R_at ok_H_ships rfl).trans e_ist,
  fun _ _ _ _ => (R_at ok_H_ships rfl).trans (e_ild rfl),
  fun _ _ _ _ _ => (R_at ok_H_ships rfl).trans e_if,
  fun _ _ _ _ => (R_at ok_H_ships rfl).trans (e_ald rfl),
  fun _ _ _ _ _ => (R_at ok_H_ships rfl).trans e_gR,
  fun _ _ _ _ _ => (R_at ok_H_ships rfl).trans (e_dup rfl),
  fun _ _ _ _ _ _ => (R_at ok_H_ships rfl).trans e_gI,
  fun _ _ _ _ _ _ => (R_at ok_H_ships rfl).trans (e_ild rfl),
  fun _ _ _ _ _ _ _ => (R_at ok_H_ships rfl).trans e_bin,
  fun _ _ _ _ _ _ => (R_at ok_H_ships rfl).trans e_pI,
  fun _ _ _ _ => (R_at ok_H_ships rfl).trans (e_ald rfl),
  fun _ _ _ _ _ => (R_at ok_H_ships rfl).trans e_gR,
  fun _ _ _ _ _ => (R_at ok_H_ships rfl).trans (e_cv [] rfl rfl rfl),
  fun _ _ _ _ => (R_at ok_H_ships rfl).trans (e_ald rfl),
  fun _ _ _ _ _ => (R_at ok_H_ships rfl).trans e_gR,
  fun _ _ _ _ _ => (R_at ok_H_ships rfl).trans (e_cv [] rfl rfl rfl),
  fun _ _ _ _ => (R_at ok_H_ships rfl).trans (e_ild rfl),
  fun _ _ _ _ _ => (R_at ok_H_ships rfl).trans e_iret⟩
set_option maxHeartbeats 4000000 in
theorem N_H_readLines (d : Nat) (Q : Qt) : ∀ (x0 : Nat) (τ : St), Cl (d + 1) m_H_readLines [.ref x0] τ Q = Ru M_H_readLines d Q 0 [some (.ref x0), none] [] τ := fun _ _ => propext ⟨fun h => h.2, fun h => ⟨Nat.le_of_ble_eq_true rfl, h⟩⟩
set_option maxHeartbeats 4000000 in
theorem E_H_readLines (d : Nat) (Q : Qt) :
    (∀ (a0 : Nat) (τ : St), Ru M_H_readLines d Q 0 [some (.ref a0), none] [] τ = Ru M_H_readLines d Q 1 [some (.ref a0), none] [.ref a0] τ) ∧
    (∀ (a0 : Nat) (x0 : Nat) (τ : St), Ru M_H_readLines d Q 1 [some (.ref a0), none] [.ref x0] τ = (isA 11 x0 ∧ Ru M_H_readLines d Q 4 [some (.ref a0), none] [.ref (rtab x0 3)] τ)) ∧
    (∀ (a0 : Nat) (x0 : Nat) (τ : St), Ru M_H_readLines d Q 4 [some (.ref a0), none] [.ref x0] τ = (isA 1 x0 ∧ Ru M_H_readLines d Q 7 [some (.ref a0), none] [.int (τ.1 x0 1)] τ)) ∧
    (∀ (a0 : Nat) (x0 : Int32) (τ : St), Ru M_H_readLines d Q 7 [some (.ref a0), none] [.int x0] τ = Rs M_H_readLines d Q 8 [some (.ref a0), some (.int x0)] [] τ) ∧
    (∀ (a0 : Nat) (a1 : Int32) (τ : St), Ru M_H_readLines d Q 8 [some (.ref a0), some (.int a1)] [] τ = Ru M_H_readLines d Q 9 [some (.ref a0), some (.int a1)] [.int a1] τ) ∧
    (∀ (a0 : Nat) (a1 : Int32) (x0 : Int32) (τ : St), Ru M_H_readLines d Q 9 [some (.ref a0), some (.int a1)] [.int x0] τ = Ru M_H_readLines d Q 11 [some (.ref a0), some (.int a1)] [.int 8, .int x0] τ) ∧
    (∀ (a0 : Nat) (a1 : Int32) (x0 : Int32) (x1 : Int32) (τ : St), Ru M_H_readLines d Q 11 [some (.ref a0), some (.int a1)] [.int x0, .int x1] τ = ((x0 ≤ x1 → Ru M_H_readLines d Q 66 [some (.ref a0), some (.int a1)] [] τ) ∧ (¬ x0 ≤ x1 → Ru M_H_readLines d Q 14 [some (.ref a0), some (.int a1)] [] τ))) ∧
    (∀ (a0 : Nat) (a1 : Int32) (τ : St), Ru M_H_readLines d Q 14 [some (.ref a0), some (.int a1)] [] τ = Ru M_H_readLines d Q 15 [some (.ref a0), some (.int a1)] [.ref a0] τ) ∧
    (∀ (a0 : Nat) (a1 : Int32) (x0 : Nat) (τ : St), Ru M_H_readLines d Q 15 [some (.ref a0), some (.int a1)] [.ref x0] τ = Ru M_H_readLines d Q 16 [some (.ref a0), some (.int a1)] [.int a1, .ref x0] τ) ∧
    (∀ (a0 : Nat) (a1 : Int32) (x0 : Int32) (x1 : Nat) (τ : St), Ru M_H_readLines d Q 16 [some (.ref a0), some (.int a1)] [.int x0, .ref x1] τ = (isA 11 x1 ∧ Cl d m_H_readLine [.ref x1, .int x0] τ (fun v τ' => Ru M_H_readLines d Q 19 [some (.ref a0), some (.int a1)] (v.toList ++ []) τ'))) ∧
    (∀ (a0 : Nat) (a1 : Int32) (x0 : Int32) (τ : St), Ru M_H_readLines d Q 19 [some (.ref a0), some (.int a1)] [.int x0] τ = ((¬ x0 = 0 → Ru M_H_readLines d Q 24 [some (.ref a0), some (.int a1)] [] τ) ∧ (x0 = 0 → Ru M_H_readLines d Q 22 [some (.ref a0), some (.int a1)] [] τ))) ∧
    (∀ (a0 : Nat) (a1 : Int32) (τ : St), Ru M_H_readLines d Q 22 [some (.ref a0), some (.int a1)] [] τ = Ru M_H_readLines d Q 23 [some (.ref a0), some (.int a1)] [.int (-1)] τ) ∧
    (∀ (a0 : Nat) (a1 : Int32) (x0 : Int32) (τ : St), Ru M_H_readLines d Q 23 [some (.ref a0), some (.int a1)] [.int x0] τ = Q (some (.int x0)) τ) ∧
    (∀ (a0 : Nat) (a1 : Int32) (τ : St), Ru M_H_readLines d Q 24 [some (.ref a0), some (.int a1)] [] τ = Ru M_H_readLines d Q 25 [some (.ref a0), some (.int a1)] [.ref a0] τ) ∧
    (∀ (a0 : Nat) (a1 : Int32) (x0 : Nat) (τ : St), Ru M_H_readLines d Q 25 [some (.ref a0), some (.int a1)] [.ref x0] τ = (isA 11 x0 ∧ Ru M_H_readLines d Q 28 [some (.ref a0), some (.int a1)] [.ref (rtab x0 0)] τ)) ∧
    (∀ (a0 : Nat) (a1 : Int32) (x0 : Nat) (τ : St), Ru M_H_readLines d Q 28 [some (.ref a0), some (.int a1)] [.ref x0] τ = (isA 6 x0 ∧ Cl d m_Text_finished [.ref x0] τ (fun v τ' => Ru M_H_readLines d Q 31 [some (.ref a0), some (.int a1)] (v.toList ++ []) τ'))) ∧
    (∀ (a0 : Nat) (a1 : Int32) (x0 : Int32) (τ : St), Ru M_H_readLines d Q 31 [some (.ref a0), some (.int a1)] [.int x0] τ = ((x0 = 0 → Ru M_H_readLines d Q 46 [some (.ref a0), some (.int a1)] [] τ) ∧ (¬ x0 = 0 → Ru M_H_readLines d Q 34 [some (.ref a0), some (.int a1)] [] τ))) ∧
    (∀ (a0 : Nat) (a1 : Int32) (τ : St), Ru M_H_readLines d Q 34 [some (.ref a0), some (.int a1)] [] τ = Ru M_H_readLines d Q 35 [some (.ref a0), some (.int a1)] [.int a1] τ) ∧
    (∀ (a0 : Nat) (a1 : Int32) (x0 : Int32) (τ : St), Ru M_H_readLines d Q 35 [some (.ref a0), some (.int a1)] [.int x0] τ = Ru M_H_readLines d Q 36 [some (.ref a0), some (.int a1)] [.int 1, .int x0] τ) ∧
    (∀ (a0 : Nat) (a1 : Int32) (x0 : Int32) (x1 : Int32) (τ : St), Ru M_H_readLines d Q 36 [some (.ref a0), some (.int a1)] [.int x0, .int x1] τ = Ru M_H_readLines d Q 37 [some (.ref a0), some (.int a1)] [.int (x1 + x0)] τ) ∧
    (∀ (a0 : Nat) (a1 : Int32) (x0 : Int32) (τ : St), Ru M_H_readLines d Q 37 [some (.ref a0), some (.int a1)] [.int x0] τ = Ru M_H_readLines d Q 38 [some (.ref a0), some (.int a1)] [.ref a0, .int x0] τ) ∧
    (∀ (a0 : Nat) (a1 : Int32) (x0 : Nat) (x1 : Int32) (τ : St), Ru M_H_readLines d Q 38 [some (.ref a0), some (.int a1)] [.ref x0, .int x1] τ = (isA 11 x0 ∧ Ru M_H_readLines d Q 41 [some (.ref a0), some (.int a1)] [.ref (rtab x0 3), .int x1] τ)) ∧
    (∀ (a0 : Nat) (a1 : Int32) (x0 : Nat) (x1 : Int32) (τ : St), Ru M_H_readLines d Q 41 [some (.ref a0), some (.int a1)] [.ref x0, .int x1] τ = (isA 1 x0 ∧ Ru M_H_readLines d Q 44 [some (.ref a0), some (.int a1)] [.int (τ.1 x0 1), .int x1] τ)) ∧
    (∀ (a0 : Nat) (a1 : Int32) (x0 : Int32) (x1 : Int32) (τ : St), Ru M_H_readLines d Q 44 [some (.ref a0), some (.int a1)] [.int x0, .int x1] τ = Ru M_H_readLines d Q 45 [some (.ref a0), some (.int a1)] [.int (x1 - x0)] τ) ∧
    (∀ (a0 : Nat) (a1 : Int32) (x0 : Int32) (τ : St), Ru M_H_readLines d Q 45 [some (.ref a0), some (.int a1)] [.int x0] τ = Q (some (.int x0)) τ) ∧
    (∀ (a0 : Nat) (a1 : Int32) (τ : St), Ru M_H_readLines d Q 46 [some (.ref a0), some (.int a1)] [] τ = Ru M_H_readLines d Q 47 [some (.ref a0), some (.int a1)] [.ref a0] τ) ∧
    (∀ (a0 : Nat) (a1 : Int32) (x0 : Nat) (τ : St), Ru M_H_readLines d Q 47 [some (.ref a0), some (.int a1)] [.ref x0] τ = (isA 11 x0 ∧ Ru M_H_readLines d Q 50 [some (.ref a0), some (.int a1)] [.ref (rtab x0 0)] τ)) ∧
    (∀ (a0 : Nat) (a1 : Int32) (x0 : Nat) (τ : St), Ru M_H_readLines d Q 50 [some (.ref a0), some (.int a1)] [.ref x0] τ = Ru M_H_readLines d Q 52 [some (.ref a0), some (.int a1)] [.int 59, .ref x0] τ) ∧
    (∀ (a0 : Nat) (a1 : Int32) (x0 : Int32) (x1 : Nat) (τ : St), Ru M_H_readLines d Q 52 [some (.ref a0), some (.int a1)] [.int x0, .ref x1] τ = (isA 6 x1 ∧ Cl d m_Text_takeSign [.ref x1, .int x0] τ (fun v τ' => Ru M_H_readLines d Q 55 [some (.ref a0), some (.int a1)] (v.toList ++ []) τ'))) ∧
    (∀ (a0 : Nat) (a1 : Int32) (x0 : Int32) (τ : St), Ru M_H_readLines d Q 55 [some (.ref a0), some (.int a1)] [.int x0] τ = ((¬ x0 = 0 → Ru M_H_readLines d Q 60 [some (.ref a0), some (.int a1)] [] τ) ∧ (x0 = 0 → Ru M_H_readLines d Q 58 [some (.ref a0), some (.int a1)] [] τ))) ∧
    (∀ (a0 : Nat) (a1 : Int32) (τ : St), Ru M_H_readLines d Q 58 [some (.ref a0), some (.int a1)] [] τ = Ru M_H_readLines d Q 59 [some (.ref a0), some (.int a1)] [.int (-1)] τ) ∧
    (∀ (a0 : Nat) (a1 : Int32) (x0 : Int32) (τ : St), Ru M_H_readLines d Q 59 [some (.ref a0), some (.int a1)] [.int x0] τ = Q (some (.int x0)) τ) ∧
    (∀ (a0 : Nat) (a1 : Int32) (τ : St), Ru M_H_readLines d Q 60 [some (.ref a0), some (.int a1)] [] τ = Ru M_H_readLines d Q 63 [some (.ref a0), some (.int (a1 + 1))] [] τ) ∧
    (∀ (a0 : Nat) (a1 : Int32) (τ : St), Ru M_H_readLines d Q 63 [some (.ref a0), some (.int a1)] [] τ = Rs M_H_readLines d Q 8 [some (.ref a0), some (.int a1)] [] τ) ∧
    (∀ (a0 : Nat) (a1 : Int32) (τ : St), Ru M_H_readLines d Q 66 [some (.ref a0), some (.int a1)] [] τ = Ru M_H_readLines d Q 67 [some (.ref a0), some (.int a1)] [.int (-1)] τ) ∧
    (∀ (a0 : Nat) (a1 : Int32) (x0 : Int32) (τ : St), Ru M_H_readLines d Q 67 [some (.ref a0), some (.int a1)] [.int x0] τ = Q (some (.int x0)) τ) := ⟨
  fun _ _ => (R_at ok_H_readLines rfl).trans (e_ald rfl),
  fun _ _ _ => (R_at ok_H_readLines rfl).trans e_gR,
  fun _ _ _ => (R_at ok_H_readLines rfl).trans e_gI,
  fun _ _ _ => (R_at ok_H_readLines rfl).trans e_ist,
  fun _ _ _ => (R_at ok_H_readLines rfl).trans (e_ild rfl),
  fun _ _ _ _ => (R_at ok_H_readLines rfl).trans e_push,
  fun _ _ _ _ _ => (R_at ok_H_readLines rfl).trans e_ic,
  fun _ _ _ => (R_at ok_H_readLines rfl).trans (e_ald rfl),
  fun _ _ _ _ => (R_at ok_H_readLines rfl).trans (e_ild rfl),
  fun _ _ x0 _ _ => (R_at ok_H_readLines rfl).trans (e_cv [.int x0] rfl rfl rfl),
  fun _ _ _ _ => (R_at ok_H_readLines rfl).trans e_ifn,
  fun _ _ _ => (R_at ok_H_readLines rfl).trans e_push,
  fun _ _ _ _ => (R_at ok_H_readLines rfl).trans e_iret,
  fun _ _ _ => (R_at ok_H_readLines rfl).trans (e_ald rfl),
  fun _ _ _ _ => (R_at ok_H_readLines rfl).trans e_gR,
  fun _ _ _ _ => (R_at ok_H_readLines rfl).trans (e_cv [] rfl rfl rfl),
  fun _ _ _ _ => (R_at ok_H_readLines rfl).trans e_if,
  fun _ _ _ => (R_at ok_H_readLines rfl).trans (e_ild rfl),
  fun _ _ _ _ => (R_at ok_H_readLines rfl).trans e_push,
  fun _ _ _ _ _ => (R_at ok_H_readLines rfl).trans e_bin,
  fun _ _ _ _ => (R_at ok_H_readLines rfl).trans (e_ald rfl),
  fun _ _ _ _ _ => (R_at ok_H_readLines rfl).trans e_gR,
  fun _ _ _ _ _ => (R_at ok_H_readLines rfl).trans e_gI,
  fun _ _ _ _ _ => (R_at ok_H_readLines rfl).trans e_bin,
  fun _ _ _ _ => (R_at ok_H_readLines rfl).trans e_iret,
  fun _ _ _ => (R_at ok_H_readLines rfl).trans (e_ald rfl),
  fun _ _ _ _ => (R_at ok_H_readLines rfl).trans e_gR,
  fun _ _ _ _ => (R_at ok_H_readLines rfl).trans e_push,
  fun _ _ x0 _ _ => (R_at ok_H_readLines rfl).trans (e_cv [.int x0] rfl rfl rfl),
  fun _ _ _ _ => (R_at ok_H_readLines rfl).trans e_ifn,
  fun _ _ _ => (R_at ok_H_readLines rfl).trans e_push,
  fun _ _ _ _ => (R_at ok_H_readLines rfl).trans e_iret,
  fun _ _ _ => (R_at ok_H_readLines rfl).trans (e_iinc rfl),
  fun _ _ _ => (R_at ok_H_readLines rfl).trans e_goto,
  fun _ _ _ => (R_at ok_H_readLines rfl).trans e_push,
  fun _ _ _ _ => (R_at ok_H_readLines rfl).trans e_iret⟩
set_option maxHeartbeats 4000000 in
theorem N_H_readLine (d : Nat) (Q : Qt) : ∀ (x0 : Nat) (x1 : Int32) (τ : St), Cl (d + 1) m_H_readLine [.ref x0, .int x1] τ Q = Ru M_H_readLine d Q 0 [some (.ref x0), some (.int x1), none, none] [] τ := fun _ _ _ => propext ⟨fun h => h.2, fun h => ⟨Nat.le_of_ble_eq_true rfl, h⟩⟩
set_option maxHeartbeats 4000000 in
theorem E_H_readLine (d : Nat) (Q : Qt) :
    (∀ (a0 : Nat) (a1 : Int32) (τ : St), Ru M_H_readLine d Q 0 [some (.ref a0), some (.int a1), none, none] [] τ = Ru M_H_readLine d Q 1 [some (.ref a0), some (.int a1), none, none] [.ref a0] τ) ∧
    (∀ (a0 : Nat) (a1 : Int32) (x0 : Nat) (τ : St), Ru M_H_readLine d Q 1 [some (.ref a0), some (.int a1), none, none] [.ref x0] τ = (isA 11 x0 ∧ Ru M_H_readLine d Q 4 [some (.ref a0), some (.int a1), none, none] [.ref (rtab x0 0)] τ)) ∧
    (∀ (a0 : Nat) (a1 : Int32) (x0 : Nat) (τ : St), Ru M_H_readLine d Q 4 [some (.ref a0), some (.int a1), none, none] [.ref x0] τ = Ru M_H_readLine d Q 5 [some (.ref a0), some (.int a1), none, none] [.int 2, .ref x0] τ) ∧
    (∀ (a0 : Nat) (a1 : Int32) (x0 : Int32) (x1 : Nat) (τ : St), Ru M_H_readLine d Q 5 [some (.ref a0), some (.int a1), none, none] [.int x0, .ref x1] τ = (isA 6 x1 ∧ Cl d m_Text_takeNumber [.ref x1, .int x0] τ (fun v τ' => Ru M_H_readLine d Q 8 [some (.ref a0), some (.int a1), none, none] (v.toList ++ []) τ'))) ∧
    (∀ (a0 : Nat) (a1 : Int32) (x0 : Int32) (τ : St), Ru M_H_readLine d Q 8 [some (.ref a0), some (.int a1), none, none] [.int x0] τ = Ru M_H_readLine d Q 9 [some (.ref a0), some (.int a1), some (.int x0), none] [] τ) ∧
    (∀ (a0 : Nat) (a1 : Int32) (a2 : Int32) (τ : St), Ru M_H_readLine d Q 9 [some (.ref a0), some (.int a1), some (.int a2), none] [] τ = Ru M_H_readLine d Q 10 [some (.ref a0), some (.int a1), some (.int a2), none] [.int a2] τ) ∧
    (∀ (a0 : Nat) (a1 : Int32) (a2 : Int32) (x0 : Int32) (τ : St), Ru M_H_readLine d Q 10 [some (.ref a0), some (.int a1), some (.int a2), none] [.int x0] τ = Ru M_H_readLine d Q 11 [some (.ref a0), some (.int a1), some (.int a2), none] [.int (-1), .int x0] τ) ∧
    (∀ (a0 : Nat) (a1 : Int32) (a2 : Int32) (x0 : Int32) (x1 : Int32) (τ : St), Ru M_H_readLine d Q 11 [some (.ref a0), some (.int a1), some (.int a2), none] [.int x0, .int x1] τ = ((¬ x1 = x0 → Ru M_H_readLine d Q 16 [some (.ref a0), some (.int a1), some (.int a2), none] [] τ) ∧ (x1 = x0 → Ru M_H_readLine d Q 14 [some (.ref a0), some (.int a1), some (.int a2), none] [] τ))) ∧
    (∀ (a0 : Nat) (a1 : Int32) (a2 : Int32) (τ : St), Ru M_H_readLine d Q 14 [some (.ref a0), some (.int a1), some (.int a2), none] [] τ = Ru M_H_readLine d Q 15 [some (.ref a0), some (.int a1), some (.int a2), none] [.int 0] τ) ∧
    (∀ (a0 : Nat) (a1 : Int32) (a2 : Int32) (x0 : Int32) (τ : St), Ru M_H_readLine d Q 15 [some (.ref a0), some (.int a1), some (.int a2), none] [.int x0] τ = ((x0 = 0 ∨ x0 = 1) ∧ Q (some (.int x0)) τ)) ∧
    (∀ (a0 : Nat) (a1 : Int32) (a2 : Int32) (τ : St), Ru M_H_readLine d Q 16 [some (.ref a0), some (.int a1), some (.int a2), none] [] τ = Ru M_H_readLine d Q 17 [some (.ref a0), some (.int a1), some (.int a2), none] [.int a2] τ) ∧
    (∀ (a0 : Nat) (a1 : Int32) (a2 : Int32) (x0 : Int32) (τ : St), Ru M_H_readLine d Q 17 [some (.ref a0), some (.int a1), some (.int a2), none] [.int x0] τ = ((¬ x0 = 0 → Ru M_H_readLine d Q 29 [some (.ref a0), some (.int a1), some (.int a2), none] [] τ) ∧ (x0 = 0 → Ru M_H_readLine d Q 20 [some (.ref a0), some (.int a1), some (.int a2), none] [] τ))) ∧
    (∀ (a0 : Nat) (a1 : Int32) (a2 : Int32) (τ : St), Ru M_H_readLine d Q 20 [some (.ref a0), some (.int a1), some (.int a2), none] [] τ = Ru M_H_readLine d Q 21 [some (.ref a0), some (.int a1), some (.int a2), none] [.ref a0] τ) ∧
    (∀ (a0 : Nat) (a1 : Int32) (a2 : Int32) (x0 : Nat) (τ : St), Ru M_H_readLine d Q 21 [some (.ref a0), some (.int a1), some (.int a2), none] [.ref x0] τ = (isA 11 x0 ∧ Ru M_H_readLine d Q 24 [some (.ref a0), some (.int a1), some (.int a2), none] [.ref (rtab x0 0)] τ)) ∧
    (∀ (a0 : Nat) (a1 : Int32) (a2 : Int32) (x0 : Nat) (τ : St), Ru M_H_readLine d Q 24 [some (.ref a0), some (.int a1), some (.int a2), none] [.ref x0] τ = (isA 6 x0 ∧ Cl d m_Text_back [.ref x0] τ (fun v τ' => Ru M_H_readLine d Q 27 [some (.ref a0), some (.int a1), some (.int a2), none] (v.toList ++ []) τ'))) ∧
    (∀ (a0 : Nat) (a1 : Int32) (a2 : Int32) (τ : St), Ru M_H_readLine d Q 27 [some (.ref a0), some (.int a1), some (.int a2), none] [] τ = Ru M_H_readLine d Q 28 [some (.ref a0), some (.int a1), some (.int a2), none] [.int 0] τ) ∧
    (∀ (a0 : Nat) (a1 : Int32) (a2 : Int32) (x0 : Int32) (τ : St), Ru M_H_readLine d Q 28 [some (.ref a0), some (.int a1), some (.int a2), none] [.int x0] τ = ((x0 = 0 ∨ x0 = 1) ∧ Q (some (.int x0)) τ)) ∧
    (∀ (a0 : Nat) (a1 : Int32) (a2 : Int32) (τ : St), Ru M_H_readLine d Q 29 [some (.ref a0), some (.int a1), some (.int a2), none] [] τ = Ru M_H_readLine d Q 30 [some (.ref a0), some (.int a1), some (.int a2), none] [.ref a0] τ) ∧
    (∀ (a0 : Nat) (a1 : Int32) (a2 : Int32) (x0 : Nat) (τ : St), Ru M_H_readLine d Q 30 [some (.ref a0), some (.int a1), some (.int a2), none] [.ref x0] τ = (isA 11 x0 ∧ Ru M_H_readLine d Q 33 [some (.ref a0), some (.int a1), some (.int a2), none] [.ref (rtab x0 0)] τ)) ∧
    (∀ (a0 : Nat) (a1 : Int32) (a2 : Int32) (x0 : Nat) (τ : St), Ru M_H_readLine d Q 33 [some (.ref a0), some (.int a1), some (.int a2), none] [.ref x0] τ = Ru M_H_readLine d Q 35 [some (.ref a0), some (.int a1), some (.int a2), none] [.int 44, .ref x0] τ) ∧
    (∀ (a0 : Nat) (a1 : Int32) (a2 : Int32) (x0 : Int32) (x1 : Nat) (τ : St), Ru M_H_readLine d Q 35 [some (.ref a0), some (.int a1), some (.int a2), none] [.int x0, .ref x1] τ = (isA 6 x1 ∧ Cl d m_Text_takeSign [.ref x1, .int x0] τ (fun v τ' => Ru M_H_readLine d Q 38 [some (.ref a0), some (.int a1), some (.int a2), none] (v.toList ++ []) τ'))) ∧
    (∀ (a0 : Nat) (a1 : Int32) (a2 : Int32) (x0 : Int32) (τ : St), Ru M_H_readLine d Q 38 [some (.ref a0), some (.int a1), some (.int a2), none] [.int x0] τ = ((¬ x0 = 0 → Ru M_H_readLine d Q 43 [some (.ref a0), some (.int a1), some (.int a2), none] [] τ) ∧ (x0 = 0 → Ru M_H_readLine d Q 41 [some (.ref a0), some (.int a1), some (.int a2), none] [] τ))) ∧
    (∀ (a0 : Nat) (a1 : Int32) (a2 : Int32) (τ : St), Ru M_H_readLine d Q 41 [some (.ref a0), some (.int a1), some (.int a2), none] [] τ = Ru M_H_readLine d Q 42 [some (.ref a0), some (.int a1), some (.int a2), none] [.int 0] τ) ∧
    (∀ (a0 : Nat) (a1 : Int32) (a2 : Int32) (x0 : Int32) (τ : St), Ru M_H_readLine d Q 42 [some (.ref a0), some (.int a1), some (.int a2), none] [.int x0] τ = ((x0 = 0 ∨ x0 = 1) ∧ Q (some (.int x0)) τ)) ∧
    (∀ (a0 : Nat) (a1 : Int32) (a2 : Int32) (τ : St), Ru M_H_readLine d Q 43 [some (.ref a0), some (.int a1), some (.int a2), none] [] τ = Ru M_H_readLine d Q 44 [some (.ref a0), some (.int a1), some (.int a2), none] [.ref a0] τ) ∧
    (∀ (a0 : Nat) (a1 : Int32) (a2 : Int32) (x0 : Nat) (τ : St), Ru M_H_readLine d Q 44 [some (.ref a0), some (.int a1), some (.int a2), none] [.ref x0] τ = (isA 11 x0 ∧ Ru M_H_readLine d Q 47 [some (.ref a0), some (.int a1), some (.int a2), none] [.ref (rtab x0 0)] τ)) ∧
    (∀ (a0 : Nat) (a1 : Int32) (a2 : Int32) (x0 : Nat) (τ : St), Ru M_H_readLine d Q 47 [some (.ref a0), some (.int a1), some (.int a2), none] [.ref x0] τ = (isA 6 x0 ∧ Cl d m_Text_takeTwoDigits [.ref x0] τ (fun v τ' => Ru M_H_readLine d Q 50 [some (.ref a0), some (.int a1), some (.int a2), none] (v.toList ++ []) τ'))) ∧
    (∀ (a0 : Nat) (a1 : Int32) (a2 : Int32) (x0 : Int32) (τ : St), Ru M_H_readLine d Q 50 [some (.ref a0), some (.int a1), some (.int a2), none] [.int x0] τ = Ru M_H_readLine d Q 51 [some (.ref a0), some (.int a1), some (.int a2), some (.int x0)] [] τ) ∧
    (∀ (a0 : Nat) (a1 : Int32) (a2 : Int32) (a3 : Int32) (τ : St), Ru M_H_readLine d Q 51 [some (.ref a0), some (.int a1), some (.int a2), some (.int a3)] [] τ = Ru M_H_readLine d Q 52 [some (.ref a0), some (.int a1), some (.int a2), some (.int a3)] [.int a3] τ) ∧
    (∀ (a0 : Nat) (a1 : Int32) (a2 : Int32) (a3 : Int32) (x0 : Int32) (τ : St), Ru M_H_readLine d Q 52 [some (.ref a0), some (.int a1), some (.int a2), some (.int a3)] [.int x0] τ = Ru M_H_readLine d Q 53 [some (.ref a0), some (.int a1), some (.int a2), some (.int a3)] [.int (-1), .int x0] τ) ∧
    (∀ (a0 : Nat) (a1 : Int32) (a2 : Int32) (a3 : Int32) (x0 : Int32) (x1 : Int32) (τ : St), Ru M_H_readLine d Q 53 [some (.ref a0), some (.int a1), some (.int a2), some (.int a3)] [.int x0, .int x1] τ = ((¬ x1 = x0 → Ru M_H_readLine d Q 58 [some (.ref a0), some (.int a1), some (.int a2), some (.int a3)] [] τ) ∧ (x1 = x0 → Ru M_H_readLine d Q 56 [some (.ref a0), some (.int a1), some (.int a2), some (.int a3)] [] τ))) ∧
    (∀ (a0 : Nat) (a1 : Int32) (a2 : Int32) (a3 : Int32) (τ : St), Ru M_H_readLine d Q 56 [some (.ref a0), some (.int a1), some (.int a2), some (.int a3)] [] τ = Ru M_H_readLine d Q 57 [some (.ref a0), some (.int a1), some (.int a2), some (.int a3)] [.int 0] τ) ∧
    (∀ (a0 : Nat) (a1 : Int32) (a2 : Int32) (a3 : Int32) (x0 : Int32) (τ : St), Ru M_H_readLine d Q 57 [some (.ref a0), some (.int a1), some (.int a2), some (.int a3)] [.int x0] τ = ((x0 = 0 ∨ x0 = 1) ∧ Q (some (.int x0)) τ)) ∧
    (∀ (a0 : Nat) (a1 : Int32) (a2 : Int32) (a3 : Int32) (τ : St), Ru M_H_readLine d Q 58 [some (.ref a0), some (.int a1), some (.int a2), some (.int a3)] [] τ = Ru M_H_readLine d Q 59 [some (.ref a0), some (.int a1), some (.int a2), some (.int a3)] [.ref a0] τ) ∧
    (∀ (a0 : Nat) (a1 : Int32) (a2 : Int32) (a3 : Int32) (x0 : Nat) (τ : St), Ru M_H_readLine d Q 59 [some (.ref a0), some (.int a1), some (.int a2), some (.int a3)] [.ref x0] τ = (isA 11 x0 ∧ Ru M_H_readLine d Q 62 [some (.ref a0), some (.int a1), some (.int a2), some (.int a3)] [.ref (rtab x0 2)] τ)) ∧
    (∀ (a0 : Nat) (a1 : Int32) (a2 : Int32) (a3 : Int32) (x0 : Nat) (τ : St), Ru M_H_readLine d Q 62 [some (.ref a0), some (.int a1), some (.int a2), some (.int a3)] [.ref x0] τ = Ru M_H_readLine d Q 63 [some (.ref a0), some (.int a1), some (.int a2), some (.int a3)] [.int a3, .ref x0] τ) ∧
    (∀ (a0 : Nat) (a1 : Int32) (a2 : Int32) (a3 : Int32) (x0 : Int32) (x1 : Nat) (τ : St), Ru M_H_readLine d Q 63 [some (.ref a0), some (.int a1), some (.int a2), some (.int a3)] [.int x0, .ref x1] τ = (isA 0 x1 ∧ Cl d m_Ground_has [.ref x1, .int x0] τ (fun v τ' => Ru M_H_readLine d Q 66 [some (.ref a0), some (.int a1), some (.int a2), some (.int a3)] (v.toList ++ []) τ'))) ∧
    (∀ (a0 : Nat) (a1 : Int32) (a2 : Int32) (a3 : Int32) (x0 : Int32) (τ : St), Ru M_H_readLine d Q 66 [some (.ref a0), some (.int a1), some (.int a2), some (.int a3)] [.int x0] τ = ((x0 = 0 → Ru M_H_readLine d Q 81 [some (.ref a0), some (.int a1), some (.int a2), some (.int a3)] [] τ) ∧ (¬ x0 = 0 → Ru M_H_readLine d Q 69 [some (.ref a0), some (.int a1), some (.int a2), some (.int a3)] [] τ))) ∧
    (∀ (a0 : Nat) (a1 : Int32) (a2 : Int32) (a3 : Int32) (τ : St), Ru M_H_readLine d Q 69 [some (.ref a0), some (.int a1), some (.int a2), some (.int a3)] [] τ = Ru M_H_readLine d Q 70 [some (.ref a0), some (.int a1), some (.int a2), some (.int a3)] [.ref a0] τ) ∧
    (∀ (a0 : Nat) (a1 : Int32) (a2 : Int32) (a3 : Int32) (x0 : Nat) (τ : St), Ru M_H_readLine d Q 70 [some (.ref a0), some (.int a1), some (.int a2), some (.int a3)] [.ref x0] τ = (isA 11 x0 ∧ Ru M_H_readLine d Q 73 [some (.ref a0), some (.int a1), some (.int a2), some (.int a3)] [.ref (rtab x0 2)] τ)) ∧
    (∀ (a0 : Nat) (a1 : Int32) (a2 : Int32) (a3 : Int32) (x0 : Nat) (τ : St), Ru M_H_readLine d Q 73 [some (.ref a0), some (.int a1), some (.int a2), some (.int a3)] [.ref x0] τ = Ru M_H_readLine d Q 74 [some (.ref a0), some (.int a1), some (.int a2), some (.int a3)] [.int a3, .ref x0] τ) ∧
    (∀ (a0 : Nat) (a1 : Int32) (a2 : Int32) (a3 : Int32) (x0 : Int32) (x1 : Nat) (τ : St), Ru M_H_readLine d Q 74 [some (.ref a0), some (.int a1), some (.int a2), some (.int a3)] [.int x0, .ref x1] τ = (isA 0 x1 ∧ Cl d m_Ground_kindOf [.ref x1, .int x0] τ (fun v τ' => Ru M_H_readLine d Q 77 [some (.ref a0), some (.int a1), some (.int a2), some (.int a3)] (v.toList ++ []) τ'))) ∧
    (∀ (a0 : Nat) (a1 : Int32) (a2 : Int32) (a3 : Int32) (x0 : Int32) (τ : St), Ru M_H_readLine d Q 77 [some (.ref a0), some (.int a1), some (.int a2), some (.int a3)] [.int x0] τ = Ru M_H_readLine d Q 78 [some (.ref a0), some (.int a1), some (.int a2), some (.int a3)] [.int 1, .int x0] τ) ∧
    (∀ (a0 : Nat) (a1 : Int32) (a2 : Int32) (a3 : Int32) (x0 : Int32) (x1 : Int32) (τ : St), Ru M_H_readLine d Q 78 [some (.ref a0), some (.int a1), some (.int a2), some (.int a3)] [.int x0, .int x1] τ = ((x1 = x0 → Ru M_H_readLine d Q 90 [some (.ref a0), some (.int a1), some (.int a2), some (.int a3)] [] τ) ∧ (¬ x1 = x0 → Ru M_H_readLine d Q 81 [some (.ref a0), some (.int a1), some (.int a2), some (.int a3)] [] τ))) ∧
    (∀ (a0 : Nat) (a1 : Int32) (a2 : Int32) (a3 : Int32) (τ : St), Ru M_H_readLine d Q 81 [some (.ref a0), some (.int a1), some (.int a2), some (.int a3)] [] τ = Ru M_H_readLine d Q 82 [some (.ref a0), some (.int a1), some (.int a2), some (.int a3)] [.ref a0] τ) ∧
    (∀ (a0 : Nat) (a1 : Int32) (a2 : Int32) (a3 : Int32) (x0 : Nat) (τ : St), Ru M_H_readLine d Q 82 [some (.ref a0), some (.int a1), some (.int a2), some (.int a3)] [.ref x0] τ = (isA 11 x0 ∧ Ru M_H_readLine d Q 85 [some (.ref a0), some (.int a1), some (.int a2), some (.int a3)] [.ref (rtab x0 0)] τ)) ∧
    (∀ (a0 : Nat) (a1 : Int32) (a2 : Int32) (a3 : Int32) (x0 : Nat) (τ : St), Ru M_H_readLine d Q 85 [some (.ref a0), some (.int a1), some (.int a2), some (.int a3)] [.ref x0] τ = (isA 6 x0 ∧ Cl d m_Text_back [.ref x0] τ (fun v τ' => Ru M_H_readLine d Q 88 [some (.ref a0), some (.int a1), some (.int a2), some (.int a3)] (v.toList ++ []) τ'))) ∧
    (∀ (a0 : Nat) (a1 : Int32) (a2 : Int32) (a3 : Int32) (τ : St), Ru M_H_readLine d Q 88 [some (.ref a0), some (.int a1), some (.int a2), some (.int a3)] [] τ = Ru M_H_readLine d Q 89 [some (.ref a0), some (.int a1), some (.int a2), some (.int a3)] [.int 0] τ) ∧
    (∀ (a0 : Nat) (a1 : Int32) (a2 : Int32) (a3 : Int32) (x0 : Int32) (τ : St), Ru M_H_readLine d Q 89 [some (.ref a0), some (.int a1), some (.int a2), some (.int a3)] [.int x0] τ = ((x0 = 0 ∨ x0 = 1) ∧ Q (some (.int x0)) τ)) ∧
    (∀ (a0 : Nat) (a1 : Int32) (a2 : Int32) (a3 : Int32) (τ : St), Ru M_H_readLine d Q 90 [some (.ref a0), some (.int a1), some (.int a2), some (.int a3)] [] τ = Ru M_H_readLine d Q 91 [some (.ref a0), some (.int a1), some (.int a2), some (.int a3)] [.ref a0] τ) ∧
    (∀ (a0 : Nat) (a1 : Int32) (a2 : Int32) (a3 : Int32) (x0 : Nat) (τ : St), Ru M_H_readLine d Q 91 [some (.ref a0), some (.int a1), some (.int a2), some (.int a3)] [.ref x0] τ = (isA 11 x0 ∧ Ru M_H_readLine d Q 94 [some (.ref a0), some (.int a1), some (.int a2), some (.int a3)] [.ref (rtab x0 7)] τ)) ∧
    (∀ (a0 : Nat) (a1 : Int32) (a2 : Int32) (a3 : Int32) (x0 : Nat) (τ : St), Ru M_H_readLine d Q 94 [some (.ref a0), some (.int a1), some (.int a2), some (.int a3)] [.ref x0] τ = Ru M_H_readLine d Q 95 [some (.ref a0), some (.int a1), some (.int a2), some (.int a3)] [.int a1, .ref x0] τ) ∧
    (∀ (a0 : Nat) (a1 : Int32) (a2 : Int32) (a3 : Int32) (x0 : Int32) (x1 : Nat) (τ : St), Ru M_H_readLine d Q 95 [some (.ref a0), some (.int a1), some (.int a2), some (.int a3)] [.int x0, .ref x1] τ = Ru M_H_readLine d Q 96 [some (.ref a0), some (.int a1), some (.int a2), some (.int a3)] [.int a2, .int x0, .ref x1] τ) ∧
    (∀ (a0 : Nat) (a1 : Int32) (a2 : Int32) (a3 : Int32) (x0 : Int32) (x1 : Int32) (x2 : Nat) (τ : St), Ru M_H_readLine d Q 96 [some (.ref a0), some (.int a1), some (.int a2), some (.int a3)] [.int x0, .int x1, .ref x2] τ = (isA 14 x2 ∧ vp_in x1 (len x2) ∧ Ru M_H_readLine d Q 97 [some (.ref a0), some (.int a1), some (.int a2), some (.int a3)] [] (sI τ x2 x1.toNatClampNeg (x0)))) ∧
    (∀ (a0 : Nat) (a1 : Int32) (a2 : Int32) (a3 : Int32) (τ : St), Ru M_H_readLine d Q 97 [some (.ref a0), some (.int a1), some (.int a2), some (.int a3)] [] τ = Ru M_H_readLine d Q 98 [some (.ref a0), some (.int a1), some (.int a2), some (.int a3)] [.ref a0] τ) ∧
    (∀ (a0 : Nat) (a1 : Int32) (a2 : Int32) (a3 : Int32) (x0 : Nat) (τ : St), Ru M_H_readLine d Q 98 [some (.ref a0), some (.int a1), some (.int a2), some (.int a3)] [.ref x0] τ = (isA 11 x0 ∧ Ru M_H_readLine d Q 101 [some (.ref a0), some (.int a1), some (.int a2), some (.int a3)] [.ref (rtab x0 3)] τ)) ∧
    (∀ (a0 : Nat) (a1 : Int32) (a2 : Int32) (a3 : Int32) (x0 : Nat) (τ : St), Ru M_H_readLine d Q 101 [some (.ref a0), some (.int a1), some (.int a2), some (.int a3)] [.ref x0] τ = Ru M_H_readLine d Q 102 [some (.ref a0), some (.int a1), some (.int a2), some (.int a3)] [.int a1, .ref x0] τ) ∧
    (∀ (a0 : Nat) (a1 : Int32) (a2 : Int32) (a3 : Int32) (x0 : Int32) (x1 : Nat) (τ : St), Ru M_H_readLine d Q 102 [some (.ref a0), some (.int a1), some (.int a2), some (.int a3)] [.int x0, .ref x1] τ = Ru M_H_readLine d Q 103 [some (.ref a0), some (.int a1), some (.int a2), some (.int a3)] [.int a3, .int x0, .ref x1] τ) ∧
    (∀ (a0 : Nat) (a1 : Int32) (a2 : Int32) (a3 : Int32) (x0 : Int32) (x1 : Int32) (x2 : Nat) (τ : St), Ru M_H_readLine d Q 103 [some (.ref a0), some (.int a1), some (.int a2), some (.int a3)] [.int x0, .int x1, .ref x2] τ = (isA 1 x2 ∧ Cl d m_Moment_put [.ref x2, .int x1, .int x0] τ (fun v τ' => Ru M_H_readLine d Q 106 [some (.ref a0), some (.int a1), some (.int a2), some (.int a3)] (v.toList ++ []) τ'))) ∧
    (∀ (a0 : Nat) (a1 : Int32) (a2 : Int32) (a3 : Int32) (τ : St), Ru M_H_readLine d Q 106 [some (.ref a0), some (.int a1), some (.int a2), some (.int a3)] [] τ = Ru M_H_readLine d Q 107 [some (.ref a0), some (.int a1), some (.int a2), some (.int a3)] [.int 1] τ) ∧
    (∀ (a0 : Nat) (a1 : Int32) (a2 : Int32) (a3 : Int32) (x0 : Int32) (τ : St), Ru M_H_readLine d Q 107 [some (.ref a0), some (.int a1), some (.int a2), some (.int a3)] [.int x0] τ = ((x0 = 0 ∨ x0 = 1) ∧ Q (some (.int x0)) τ)) := ⟨
  fun _ _ _ => (R_at ok_H_readLine rfl).trans (e_ald rfl),
  fun _ _ _ _ => (R_at ok_H_readLine rfl).trans e_gR,
  fun _ _ _ _ => (R_at ok_H_readLine rfl).trans e_push,
  fun _ _ x0 _ _ => (R_at ok_H_readLine rfl).trans (e_cv [.int x0] rfl rfl rfl),
  fun _ _ _ _ => (R_at ok_H_readLine rfl).trans e_ist,
  fun _ _ _ _ => (R_at ok_H_readLine rfl).trans (e_ild rfl),
  fun _ _ _ _ _ => (R_at ok_H_readLine rfl).trans e_push,
  fun _ _ _ _ _ _ => (R_at ok_H_readLine rfl).trans e_icn,
  fun _ _ _ _ => (R_at ok_H_readLine rfl).trans e_push,
  fun _ _ _ _ _ => (R_at ok_H_readLine rfl).trans e_zret,
  fun _ _ _ _ => (R_at ok_H_readLine rfl).trans (e_ild rfl),
  fun _ _ _ _ _ => (R_at ok_H_readLine rfl).trans e_ifn,
  fun _ _ _ _ => (R_at ok_H_readLine rfl).trans (e_ald rfl),
  fun _ _ _ _ _ => (R_at ok_H_readLine rfl).trans e_gR,
  fun _ _ _ _ _ => (R_at ok_H_readLine rfl).trans (e_cv [] rfl rfl rfl),
  fun _ _ _ _ => (R_at ok_H_readLine rfl).trans e_push,
  fun _ _ _ _ _ => (R_at ok_H_readLine rfl).trans e_zret,
  fun _ _ _ _ => (R_at ok_H_readLine rfl).trans (e_ald rfl),
  fun _ _ _ _ _ => (R_at ok_H_readLine rfl).trans e_gR,
  fun _ _ _ _ _ => (R_at ok_H_readLine rfl).trans e_push,
  fun _ _ _ x0 _ _ => (R_at ok_H_readLine rfl).trans (e_cv [.int x0] rfl rfl rfl),
  fun _ _ _ _ _ => (R_at ok_H_readLine rfl).trans e_ifn,
  fun _ _ _ _ => (R_at ok_H_readLine rfl).trans e_push,
  fun _ _ _ _ _ => (R_at ok_H_readLine rfl).trans e_zret,
  fun _ _ _ _ => (R_at ok_H_readLine rfl).trans (e_ald rfl),
  fun _ _ _ _ _ => (R_at ok_H_readLine rfl).trans e_gR,
  fun _ _ _ _ _ => (R_at ok_H_readLine rfl).trans (e_cv [] rfl rfl rfl),
  fun _ _ _ _ _ => (R_at ok_H_readLine rfl).trans e_ist,
  fun _ _ _ _ _ => (R_at ok_H_readLine rfl).trans (e_ild rfl),
  fun _ _ _ _ _ _ => (R_at ok_H_readLine rfl).trans e_push,
  fun _ _ _ _ _ _ _ => (R_at ok_H_readLine rfl).trans e_icn,
  fun _ _ _ _ _ => (R_at ok_H_readLine rfl).trans e_push,
  fun _ _ _ _ _ _ => (R_at ok_H_readLine rfl).trans e_zret,
  fun _ _ _ _ _ => (R_at ok_H_readLine rfl).trans (e_ald rfl),
  fun _ _ _ _ _ _ => (R_at ok_H_readLine rfl).trans e_gR,
  fun _ _ _ _ _ _ => (R_at ok_H_readLine rfl).trans (e_ild rfl),
  fun _ _ _ _ x0 _ _ => (R_at ok_H_readLine rfl).trans (e_cv [.int x0] rfl rfl rfl),
  fun _ _ _ _ _ _ => (R_at ok_H_readLine rfl).trans e_if,
  fun _ _ _ _ _ => (R_at ok_H_readLine rfl).trans (e_ald rfl),
  fun _ _ _ _ _ _ => (R_at ok_H_readLine rfl).trans e_gR,
  fun _ _ _ _ _ _ => (R_at ok_H_readLine rfl).trans (e_ild rfl),
  fun _ _ _ _ x0 _ _ => (R_at ok_H_readLine rfl).trans (e_cv [.int x0] rfl rfl rfl),
  fun _ _ _ _ _ _ => (R_at ok_H_readLine rfl).trans e_push,
  fun _ _ _ _ _ _ _ => (R_at ok_H_readLine rfl).trans e_ic,
  fun _ _ _ _ _ => (R_at ok_H_readLine rfl).trans (e_ald rfl),
  fun _ _ _ _ _ _ => (R_at ok_H_readLine rfl).trans e_gR,
  fun _ _ _ _ _ _ => (R_at ok_H_readLine rfl).trans (e_cv [] rfl rfl rfl),
  fun _ _ _ _ _ => (R_at ok_H_readLine rfl).trans e_push,
  fun _ _ _ _ _ _ => (R_at ok_H_readLine rfl).trans e_zret,
  fun _ _ _ _ _ => (R_at ok_H_readLine rfl).trans (e_ald rfl),
  fun _ _ _ _ _ _ => (R_at ok_H_readLine rfl).trans e_gR,
  fun _ _ _ _ _ _ => (R_at ok_H_readLine rfl).trans (e_ild rfl),
  fun _ _ _ _ _ _ _ => (R_at ok_H_readLine rfl).trans (e_ild rfl),
  fun _ _ _ _ _ _ _ _ => (R_at ok_H_readLine rfl).trans e_as,
  fun _ _ _ _ _ => (R_at ok_H_readLine rfl).trans (e_ald rfl),
  fun _ _ _ _ _ _ => (R_at ok_H_readLine rfl).trans e_gR,
  fun _ _ _ _ _ _ => (R_at ok_H_readLine rfl).trans (e_ild rfl),
  fun _ _ _ _ _ _ _ => (R_at ok_H_readLine rfl).trans (e_ild rfl),
  fun _ _ _ _ x0 x1 _ _ => (R_at ok_H_readLine rfl).trans (e_cv [.int x1, .int x0] rfl rfl rfl),
  fun _ _ _ _ _ => (R_at ok_H_readLine rfl).trans e_push,
  fun _ _ _ _ _ _ => (R_at ok_H_readLine rfl).trans e_zret⟩
set_option maxHeartbeats 4000000 in
theorem N_H_rule (d : Nat) (Q : Qt) : ∀ (x0 : Nat) (τ : St), Cl (d + 1) m_H_rule [.ref x0] τ Q = Ru M_H_rule d Q 0 [some (.ref x0), none, none] [] τ := fun _ _ => propext ⟨fun h => h.2, fun h => ⟨Nat.le_of_ble_eq_true rfl, h⟩⟩
set_option maxHeartbeats 4000000 in
theorem E_H_rule (d : Nat) (Q : Qt) :
    (∀ (a0 : Nat) (τ : St), Ru M_H_rule d Q 0 [some (.ref a0), none, none] [] τ = Ru M_H_rule d Q 1 [some (.ref a0), none, none] [.ref a0] τ) ∧
    (∀ (a0 : Nat) (x0 : Nat) (τ : St), Ru M_H_rule d Q 1 [some (.ref a0), none, none] [.ref x0] τ = (isA 11 x0 ∧ Ru M_H_rule d Q 4 [some (.ref a0), none, none] [.ref (rtab x0 11)] τ)) ∧
    (∀ (a0 : Nat) (x0 : Nat) (τ : St), Ru M_H_rule d Q 4 [some (.ref a0), none, none] [.ref x0] τ = Ru M_H_rule d Q 5 [some (.ref a0), none, none] [.ref a0, .ref x0] τ) ∧
    (∀ (a0 : Nat) (x0 : Nat) (x1 : Nat) (τ : St), Ru M_H_rule d Q 5 [some (.ref a0), none, none] [.ref x0, .ref x1] τ = (isA 11 x0 ∧ Ru M_H_rule d Q 8 [some (.ref a0), none, none] [.ref (rtab x0 0), .ref x1] τ)) ∧
    (∀ (a0 : Nat) (x0 : Nat) (x1 : Nat) (τ : St), Ru M_H_rule d Q 8 [some (.ref a0), none, none] [.ref x0, .ref x1] τ = (isA 5 x1 ∧ Cl d m_Rule_read [.ref x1, .ref x0] τ (fun v τ' => Ru M_H_rule d Q 11 [some (.ref a0), none, none] (v.toList ++ []) τ'))) ∧
    (∀ (a0 : Nat) (x0 : Int32) (τ : St), Ru M_H_rule d Q 11 [some (.ref a0), none, none] [.int x0] τ = Ru M_H_rule d Q 12 [some (.ref a0), some (.int x0), none] [] τ) ∧
    (∀ (a0 : Nat) (a1 : Int32) (τ : St), Ru M_H_rule d Q 12 [some (.ref a0), some (.int a1), none] [] τ = Ru M_H_rule d Q 13 [some (.ref a0), some (.int a1), none] [.int (-1)] τ) ∧
    (∀ (a0 : Nat) (a1 : Int32) (x0 : Int32) (τ : St), Ru M_H_rule d Q 13 [some (.ref a0), some (.int a1), none] [.int x0] τ = Ru M_H_rule d Q 14 [some (.ref a0), some (.int a1), none] [.ref a0, .int x0] τ) ∧
    (∀ (a0 : Nat) (a1 : Int32) (x0 : Nat) (x1 : Int32) (τ : St), Ru M_H_rule d Q 14 [some (.ref a0), some (.int a1), none] [.ref x0, .int x1] τ = (isA 11 x0 ∧ Ru M_H_rule d Q 17 [some (.ref a0), some (.int a1), none] [.ref (rtab x0 0), .int x1] τ)) ∧
    (∀ (a0 : Nat) (a1 : Int32) (x0 : Nat) (x1 : Int32) (τ : St), Ru M_H_rule d Q 17 [some (.ref a0), some (.int a1), none] [.ref x0, .int x1] τ = (isA 6 x0 ∧ Ru M_H_rule d Q 20 [some (.ref a0), some (.int a1), none] [.int (τ.1 x0 2), .int x1] τ)) ∧
    (∀ (a0 : Nat) (a1 : Int32) (x0 : Int32) (x1 : Int32) (τ : St), Ru M_H_rule d Q 20 [some (.ref a0), some (.int a1), none] [.int x0, .int x1] τ = Ru M_H_rule d Q 21 [some (.ref a0), some (.int a1), none] [.int (x1 - x0)] τ) ∧
    (∀ (a0 : Nat) (a1 : Int32) (x0 : Int32) (τ : St), Ru M_H_rule d Q 21 [some (.ref a0), some (.int a1), none] [.int x0] τ = Ru M_H_rule d Q 22 [some (.ref a0), some (.int a1), some (.int x0)] [] τ) ∧
    (∀ (a0 : Nat) (a1 : Int32) (a2 : Int32) (τ : St), Ru M_H_rule d Q 22 [some (.ref a0), some (.int a1), some (.int a2)] [] τ = Ru M_H_rule d Q 23 [some (.ref a0), some (.int a1), some (.int a2)] [.int a1] τ) ∧
    (∀ (a0 : Nat) (a1 : Int32) (a2 : Int32) (x0 : Int32) (τ : St), Ru M_H_rule d Q 23 [some (.ref a0), some (.int a1), some (.int a2)] [.int x0] τ = ((x0 = 0 → Ru M_H_rule d Q 39 [some (.ref a0), some (.int a1), some (.int a2)] [] τ) ∧ (¬ x0 = 0 → Ru M_H_rule d Q 26 [some (.ref a0), some (.int a1), some (.int a2)] [] τ))) ∧
    (∀ (a0 : Nat) (a1 : Int32) (a2 : Int32) (τ : St), Ru M_H_rule d Q 26 [some (.ref a0), some (.int a1), some (.int a2)] [] τ = Ru M_H_rule d Q 27 [some (.ref a0), some (.int a1), some (.int a2)] [.ref a0] τ) ∧
    (∀ (a0 : Nat) (a1 : Int32) (a2 : Int32) (x0 : Nat) (τ : St), Ru M_H_rule d Q 27 [some (.ref a0), some (.int a1), some (.int a2)] [.ref x0] τ = (isA 11 x0 ∧ Ru M_H_rule d Q 30 [some (.ref a0), some (.int a1), some (.int a2)] [.ref (rtab x0 10)] τ)) ∧
    (∀ (a0 : Nat) (a1 : Int32) (a2 : Int32) (x0 : Nat) (τ : St), Ru M_H_rule d Q 30 [some (.ref a0), some (.int a1), some (.int a2)] [.ref x0] τ = Ru M_H_rule d Q 31 [some (.ref a0), some (.int a1), some (.int a2)] [.ref a0, .ref x0] τ) ∧
    (∀ (a0 : Nat) (a1 : Int32) (a2 : Int32) (x0 : Nat) (x1 : Nat) (τ : St), Ru M_H_rule d Q 31 [some (.ref a0), some (.int a1), some (.int a2)] [.ref x0, .ref x1] τ = (isA 11 x0 ∧ Ru M_H_rule d Q 34 [some (.ref a0), some (.int a1), some (.int a2)] [.ref (rtab x0 11), .ref x1] τ)) ∧
    (∀ (a0 : Nat) (a1 : Int32) (a2 : Int32) (x0 : Nat) (x1 : Nat) (τ : St), Ru M_H_rule d Q 34 [some (.ref a0), some (.int a1), some (.int a2)] [.ref x0, .ref x1] τ = (isA 5 x1 ∧ Cl d m_Rule_copy [.ref x1, .ref x0] τ (fun v τ' => Ru M_H_rule d Q 37 [some (.ref a0), some (.int a1), some (.int a2)] (v.toList ++ []) τ'))) ∧
    (∀ (a0 : Nat) (a1 : Int32) (a2 : Int32) (τ : St), Ru M_H_rule d Q 37 [some (.ref a0), some (.int a1), some (.int a2)] [] τ = Ru M_H_rule d Q 38 [some (.ref a0), some (.int a1), some (.int a2)] [.int 0] τ) ∧
    (∀ (a0 : Nat) (a1 : Int32) (a2 : Int32) (x0 : Int32) (τ : St), Ru M_H_rule d Q 38 [some (.ref a0), some (.int a1), some (.int a2)] [.int x0] τ = Ru M_H_rule d Q 39 [some (.ref a0), some (.int a1), some (.int x0)] [] τ) ∧
    (∀ (a0 : Nat) (a1 : Int32) (a2 : Int32) (τ : St), Ru M_H_rule d Q 39 [some (.ref a0), some (.int a1), some (.int a2)] [] τ = Ru M_H_rule d Q 40 [some (.ref a0), some (.int a1), some (.int a2)] [.ref a0] τ) ∧
    (∀ (a0 : Nat) (a1 : Int32) (a2 : Int32) (x0 : Nat) (τ : St), Ru M_H_rule d Q 40 [some (.ref a0), some (.int a1), some (.int a2)] [.ref x0] τ = (isA 11 x0 ∧ Ru M_H_rule d Q 43 [some (.ref a0), some (.int a1), some (.int a2)] [.ref (rtab x0 0)] τ)) ∧
    (∀ (a0 : Nat) (a1 : Int32) (a2 : Int32) (x0 : Nat) (τ : St), Ru M_H_rule d Q 43 [some (.ref a0), some (.int a1), some (.int a2)] [.ref x0] τ = (isA 6 x0 ∧ Cl d m_Text_empty [.ref x0] τ (fun v τ' => Ru M_H_rule d Q 46 [some (.ref a0), some (.int a1), some (.int a2)] (v.toList ++ []) τ'))) ∧
    (∀ (a0 : Nat) (a1 : Int32) (a2 : Int32) (τ : St), Ru M_H_rule d Q 46 [some (.ref a0), some (.int a1), some (.int a2)] [] τ = Ru M_H_rule d Q 47 [some (.ref a0), some (.int a1), some (.int a2)] [.int a2] τ) ∧
    (∀ (a0 : Nat) (a1 : Int32) (a2 : Int32) (x0 : Int32) (τ : St), Ru M_H_rule d Q 47 [some (.ref a0), some (.int a1), some (.int a2)] [.int x0] τ = Q (some (.int x0)) τ) := ⟨
  fun _ _ => (R_at ok_H_rule rfl).trans (e_ald rfl),
  fun _ _ _ => (R_at ok_H_rule rfl).trans e_gR,
  fun _ _ _ => (R_at ok_H_rule rfl).trans (e_ald rfl),
  fun _ _ _ _ => (R_at ok_H_rule rfl).trans e_gR,
  fun _ x0 _ _ => (R_at ok_H_rule rfl).trans (e_cv [.ref x0] rfl rfl rfl),
  fun _ _ _ => (R_at ok_H_rule rfl).trans e_ist,
  fun _ _ _ => (R_at ok_H_rule rfl).trans e_push,
  fun _ _ _ _ => (R_at ok_H_rule rfl).trans (e_ald rfl),
  fun _ _ _ _ _ => (R_at ok_H_rule rfl).trans e_gR,
  fun _ _ _ _ _ => (R_at ok_H_rule rfl).trans e_gI,
  fun _ _ _ _ _ => (R_at ok_H_rule rfl).trans e_bin,
  fun _ _ _ _ => (R_at ok_H_rule rfl).trans e_ist,
  fun _ _ _ _ => (R_at ok_H_rule rfl).trans (e_ild rfl),
  fun _ _ _ _ _ => (R_at ok_H_rule rfl).trans e_if,
  fun _ _ _ _ => (R_at ok_H_rule rfl).trans (e_ald rfl),
  fun _ _ _ _ _ => (R_at ok_H_rule rfl).trans e_gR,
  fun _ _ _ _ _ => (R_at ok_H_rule rfl).trans (e_ald rfl),
  fun _ _ _ _ _ _ => (R_at ok_H_rule rfl).trans e_gR,
  fun _ _ _ x0 _ _ => (R_at ok_H_rule rfl).trans (e_cv [.ref x0] rfl rfl rfl),
  fun _ _ _ _ => (R_at ok_H_rule rfl).trans e_push,
  fun _ _ _ _ _ => (R_at ok_H_rule rfl).trans e_ist,
  fun _ _ _ _ => (R_at ok_H_rule rfl).trans (e_ald rfl),
  fun _ _ _ _ _ => (R_at ok_H_rule rfl).trans e_gR,
  fun _ _ _ _ _ => (R_at ok_H_rule rfl).trans (e_cv [] rfl rfl rfl),
  fun _ _ _ _ => (R_at ok_H_rule rfl).trans (e_ild rfl),
  fun _ _ _ _ _ => (R_at ok_H_rule rfl).trans e_iret⟩
set_option maxHeartbeats 4000000 in
theorem N_H_field (d : Nat) (Q : Qt) : ∀ (x0 : Nat) (x1 : Int32) (x2 : Int32) (τ : St), Cl (d + 1) m_H_field [.ref x0, .int x1, .int x2] τ Q = Ru M_H_field d Q 0 [some (.ref x0), some (.int x1), some (.int x2)] [] τ := fun _ _ _ _ => propext ⟨fun h => h.2, fun h => ⟨Nat.le_of_ble_eq_true rfl, h⟩⟩
set_option maxHeartbeats 4000000 in
theorem E_H_field (d : Nat) (Q : Qt) :
    (∀ (a0 : Nat) (a1 : Int32) (a2 : Int32) (τ : St), Ru M_H_field d Q 0 [some (.ref a0), some (.int a1), some (.int a2)] [] τ = Ru M_H_field d Q 1 [some (.ref a0), some (.int a1), some (.int a2)] [.ref a0] τ) ∧
    (∀ (a0 : Nat) (a1 : Int32) (a2 : Int32) (x0 : Nat) (τ : St), Ru M_H_field d Q 1 [some (.ref a0), some (.int a1), some (.int a2)] [.ref x0] τ = (isA 11 x0 ∧ Ru M_H_field d Q 4 [some (.ref a0), some (.int a1), some (.int a2)] [.ref (rtab x0 2)] τ)) ∧
    (∀ (a0 : Nat) (a1 : Int32) (a2 : Int32) (x0 : Nat) (τ : St), Ru M_H_field d Q 4 [some (.ref a0), some (.int a1), some (.int a2)] [.ref x0] τ = Ru M_H_field d Q 5 [some (.ref a0), some (.int a1), some (.int a2)] [.int a1, .ref x0] τ) ∧
    (∀ (a0 : Nat) (a1 : Int32) (a2 : Int32) (x0 : Int32) (x1 : Nat) (τ : St), Ru M_H_field d Q 5 [some (.ref a0), some (.int a1), some (.int a2)] [.int x0, .ref x1] τ = (isA 0 x1 ∧ Cl d m_Ground_has [.ref x1, .int x0] τ (fun v τ' => Ru M_H_field d Q 8 [some (.ref a0), some (.int a1), some (.int a2)] (v.toList ++ []) τ'))) ∧
    (∀ (a0 : Nat) (a1 : Int32) (a2 : Int32) (x0 : Int32) (τ : St), Ru M_H_field d Q 8 [some (.ref a0), some (.int a1), some (.int a2)] [.int x0] τ = ((¬ x0 = 0 → Ru M_H_field d Q 21 [some (.ref a0), some (.int a1), some (.int a2)] [] τ) ∧ (x0 = 0 → Ru M_H_field d Q 11 [some (.ref a0), some (.int a1), some (.int a2)] [] τ))) ∧
    (∀ (a0 : Nat) (a1 : Int32) (a2 : Int32) (τ : St), Ru M_H_field d Q 11 [some (.ref a0), some (.int a1), some (.int a2)] [] τ = False) ∧
    (∀ (a0 : Nat) (a1 : Int32) (a2 : Int32) (τ : St), Ru M_H_field d Q 21 [some (.ref a0), some (.int a1), some (.int a2)] [] τ = Ru M_H_field d Q 22 [some (.ref a0), some (.int a1), some (.int a2)] [.int a2] τ) ∧
    (∀ (a0 : Nat) (a1 : Int32) (a2 : Int32) (x0 : Int32) (τ : St), Ru M_H_field d Q 22 [some (.ref a0), some (.int a1), some (.int a2)] [.int x0] τ = ((∀ q ∈ ([(0, 52), (1, 61), (2, 70), (3, 79)] : List (Int32 × Nat)), x0 = q.1 → Ru M_H_field d Q q.2 [some (.ref a0), some (.int a1), some (.int a2)] [] τ) ∧ ((∀ q ∈ ([(0, 52), (1, 61), (2, 70), (3, 79)] : List (Int32 × Nat)), ¬ x0 = q.1) → Ru M_H_field d Q 88 [some (.ref a0), some (.int a1), some (.int a2)] [] τ))) ∧
    (∀ (a0 : Nat) (a1 : Int32) (a2 : Int32) (τ : St), Ru M_H_field d Q 52 [some (.ref a0), some (.int a1), some (.int a2)] [] τ = Ru M_H_field d Q 53 [some (.ref a0), some (.int a1), some (.int a2)] [.ref a0] τ) ∧
    (∀ (a0 : Nat) (a1 : Int32) (a2 : Int32) (x0 : Nat) (τ : St), Ru M_H_field d Q 53 [some (.ref a0), some (.int a1), some (.int a2)] [.ref x0] τ = (isA 11 x0 ∧ Ru M_H_field d Q 56 [some (.ref a0), some (.int a1), some (.int a2)] [.ref (rtab x0 2)] τ)) ∧
    (∀ (a0 : Nat) (a1 : Int32) (a2 : Int32) (x0 : Nat) (τ : St), Ru M_H_field d Q 56 [some (.ref a0), some (.int a1), some (.int a2)] [.ref x0] τ = Ru M_H_field d Q 57 [some (.ref a0), some (.int a1), some (.int a2)] [.int a1, .ref x0] τ) ∧
    (∀ (a0 : Nat) (a1 : Int32) (a2 : Int32) (x0 : Int32) (x1 : Nat) (τ : St), Ru M_H_field d Q 57 [some (.ref a0), some (.int a1), some (.int a2)] [.int x0, .ref x1] τ = (isA 0 x1 ∧ Cl d m_Ground_kindOf [.ref x1, .int x0] τ (fun v τ' => Ru M_H_field d Q 60 [some (.ref a0), some (.int a1), some (.int a2)] (v.toList ++ []) τ'))) ∧
    (∀ (a0 : Nat) (a1 : Int32) (a2 : Int32) (x0 : Int32) (τ : St), Ru M_H_field d Q 60 [some (.ref a0), some (.int a1), some (.int a2)] [.int x0] τ = Q (some (.int x0)) τ) ∧
    (∀ (a0 : Nat) (a1 : Int32) (a2 : Int32) (τ : St), Ru M_H_field d Q 61 [some (.ref a0), some (.int a1), some (.int a2)] [] τ = Ru M_H_field d Q 62 [some (.ref a0), some (.int a1), some (.int a2)] [.ref a0] τ) ∧
    (∀ (a0 : Nat) (a1 : Int32) (a2 : Int32) (x0 : Nat) (τ : St), Ru M_H_field d Q 62 [some (.ref a0), some (.int a1), some (.int a2)] [.ref x0] τ = (isA 11 x0 ∧ Ru M_H_field d Q 65 [some (.ref a0), some (.int a1), some (.int a2)] [.ref (rtab x0 2)] τ)) ∧
    (∀ (a0 : Nat) (a1 : Int32) (a2 : Int32) (x0 : Nat) (τ : St), Ru M_H_field d Q 65 [some (.ref a0), some (.int a1), some (.int a2)] [.ref x0] τ = Ru M_H_field d Q 66 [some (.ref a0), some (.int a1), some (.int a2)] [.int a1, .ref x0] τ) ∧
    (∀ (a0 : Nat) (a1 : Int32) (a2 : Int32) (x0 : Int32) (x1 : Nat) (τ : St), Ru M_H_field d Q 66 [some (.ref a0), some (.int a1), some (.int a2)] [.int x0, .ref x1] τ = (isA 0 x1 ∧ Cl d m_Ground_heightOf [.ref x1, .int x0] τ (fun v τ' => Ru M_H_field d Q 69 [some (.ref a0), some (.int a1), some (.int a2)] (v.toList ++ []) τ'))) ∧
    (∀ (a0 : Nat) (a1 : Int32) (a2 : Int32) (x0 : Int32) (τ : St), Ru M_H_field d Q 69 [some (.ref a0), some (.int a1), some (.int a2)] [.int x0] τ = Q (some (.int x0)) τ) ∧
    (∀ (a0 : Nat) (a1 : Int32) (a2 : Int32) (τ : St), Ru M_H_field d Q 70 [some (.ref a0), some (.int a1), some (.int a2)] [] τ = Ru M_H_field d Q 71 [some (.ref a0), some (.int a1), some (.int a2)] [.ref a0] τ) ∧
    (∀ (a0 : Nat) (a1 : Int32) (a2 : Int32) (x0 : Nat) (τ : St), Ru M_H_field d Q 71 [some (.ref a0), some (.int a1), some (.int a2)] [.ref x0] τ = (isA 11 x0 ∧ Ru M_H_field d Q 74 [some (.ref a0), some (.int a1), some (.int a2)] [.ref (rtab x0 3)] τ)) ∧
    (∀ (a0 : Nat) (a1 : Int32) (a2 : Int32) (x0 : Nat) (τ : St), Ru M_H_field d Q 74 [some (.ref a0), some (.int a1), some (.int a2)] [.ref x0] τ = Ru M_H_field d Q 75 [some (.ref a0), some (.int a1), some (.int a2)] [.int a1, .ref x0] τ) ∧
    (∀ (a0 : Nat) (a1 : Int32) (a2 : Int32) (x0 : Int32) (x1 : Nat) (τ : St), Ru M_H_field d Q 75 [some (.ref a0), some (.int a1), some (.int a2)] [.int x0, .ref x1] τ = (isA 1 x1 ∧ Cl d m_Moment_planksAt [.ref x1, .int x0] τ (fun v τ' => Ru M_H_field d Q 78 [some (.ref a0), some (.int a1), some (.int a2)] (v.toList ++ []) τ'))) ∧
    (∀ (a0 : Nat) (a1 : Int32) (a2 : Int32) (x0 : Int32) (τ : St), Ru M_H_field d Q 78 [some (.ref a0), some (.int a1), some (.int a2)] [.int x0] τ = Q (some (.int x0)) τ) ∧
    (∀ (a0 : Nat) (a1 : Int32) (a2 : Int32) (τ : St), Ru M_H_field d Q 79 [some (.ref a0), some (.int a1), some (.int a2)] [] τ = Ru M_H_field d Q 80 [some (.ref a0), some (.int a1), some (.int a2)] [.ref a0] τ) ∧
    (∀ (a0 : Nat) (a1 : Int32) (a2 : Int32) (x0 : Nat) (τ : St), Ru M_H_field d Q 80 [some (.ref a0), some (.int a1), some (.int a2)] [.ref x0] τ = (isA 11 x0 ∧ Ru M_H_field d Q 83 [some (.ref a0), some (.int a1), some (.int a2)] [.ref (rtab x0 3)] τ)) ∧
    (∀ (a0 : Nat) (a1 : Int32) (a2 : Int32) (x0 : Nat) (τ : St), Ru M_H_field d Q 83 [some (.ref a0), some (.int a1), some (.int a2)] [.ref x0] τ = Ru M_H_field d Q 84 [some (.ref a0), some (.int a1), some (.int a2)] [.int a1, .ref x0] τ) ∧
    (∀ (a0 : Nat) (a1 : Int32) (a2 : Int32) (x0 : Int32) (x1 : Nat) (τ : St), Ru M_H_field d Q 84 [some (.ref a0), some (.int a1), some (.int a2)] [.int x0, .ref x1] τ = (isA 1 x1 ∧ Cl d m_Moment_shipsAt [.ref x1, .int x0] τ (fun v τ' => Ru M_H_field d Q 87 [some (.ref a0), some (.int a1), some (.int a2)] (v.toList ++ []) τ'))) ∧
    (∀ (a0 : Nat) (a1 : Int32) (a2 : Int32) (x0 : Int32) (τ : St), Ru M_H_field d Q 87 [some (.ref a0), some (.int a1), some (.int a2)] [.int x0] τ = Q (some (.int x0)) τ) ∧
    (∀ (a0 : Nat) (a1 : Int32) (a2 : Int32) (τ : St), Ru M_H_field d Q 88 [some (.ref a0), some (.int a1), some (.int a2)] [] τ = False) := ⟨
  fun _ _ _ _ => (R_at ok_H_field rfl).trans (e_ald rfl),
  fun _ _ _ _ _ => (R_at ok_H_field rfl).trans e_gR,
  fun _ _ _ _ _ => (R_at ok_H_field rfl).trans (e_ild rfl),
  fun _ _ _ x0 _ _ => (R_at ok_H_field rfl).trans (e_cv [.int x0] rfl rfl rfl),
  fun _ _ _ _ _ => (R_at ok_H_field rfl).trans e_ifn,
  fun _ _ _ _ => (R_at ok_H_field rfl).trans e_throw,
  fun _ _ _ _ => (R_at ok_H_field rfl).trans (e_ild rfl),
  fun _ _ _ _ _ => (R_at ok_H_field rfl).trans e_sw,
  fun _ _ _ _ => (R_at ok_H_field rfl).trans (e_ald rfl),
  fun _ _ _ _ _ => (R_at ok_H_field rfl).trans e_gR,
  fun _ _ _ _ _ => (R_at ok_H_field rfl).trans (e_ild rfl),
  fun _ _ _ x0 _ _ => (R_at ok_H_field rfl).trans (e_cv [.int x0] rfl rfl rfl),
  fun _ _ _ _ _ => (R_at ok_H_field rfl).trans e_iret,
  fun _ _ _ _ => (R_at ok_H_field rfl).trans (e_ald rfl),
  fun _ _ _ _ _ => (R_at ok_H_field rfl).trans e_gR,
  fun _ _ _ _ _ => (R_at ok_H_field rfl).trans (e_ild rfl),
  fun _ _ _ x0 _ _ => (R_at ok_H_field rfl).trans (e_cv [.int x0] rfl rfl rfl),
  fun _ _ _ _ _ => (R_at ok_H_field rfl).trans e_iret,
  fun _ _ _ _ => (R_at ok_H_field rfl).trans (e_ald rfl),
  fun _ _ _ _ _ => (R_at ok_H_field rfl).trans e_gR,
  fun _ _ _ _ _ => (R_at ok_H_field rfl).trans (e_ild rfl),
  fun _ _ _ x0 _ _ => (R_at ok_H_field rfl).trans (e_cv [.int x0] rfl rfl rfl),
  fun _ _ _ _ _ => (R_at ok_H_field rfl).trans e_iret,
  fun _ _ _ _ => (R_at ok_H_field rfl).trans (e_ald rfl),
  fun _ _ _ _ _ => (R_at ok_H_field rfl).trans e_gR,
  fun _ _ _ _ _ => (R_at ok_H_field rfl).trans (e_ild rfl),
  fun _ _ _ x0 _ _ => (R_at ok_H_field rfl).trans (e_cv [.int x0] rfl rfl rfl),
  fun _ _ _ _ _ => (R_at ok_H_field rfl).trans e_iret,
  fun _ _ _ _ => (R_at ok_H_field rfl).trans e_throw⟩
set_option maxHeartbeats 4000000 in
theorem N_H_ship (d : Nat) (Q : Qt) : ∀ (x0 : Nat) (x1 : Int32) (x2 : Int32) (τ : St), Cl (d + 1) m_H_ship [.ref x0, .int x1, .int x2] τ Q = Ru M_H_ship d Q 0 [some (.ref x0), some (.int x1), some (.int x2)] [] τ := fun _ _ _ _ => propext ⟨fun h => h.2, fun h => ⟨Nat.le_of_ble_eq_true rfl, h⟩⟩
set_option maxHeartbeats 4000000 in
theorem E_H_ship (d : Nat) (Q : Qt) :
    (∀ (a0 : Nat) (a1 : Int32) (a2 : Int32) (τ : St), Ru M_H_ship d Q 0 [some (.ref a0), some (.int a1), some (.int a2)] [] τ = Ru M_H_ship d Q 1 [some (.ref a0), some (.int a1), some (.int a2)] [.ref a0] τ) ∧
    (∀ (a0 : Nat) (a1 : Int32) (a2 : Int32) (x0 : Nat) (τ : St), Ru M_H_ship d Q 1 [some (.ref a0), some (.int a1), some (.int a2)] [.ref x0] τ = Ru M_H_ship d Q 2 [some (.ref a0), some (.int a1), some (.int a2)] [.int a1, .ref x0] τ) ∧
    (∀ (a0 : Nat) (a1 : Int32) (a2 : Int32) (x0 : Int32) (x1 : Nat) (τ : St), Ru M_H_ship d Q 2 [some (.ref a0), some (.int a1), some (.int a2)] [.int x0, .ref x1] τ = (isA 11 x1 ∧ Cl d m_H_hasShip [.ref x1, .int x0] τ (fun v τ' => Ru M_H_ship d Q 5 [some (.ref a0), some (.int a1), some (.int a2)] (v.toList ++ []) τ'))) ∧
    (∀ (a0 : Nat) (a1 : Int32) (a2 : Int32) (x0 : Int32) (τ : St), Ru M_H_ship d Q 5 [some (.ref a0), some (.int a1), some (.int a2)] [.int x0] τ = ((¬ x0 = 0 → Ru M_H_ship d Q 18 [some (.ref a0), some (.int a1), some (.int a2)] [] τ) ∧ (x0 = 0 → Ru M_H_ship d Q 8 [some (.ref a0), some (.int a1), some (.int a2)] [] τ))) ∧
    (∀ (a0 : Nat) (a1 : Int32) (a2 : Int32) (τ : St), Ru M_H_ship d Q 8 [some (.ref a0), some (.int a1), some (.int a2)] [] τ = False) ∧
    (∀ (a0 : Nat) (a1 : Int32) (a2 : Int32) (τ : St), Ru M_H_ship d Q 18 [some (.ref a0), some (.int a1), some (.int a2)] [] τ = Ru M_H_ship d Q 19 [some (.ref a0), some (.int a1), some (.int a2)] [.int a2] τ) ∧
    (∀ (a0 : Nat) (a1 : Int32) (a2 : Int32) (x0 : Int32) (τ : St), Ru M_H_ship d Q 19 [some (.ref a0), some (.int a1), some (.int a2)] [.int x0] τ = ((∀ q ∈ ([(0, 48), (1, 55), (2, 64), (3, 81)] : List (Int32 × Nat)), x0 = q.1 → Ru M_H_ship d Q q.2 [some (.ref a0), some (.int a1), some (.int a2)] [] τ) ∧ ((∀ q ∈ ([(0, 48), (1, 55), (2, 64), (3, 81)] : List (Int32 × Nat)), ¬ x0 = q.1) → Ru M_H_ship d Q 95 [some (.ref a0), some (.int a1), some (.int a2)] [] τ))) ∧
    (∀ (a0 : Nat) (a1 : Int32) (a2 : Int32) (τ : St), Ru M_H_ship d Q 48 [some (.ref a0), some (.int a1), some (.int a2)] [] τ = Ru M_H_ship d Q 49 [some (.ref a0), some (.int a1), some (.int a2)] [.ref a0] τ) ∧
    (∀ (a0 : Nat) (a1 : Int32) (a2 : Int32) (x0 : Nat) (τ : St), Ru M_H_ship d Q 49 [some (.ref a0), some (.int a1), some (.int a2)] [.ref x0] τ = (isA 11 x0 ∧ Ru M_H_ship d Q 52 [some (.ref a0), some (.int a1), some (.int a2)] [.ref (rtab x0 7)] τ)) ∧
    (∀ (a0 : Nat) (a1 : Int32) (a2 : Int32) (x0 : Nat) (τ : St), Ru M_H_ship d Q 52 [some (.ref a0), some (.int a1), some (.int a2)] [.ref x0] τ = Ru M_H_ship d Q 53 [some (.ref a0), some (.int a1), some (.int a2)] [.int a1, .ref x0] τ) ∧
    (∀ (a0 : Nat) (a1 : Int32) (a2 : Int32) (x0 : Int32) (x1 : Nat) (τ : St), Ru M_H_ship d Q 53 [some (.ref a0), some (.int a1), some (.int a2)] [.int x0, .ref x1] τ = (isA 14 x1 ∧ vp_in x0 (len x1) ∧ Ru M_H_ship d Q 54 [some (.ref a0), some (.int a1), some (.int a2)] [.int (τ.1 x1 x0.toNatClampNeg)] τ)) ∧
    (∀ (a0 : Nat) (a1 : Int32) (a2 : Int32) (x0 : Int32) (τ : St), Ru M_H_ship d Q 54 [some (.ref a0), some (.int a1), some (.int a2)] [.int x0] τ = Q (some (.int x0)) τ) ∧
    (∀ (a0 : Nat) (a1 : Int32) (a2 : Int32) (τ : St), Ru M_H_ship d Q 55 [some (.ref a0), some (.int a1), some (.int a2)] [] τ = Ru M_H_ship d Q 56 [some (.ref a0), some (.int a1), some (.int a2)] [.ref a0] τ) ∧
    (∀ (a0 : Nat) (a1 : Int32) (a2 : Int32) (x0 : Nat) (τ : St), Ru M_H_ship d Q 56 [some (.ref a0), some (.int a1), some (.int a2)] [.ref x0] τ = (isA 11 x0 ∧ Ru M_H_ship d Q 59 [some (.ref a0), some (.int a1), some (.int a2)] [.ref (rtab x0 3)] τ)) ∧
    (∀ (a0 : Nat) (a1 : Int32) (a2 : Int32) (x0 : Nat) (τ : St), Ru M_H_ship d Q 59 [some (.ref a0), some (.int a1), some (.int a2)] [.ref x0] τ = Ru M_H_ship d Q 60 [some (.ref a0), some (.int a1), some (.int a2)] [.int a1, .ref x0] τ) ∧
    (∀ (a0 : Nat) (a1 : Int32) (a2 : Int32) (x0 : Int32) (x1 : Nat) (τ : St), Ru M_H_ship d Q 60 [some (.ref a0), some (.int a1), some (.int a2)] [.int x0, .ref x1] τ = (isA 1 x1 ∧ Cl d m_Moment_placeOf [.ref x1, .int x0] τ (fun v τ' => Ru M_H_ship d Q 63 [some (.ref a0), some (.int a1), some (.int a2)] (v.toList ++ []) τ'))) ∧
    (∀ (a0 : Nat) (a1 : Int32) (a2 : Int32) (x0 : Int32) (τ : St), Ru M_H_ship d Q 63 [some (.ref a0), some (.int a1), some (.int a2)] [.int x0] τ = Q (some (.int x0)) τ) ∧
    (∀ (a0 : Nat) (a1 : Int32) (a2 : Int32) (τ : St), Ru M_H_ship d Q 64 [some (.ref a0), some (.int a1), some (.int a2)] [] τ = Ru M_H_ship d Q 65 [some (.ref a0), some (.int a1), some (.int a2)] [.ref a0] τ) ∧
    (∀ (a0 : Nat) (a1 : Int32) (a2 : Int32) (x0 : Nat) (τ : St), Ru M_H_ship d Q 65 [some (.ref a0), some (.int a1), some (.int a2)] [.ref x0] τ = (isA 11 x0 ∧ Ru M_H_ship d Q 68 [some (.ref a0), some (.int a1), some (.int a2)] [.ref (rtab x0 3)] τ)) ∧
    (∀ (a0 : Nat) (a1 : Int32) (a2 : Int32) (x0 : Nat) (τ : St), Ru M_H_ship d Q 68 [some (.ref a0), some (.int a1), some (.int a2)] [.ref x0] τ = Ru M_H_ship d Q 69 [some (.ref a0), some (.int a1), some (.int a2)] [.int a1, .ref x0] τ) ∧
    (∀ (a0 : Nat) (a1 : Int32) (a2 : Int32) (x0 : Int32) (x1 : Nat) (τ : St), Ru M_H_ship d Q 69 [some (.ref a0), some (.int a1), some (.int a2)] [.int x0, .ref x1] τ = (isA 1 x1 ∧ Cl d m_Moment_wasDragged [.ref x1, .int x0] τ (fun v τ' => Ru M_H_ship d Q 72 [some (.ref a0), some (.int a1), some (.int a2)] (v.toList ++ []) τ'))) ∧
    (∀ (a0 : Nat) (a1 : Int32) (a2 : Int32) (x0 : Int32) (τ : St), Ru M_H_ship d Q 72 [some (.ref a0), some (.int a1), some (.int a2)] [.int x0] τ = ((x0 = 0 → Ru M_H_ship d Q 79 [some (.ref a0), some (.int a1), some (.int a2)] [] τ) ∧ (¬ x0 = 0 → Ru M_H_ship d Q 75 [some (.ref a0), some (.int a1), some (.int a2)] [] τ))) ∧
    (∀ (a0 : Nat) (a1 : Int32) (a2 : Int32) (τ : St), Ru M_H_ship d Q 75 [some (.ref a0), some (.int a1), some (.int a2)] [] τ = Ru M_H_ship d Q 76 [some (.ref a0), some (.int a1), some (.int a2)] [.int 1] τ) ∧
    (∀ (a0 : Nat) (a1 : Int32) (a2 : Int32) (x0 : Int32) (τ : St), Ru M_H_ship d Q 76 [some (.ref a0), some (.int a1), some (.int a2)] [.int x0] τ = Ru M_H_ship d Q 80 [some (.ref a0), some (.int a1), some (.int a2)] [.int x0] τ) ∧
    (∀ (a0 : Nat) (a1 : Int32) (a2 : Int32) (τ : St), Ru M_H_ship d Q 79 [some (.ref a0), some (.int a1), some (.int a2)] [] τ = Ru M_H_ship d Q 80 [some (.ref a0), some (.int a1), some (.int a2)] [.int 0] τ) ∧
    (∀ (a0 : Nat) (a1 : Int32) (a2 : Int32) (x0 : Int32) (τ : St), Ru M_H_ship d Q 80 [some (.ref a0), some (.int a1), some (.int a2)] [.int x0] τ = Q (some (.int x0)) τ) ∧
    (∀ (a0 : Nat) (a1 : Int32) (a2 : Int32) (τ : St), Ru M_H_ship d Q 81 [some (.ref a0), some (.int a1), some (.int a2)] [] τ = Ru M_H_ship d Q 82 [some (.ref a0), some (.int a1), some (.int a2)] [.ref a0] τ) ∧
    (∀ (a0 : Nat) (a1 : Int32) (a2 : Int32) (x0 : Nat) (τ : St), Ru M_H_ship d Q 82 [some (.ref a0), some (.int a1), some (.int a2)] [.ref x0] τ = Ru M_H_ship d Q 83 [some (.ref a0), some (.int a1), some (.int a2)] [.int a1, .ref x0] τ) ∧
    (∀ (a0 : Nat) (a1 : Int32) (a2 : Int32) (x0 : Int32) (x1 : Nat) (τ : St), Ru M_H_ship d Q 83 [some (.ref a0), some (.int a1), some (.int a2)] [.int x0, .ref x1] τ = (isA 11 x1 ∧ Cl d m_H_isOver [.ref x1, .int x0] τ (fun v τ' => Ru M_H_ship d Q 86 [some (.ref a0), some (.int a1), some (.int a2)] (v.toList ++ []) τ'))) ∧
    (∀ (a0 : Nat) (a1 : Int32) (a2 : Int32) (x0 : Int32) (τ : St), Ru M_H_ship d Q 86 [some (.ref a0), some (.int a1), some (.int a2)] [.int x0] τ = ((x0 = 0 → Ru M_H_ship d Q 93 [some (.ref a0), some (.int a1), some (.int a2)] [] τ) ∧ (¬ x0 = 0 → Ru M_H_ship d Q 89 [some (.ref a0), some (.int a1), some (.int a2)] [] τ))) ∧
    (∀ (a0 : Nat) (a1 : Int32) (a2 : Int32) (τ : St), Ru M_H_ship d Q 89 [some (.ref a0), some (.int a1), some (.int a2)] [] τ = Ru M_H_ship d Q 90 [some (.ref a0), some (.int a1), some (.int a2)] [.int 1] τ) ∧
    (∀ (a0 : Nat) (a1 : Int32) (a2 : Int32) (x0 : Int32) (τ : St), Ru M_H_ship d Q 90 [some (.ref a0), some (.int a1), some (.int a2)] [.int x0] τ = Ru M_H_ship d Q 94 [some (.ref a0), some (.int a1), some (.int a2)] [.int x0] τ) ∧
    (∀ (a0 : Nat) (a1 : Int32) (a2 : Int32) (τ : St), Ru M_H_ship d Q 93 [some (.ref a0), some (.int a1), some (.int a2)] [] τ = Ru M_H_ship d Q 94 [some (.ref a0), some (.int a1), some (.int a2)] [.int 0] τ) ∧
    (∀ (a0 : Nat) (a1 : Int32) (a2 : Int32) (x0 : Int32) (τ : St), Ru M_H_ship d Q 94 [some (.ref a0), some (.int a1), some (.int a2)] [.int x0] τ = Q (some (.int x0)) τ) ∧
    (∀ (a0 : Nat) (a1 : Int32) (a2 : Int32) (τ : St), Ru M_H_ship d Q 95 [some (.ref a0), some (.int a1), some (.int a2)] [] τ = False) := ⟨
  fun _ _ _ _ => (R_at ok_H_ship rfl).trans (e_ald rfl),
  fun _ _ _ _ _ => (R_at ok_H_ship rfl).trans (e_ild rfl),
  fun _ _ _ x0 _ _ => (R_at ok_H_ship rfl).trans (e_cv [.int x0] rfl rfl rfl),
  fun _ _ _ _ _ => (R_at ok_H_ship rfl).trans e_ifn,
  fun _ _ _ _ => (R_at ok_H_ship rfl).trans e_throw,
  fun _ _ _ _ => (R_at ok_H_ship rfl).trans (e_ild rfl),
  fun _ _ _ _ _ => (R_at ok_H_ship rfl).trans e_sw,
  fun _ _ _ _ => (R_at ok_H_ship rfl).trans (e_ald rfl),
  fun _ _ _ _ _ => (R_at ok_H_ship rfl).trans e_gR,
  fun _ _ _ _ _ => (R_at ok_H_ship rfl).trans (e_ild rfl),
  fun _ _ _ _ _ _ => (R_at ok_H_ship rfl).trans e_al,
  fun _ _ _ _ _ => (R_at ok_H_ship rfl).trans e_iret,
  fun _ _ _ _ => (R_at ok_H_ship rfl).trans (e_ald rfl),
  fun _ _ _ _ _ => (R_at ok_H_ship rfl).trans e_gR,
  fun _ _ _ _ _ => (R_at ok_H_ship rfl).trans (e_ild rfl),
  fun _ _ _ x0 _ _ => (R_at ok_H_ship rfl).trans (e_cv [.int x0] rfl rfl rfl),
  fun _ _ _ _ _ => (R_at ok_H_ship rfl).trans e_iret,
  fun _ _ _ _ => (R_at ok_H_ship rfl).trans (e_ald rfl),
  fun _ _ _ _ _ => (R_at ok_H_ship rfl).trans e_gR,
  fun _ _ _ _ _ => (R_at ok_H_ship rfl).trans (e_ild rfl),
  fun _ _ _ x0 _ _ => (R_at ok_H_ship rfl).trans (e_cv [.int x0] rfl rfl rfl),
  fun _ _ _ _ _ => (R_at ok_H_ship rfl).trans e_if,
  fun _ _ _ _ => (R_at ok_H_ship rfl).trans e_push,
  fun _ _ _ _ _ => (R_at ok_H_ship rfl).trans e_goto,
  fun _ _ _ _ => (R_at ok_H_ship rfl).trans e_push,
  fun _ _ _ _ _ => (R_at ok_H_ship rfl).trans e_iret,
  fun _ _ _ _ => (R_at ok_H_ship rfl).trans (e_ald rfl),
  fun _ _ _ _ _ => (R_at ok_H_ship rfl).trans (e_ild rfl),
  fun _ _ _ x0 _ _ => (R_at ok_H_ship rfl).trans (e_cv [.int x0] rfl rfl rfl),
  fun _ _ _ _ _ => (R_at ok_H_ship rfl).trans e_if,
  fun _ _ _ _ => (R_at ok_H_ship rfl).trans e_push,
  fun _ _ _ _ _ => (R_at ok_H_ship rfl).trans e_goto,
  fun _ _ _ _ => (R_at ok_H_ship rfl).trans e_push,
  fun _ _ _ _ _ => (R_at ok_H_ship rfl).trans e_iret,
  fun _ _ _ _ => (R_at ok_H_ship rfl).trans e_throw⟩
set_option maxHeartbeats 4000000 in
theorem N_H_hasShip (d : Nat) (Q : Qt) : ∀ (x0 : Nat) (x1 : Int32) (τ : St), Cl (d + 1) m_H_hasShip [.ref x0, .int x1] τ Q = Ru M_H_hasShip d Q 0 [some (.ref x0), some (.int x1)] [] τ := fun _ _ _ => propext ⟨fun h => h.2, fun h => ⟨Nat.le_of_ble_eq_true rfl, h⟩⟩
set_option maxHeartbeats 4000000 in
theorem E_H_hasShip (d : Nat) (Q : Qt) :
    (∀ (a0 : Nat) (a1 : Int32) (τ : St), Ru M_H_hasShip d Q 0 [some (.ref a0), some (.int a1)] [] τ = Ru M_H_hasShip d Q 1 [some (.ref a0), some (.int a1)] [.int a1] τ) ∧
    (∀ (a0 : Nat) (a1 : Int32) (x0 : Int32) (τ : St), Ru M_H_hasShip d Q 1 [some (.ref a0), some (.int a1)] [.int x0] τ = ((x0 < 0 → Ru M_H_hasShip d Q 25 [some (.ref a0), some (.int a1)] [] τ) ∧ (¬ x0 < 0 → Ru M_H_hasShip d Q 4 [some (.ref a0), some (.int a1)] [] τ))) ∧
    (∀ (a0 : Nat) (a1 : Int32) (τ : St), Ru M_H_hasShip d Q 4 [some (.ref a0), some (.int a1)] [] τ = Ru M_H_hasShip d Q 5 [some (.ref a0), some (.int a1)] [.int a1] τ) ∧
    (∀ (a0 : Nat) (a1 : Int32) (x0 : Int32) (τ : St), Ru M_H_hasShip d Q 5 [some (.ref a0), some (.int a1)] [.int x0] τ = Ru M_H_hasShip d Q 6 [some (.ref a0), some (.int a1)] [.ref a0, .int x0] τ) ∧
    (∀ (a0 : Nat) (a1 : Int32) (x0 : Nat) (x1 : Int32) (τ : St), Ru M_H_hasShip d Q 6 [some (.ref a0), some (.int a1)] [.ref x0, .int x1] τ = (isA 11 x0 ∧ Ru M_H_hasShip d Q 9 [some (.ref a0), some (.int a1)] [.ref (rtab x0 3), .int x1] τ)) ∧
    (∀ (a0 : Nat) (a1 : Int32) (x0 : Nat) (x1 : Int32) (τ : St), Ru M_H_hasShip d Q 9 [some (.ref a0), some (.int a1)] [.ref x0, .int x1] τ = (isA 1 x0 ∧ Ru M_H_hasShip d Q 12 [some (.ref a0), some (.int a1)] [.int (τ.1 x0 1), .int x1] τ)) ∧
    (∀ (a0 : Nat) (a1 : Int32) (x0 : Int32) (x1 : Int32) (τ : St), Ru M_H_hasShip d Q 12 [some (.ref a0), some (.int a1)] [.int x0, .int x1] τ = ((x0 ≤ x1 → Ru M_H_hasShip d Q 25 [some (.ref a0), some (.int a1)] [] τ) ∧ (¬ x0 ≤ x1 → Ru M_H_hasShip d Q 15 [some (.ref a0), some (.int a1)] [] τ))) ∧
    (∀ (a0 : Nat) (a1 : Int32) (τ : St), Ru M_H_hasShip d Q 15 [some (.ref a0), some (.int a1)] [] τ = Ru M_H_hasShip d Q 16 [some (.ref a0), some (.int a1)] [.int a1] τ) ∧
    (∀ (a0 : Nat) (a1 : Int32) (x0 : Int32) (τ : St), Ru M_H_hasShip d Q 16 [some (.ref a0), some (.int a1)] [.int x0] τ = Ru M_H_hasShip d Q 18 [some (.ref a0), some (.int a1)] [.int 8, .int x0] τ) ∧
    (∀ (a0 : Nat) (a1 : Int32) (x0 : Int32) (x1 : Int32) (τ : St), Ru M_H_hasShip d Q 18 [some (.ref a0), some (.int a1)] [.int x0, .int x1] τ = ((x0 ≤ x1 → Ru M_H_hasShip d Q 25 [some (.ref a0), some (.int a1)] [] τ) ∧ (¬ x0 ≤ x1 → Ru M_H_hasShip d Q 21 [some (.ref a0), some (.int a1)] [] τ))) ∧
    (∀ (a0 : Nat) (a1 : Int32) (τ : St), Ru M_H_hasShip d Q 21 [some (.ref a0), some (.int a1)] [] τ = Ru M_H_hasShip d Q 22 [some (.ref a0), some (.int a1)] [.int 1] τ) ∧
    (∀ (a0 : Nat) (a1 : Int32) (x0 : Int32) (τ : St), Ru M_H_hasShip d Q 22 [some (.ref a0), some (.int a1)] [.int x0] τ = Ru M_H_hasShip d Q 26 [some (.ref a0), some (.int a1)] [.int x0] τ) ∧
    (∀ (a0 : Nat) (a1 : Int32) (τ : St), Ru M_H_hasShip d Q 25 [some (.ref a0), some (.int a1)] [] τ = Ru M_H_hasShip d Q 26 [some (.ref a0), some (.int a1)] [.int 0] τ) ∧
    (∀ (a0 : Nat) (a1 : Int32) (x0 : Int32) (τ : St), Ru M_H_hasShip d Q 26 [some (.ref a0), some (.int a1)] [.int x0] τ = ((x0 = 0 ∨ x0 = 1) ∧ Q (some (.int x0)) τ)) := ⟨
  fun _ _ _ => (R_at ok_H_hasShip rfl).trans (e_ild rfl),
  fun _ _ _ _ => (R_at ok_H_hasShip rfl).trans e_if,
  fun _ _ _ => (R_at ok_H_hasShip rfl).trans (e_ild rfl),
  fun _ _ _ _ => (R_at ok_H_hasShip rfl).trans (e_ald rfl),
  fun _ _ _ _ _ => (R_at ok_H_hasShip rfl).trans e_gR,
  fun _ _ _ _ _ => (R_at ok_H_hasShip rfl).trans e_gI,
  fun _ _ _ _ _ => (R_at ok_H_hasShip rfl).trans e_ic,
  fun _ _ _ => (R_at ok_H_hasShip rfl).trans (e_ild rfl),
  fun _ _ _ _ => (R_at ok_H_hasShip rfl).trans e_push,
  fun _ _ _ _ _ => (R_at ok_H_hasShip rfl).trans e_ic,
  fun _ _ _ => (R_at ok_H_hasShip rfl).trans e_push,
  fun _ _ _ _ => (R_at ok_H_hasShip rfl).trans e_goto,
  fun _ _ _ => (R_at ok_H_hasShip rfl).trans e_push,
  fun _ _ _ _ => (R_at ok_H_hasShip rfl).trans e_zret⟩
set_option maxHeartbeats 4000000 in
theorem N_H_isOver (d : Nat) (Q : Qt) : ∀ (x0 : Nat) (x1 : Int32) (τ : St), Cl (d + 1) m_H_isOver [.ref x0, .int x1] τ Q = Ru M_H_isOver d Q 0 [some (.ref x0), some (.int x1)] [] τ := fun _ _ _ => propext ⟨fun h => h.2, fun h => ⟨Nat.le_of_ble_eq_true rfl, h⟩⟩
set_option maxHeartbeats 4000000 in
theorem E_H_isOver (d : Nat) (Q : Qt) :
    (∀ (a0 : Nat) (a1 : Int32) (τ : St), Ru M_H_isOver d Q 0 [some (.ref a0), some (.int a1)] [] τ = Ru M_H_isOver d Q 1 [some (.ref a0), some (.int a1)] [.ref a0] τ) ∧
    (∀ (a0 : Nat) (a1 : Int32) (x0 : Nat) (τ : St), Ru M_H_isOver d Q 1 [some (.ref a0), some (.int a1)] [.ref x0] τ = (isA 11 x0 ∧ Ru M_H_isOver d Q 4 [some (.ref a0), some (.int a1)] [.ref (rtab x0 2)] τ)) ∧
    (∀ (a0 : Nat) (a1 : Int32) (x0 : Nat) (τ : St), Ru M_H_isOver d Q 4 [some (.ref a0), some (.int a1)] [.ref x0] τ = Ru M_H_isOver d Q 5 [some (.ref a0), some (.int a1)] [.ref a0, .ref x0] τ) ∧
    (∀ (a0 : Nat) (a1 : Int32) (x0 : Nat) (x1 : Nat) (τ : St), Ru M_H_isOver d Q 5 [some (.ref a0), some (.int a1)] [.ref x0, .ref x1] τ = (isA 11 x0 ∧ Ru M_H_isOver d Q 8 [some (.ref a0), some (.int a1)] [.ref (rtab x0 3), .ref x1] τ)) ∧
    (∀ (a0 : Nat) (a1 : Int32) (x0 : Nat) (x1 : Nat) (τ : St), Ru M_H_isOver d Q 8 [some (.ref a0), some (.int a1)] [.ref x0, .ref x1] τ = Ru M_H_isOver d Q 9 [some (.ref a0), some (.int a1)] [.int a1, .ref x0, .ref x1] τ) ∧
    (∀ (a0 : Nat) (a1 : Int32) (x0 : Int32) (x1 : Nat) (x2 : Nat) (τ : St), Ru M_H_isOver d Q 9 [some (.ref a0), some (.int a1)] [.int x0, .ref x1, .ref x2] τ = (isA 1 x1 ∧ Cl d m_Moment_placeOf [.ref x1, .int x0] τ (fun v τ' => Ru M_H_isOver d Q 12 [some (.ref a0), some (.int a1)] (v.toList ++ [.ref x2]) τ'))) ∧
    (∀ (a0 : Nat) (a1 : Int32) (x0 : Int32) (x1 : Nat) (τ : St), Ru M_H_isOver d Q 12 [some (.ref a0), some (.int a1)] [.int x0, .ref x1] τ = (isA 0 x1 ∧ Cl d m_Ground_kindOf [.ref x1, .int x0] τ (fun v τ' => Ru M_H_isOver d Q 15 [some (.ref a0), some (.int a1)] (v.toList ++ []) τ'))) ∧
    (∀ (a0 : Nat) (a1 : Int32) (x0 : Int32) (τ : St), Ru M_H_isOver d Q 15 [some (.ref a0), some (.int a1)] [.int x0] τ = Ru M_H_isOver d Q 16 [some (.ref a0), some (.int a1)] [.int 2, .int x0] τ) ∧
    (∀ (a0 : Nat) (a1 : Int32) (x0 : Int32) (x1 : Int32) (τ : St), Ru M_H_isOver d Q 16 [some (.ref a0), some (.int a1)] [.int x0, .int x1] τ = ((¬ x1 = x0 → Ru M_H_isOver d Q 23 [some (.ref a0), some (.int a1)] [] τ) ∧ (x1 = x0 → Ru M_H_isOver d Q 19 [some (.ref a0), some (.int a1)] [] τ))) ∧
    (∀ (a0 : Nat) (a1 : Int32) (τ : St), Ru M_H_isOver d Q 19 [some (.ref a0), some (.int a1)] [] τ = Ru M_H_isOver d Q 20 [some (.ref a0), some (.int a1)] [.int 1] τ) ∧
    (∀ (a0 : Nat) (a1 : Int32) (x0 : Int32) (τ : St), Ru M_H_isOver d Q 20 [some (.ref a0), some (.int a1)] [.int x0] τ = Ru M_H_isOver d Q 24 [some (.ref a0), some (.int a1)] [.int x0] τ) ∧
    (∀ (a0 : Nat) (a1 : Int32) (τ : St), Ru M_H_isOver d Q 23 [some (.ref a0), some (.int a1)] [] τ = Ru M_H_isOver d Q 24 [some (.ref a0), some (.int a1)] [.int 0] τ) ∧
    (∀ (a0 : Nat) (a1 : Int32) (x0 : Int32) (τ : St), Ru M_H_isOver d Q 24 [some (.ref a0), some (.int a1)] [.int x0] τ = ((x0 = 0 ∨ x0 = 1) ∧ Q (some (.int x0)) τ)) := ⟨
  fun _ _ _ => (R_at ok_H_isOver rfl).trans (e_ald rfl),
  fun _ _ _ _ => (R_at ok_H_isOver rfl).trans e_gR,
  fun _ _ _ _ => (R_at ok_H_isOver rfl).trans (e_ald rfl),
  fun _ _ _ _ _ => (R_at ok_H_isOver rfl).trans e_gR,
  fun _ _ _ _ _ => (R_at ok_H_isOver rfl).trans (e_ild rfl),
  fun _ _ x0 _ _ _ => (R_at ok_H_isOver rfl).trans (e_cv [.int x0] rfl rfl rfl),
  fun _ _ x0 _ _ => (R_at ok_H_isOver rfl).trans (e_cv [.int x0] rfl rfl rfl),
  fun _ _ _ _ => (R_at ok_H_isOver rfl).trans e_push,
  fun _ _ _ _ _ => (R_at ok_H_isOver rfl).trans e_icn,
  fun _ _ _ => (R_at ok_H_isOver rfl).trans e_push,
  fun _ _ _ _ => (R_at ok_H_isOver rfl).trans e_goto,
  fun _ _ _ => (R_at ok_H_isOver rfl).trans e_push,
  fun _ _ _ _ => (R_at ok_H_isOver rfl).trans e_zret⟩
set_option maxHeartbeats 4000000 in
theorem N_H_shipsOver (d : Nat) (Q : Qt) : ∀ (x0 : Nat) (τ : St), Cl (d + 1) m_H_shipsOver [.ref x0] τ Q = Ru M_H_shipsOver d Q 0 [some (.ref x0), none, none] [] τ := fun _ _ => propext ⟨fun h => h.2, fun h => ⟨Nat.le_of_ble_eq_true rfl, h⟩⟩
set_option maxHeartbeats 4000000 in
theorem E_H_shipsOver (d : Nat) (Q : Qt) :
    (∀ (a0 : Nat) (τ : St), Ru M_H_shipsOver d Q 0 [some (.ref a0), none, none] [] τ = Ru M_H_shipsOver d Q 1 [some (.ref a0), none, none] [.int 0] τ) ∧
    (∀ (a0 : Nat) (x0 : Int32) (τ : St), Ru M_H_shipsOver d Q 1 [some (.ref a0), none, none] [.int x0] τ = Ru M_H_shipsOver d Q 2 [some (.ref a0), some (.int x0), none] [] τ) ∧
    (∀ (a0 : Nat) (a1 : Int32) (τ : St), Ru M_H_shipsOver d Q 2 [some (.ref a0), some (.int a1), none] [] τ = Ru M_H_shipsOver d Q 3 [some (.ref a0), some (.int a1), none] [.int 0] τ) ∧
    (∀ (a0 : Nat) (a1 : Int32) (x0 : Int32) (τ : St), Ru M_H_shipsOver d Q 3 [some (.ref a0), some (.int a1), none] [.int x0] τ = Rs M_H_shipsOver d Q 4 [some (.ref a0), some (.int a1), some (.int x0)] [] τ) ∧
    (∀ (a0 : Nat) (a1 : Int32) (a2 : Int32) (τ : St), Ru M_H_shipsOver d Q 4 [some (.ref a0), some (.int a1), some (.int a2)] [] τ = Ru M_H_shipsOver d Q 5 [some (.ref a0), some (.int a1), some (.int a2)] [.int a2] τ) ∧
    (∀ (a0 : Nat) (a1 : Int32) (a2 : Int32) (x0 : Int32) (τ : St), Ru M_H_shipsOver d Q 5 [some (.ref a0), some (.int a1), some (.int a2)] [.int x0] τ = Ru M_H_shipsOver d Q 6 [some (.ref a0), some (.int a1), some (.int a2)] [.ref a0, .int x0] τ) ∧
    (∀ (a0 : Nat) (a1 : Int32) (a2 : Int32) (x0 : Nat) (x1 : Int32) (τ : St), Ru M_H_shipsOver d Q 6 [some (.ref a0), some (.int a1), some (.int a2)] [.ref x0, .int x1] τ = (isA 11 x0 ∧ Ru M_H_shipsOver d Q 9 [some (.ref a0), some (.int a1), some (.int a2)] [.ref (rtab x0 3), .int x1] τ)) ∧
    (∀ (a0 : Nat) (a1 : Int32) (a2 : Int32) (x0 : Nat) (x1 : Int32) (τ : St), Ru M_H_shipsOver d Q 9 [some (.ref a0), some (.int a1), some (.int a2)] [.ref x0, .int x1] τ = (isA 1 x0 ∧ Ru M_H_shipsOver d Q 12 [some (.ref a0), some (.int a1), some (.int a2)] [.int (τ.1 x0 1), .int x1] τ)) ∧
    (∀ (a0 : Nat) (a1 : Int32) (a2 : Int32) (x0 : Int32) (x1 : Int32) (τ : St), Ru M_H_shipsOver d Q 12 [some (.ref a0), some (.int a1), some (.int a2)] [.int x0, .int x1] τ = ((x0 ≤ x1 → Ru M_H_shipsOver d Q 35 [some (.ref a0), some (.int a1), some (.int a2)] [] τ) ∧ (¬ x0 ≤ x1 → Ru M_H_shipsOver d Q 15 [some (.ref a0), some (.int a1), some (.int a2)] [] τ))) ∧
    (∀ (a0 : Nat) (a1 : Int32) (a2 : Int32) (τ : St), Ru M_H_shipsOver d Q 15 [some (.ref a0), some (.int a1), some (.int a2)] [] τ = Ru M_H_shipsOver d Q 16 [some (.ref a0), some (.int a1), some (.int a2)] [.ref a0] τ) ∧
    (∀ (a0 : Nat) (a1 : Int32) (a2 : Int32) (x0 : Nat) (τ : St), Ru M_H_shipsOver d Q 16 [some (.ref a0), some (.int a1), some (.int a2)] [.ref x0] τ = Ru M_H_shipsOver d Q 17 [some (.ref a0), some (.int a1), some (.int a2)] [.int a2, .ref x0] τ) ∧
    (∀ (a0 : Nat) (a1 : Int32) (a2 : Int32) (x0 : Int32) (x1 : Nat) (τ : St), Ru M_H_shipsOver d Q 17 [some (.ref a0), some (.int a1), some (.int a2)] [.int x0, .ref x1] τ = (isA 11 x1 ∧ Cl d m_H_isOver [.ref x1, .int x0] τ (fun v τ' => Ru M_H_shipsOver d Q 20 [some (.ref a0), some (.int a1), some (.int a2)] (v.toList ++ []) τ'))) ∧
    (∀ (a0 : Nat) (a1 : Int32) (a2 : Int32) (x0 : Int32) (τ : St), Ru M_H_shipsOver d Q 20 [some (.ref a0), some (.int a1), some (.int a2)] [.int x0] τ = ((x0 = 0 → Ru M_H_shipsOver d Q 29 [some (.ref a0), some (.int a1), some (.int a2)] [] τ) ∧ (¬ x0 = 0 → Ru M_H_shipsOver d Q 23 [some (.ref a0), some (.int a1), some (.int a2)] [] τ))) ∧
    (∀ (a0 : Nat) (a1 : Int32) (a2 : Int32) (τ : St), Ru M_H_shipsOver d Q 23 [some (.ref a0), some (.int a1), some (.int a2)] [] τ = Ru M_H_shipsOver d Q 24 [some (.ref a0), some (.int a1), some (.int a2)] [.int a1] τ) ∧
    (∀ (a0 : Nat) (a1 : Int32) (a2 : Int32) (x0 : Int32) (τ : St), Ru M_H_shipsOver d Q 24 [some (.ref a0), some (.int a1), some (.int a2)] [.int x0] τ = Ru M_H_shipsOver d Q 25 [some (.ref a0), some (.int a1), some (.int a2)] [.int 1, .int x0] τ) ∧
    (∀ (a0 : Nat) (a1 : Int32) (a2 : Int32) (x0 : Int32) (x1 : Int32) (τ : St), Ru M_H_shipsOver d Q 25 [some (.ref a0), some (.int a1), some (.int a2)] [.int x0, .int x1] τ = Ru M_H_shipsOver d Q 26 [some (.ref a0), some (.int a1), some (.int a2)] [.int a2, .int x0, .int x1] τ) ∧
    (∀ (a0 : Nat) (a1 : Int32) (a2 : Int32) (x0 : Int32) (x1 : Int32) (x2 : Int32) (τ : St), Ru M_H_shipsOver d Q 26 [some (.ref a0), some (.int a1), some (.int a2)] [.int x0, .int x1, .int x2] τ = Ru M_H_shipsOver d Q 27 [some (.ref a0), some (.int a1), some (.int a2)] [.int (x1 <<< (x0 &&& 31)), .int x2] τ) ∧
    (∀ (a0 : Nat) (a1 : Int32) (a2 : Int32) (x0 : Int32) (x1 : Int32) (τ : St), Ru M_H_shipsOver d Q 27 [some (.ref a0), some (.int a1), some (.int a2)] [.int x0, .int x1] τ = Ru M_H_shipsOver d Q 28 [some (.ref a0), some (.int a1), some (.int a2)] [.int (x1 ||| x0)] τ) ∧
    (∀ (a0 : Nat) (a1 : Int32) (a2 : Int32) (x0 : Int32) (τ : St), Ru M_H_shipsOver d Q 28 [some (.ref a0), some (.int a1), some (.int a2)] [.int x0] τ = Ru M_H_shipsOver d Q 29 [some (.ref a0), some (.int x0), some (.int a2)] [] τ) ∧
    (∀ (a0 : Nat) (a1 : Int32) (a2 : Int32) (τ : St), Ru M_H_shipsOver d Q 29 [some (.ref a0), some (.int a1), some (.int a2)] [] τ = Ru M_H_shipsOver d Q 32 [some (.ref a0), some (.int a1), some (.int (a2 + 1))] [] τ) ∧
    (∀ (a0 : Nat) (a1 : Int32) (a2 : Int32) (τ : St), Ru M_H_shipsOver d Q 32 [some (.ref a0), some (.int a1), some (.int a2)] [] τ = Rs M_H_shipsOver d Q 4 [some (.ref a0), some (.int a1), some (.int a2)] [] τ) ∧
    (∀ (a0 : Nat) (a1 : Int32) (a2 : Int32) (τ : St), Ru M_H_shipsOver d Q 35 [some (.ref a0), some (.int a1), some (.int a2)] [] τ = Ru M_H_shipsOver d Q 36 [some (.ref a0), some (.int a1), some (.int a2)] [.int a1] τ) ∧
    (∀ (a0 : Nat) (a1 : Int32) (a2 : Int32) (x0 : Int32) (τ : St), Ru M_H_shipsOver d Q 36 [some (.ref a0), some (.int a1), some (.int a2)] [.int x0] τ = Q (some (.int x0)) τ) := ⟨
  fun _ _ => (R_at ok_H_shipsOver rfl).trans e_push,
  fun _ _ _ => (R_at ok_H_shipsOver rfl).trans e_ist,
  fun _ _ _ => (R_at ok_H_shipsOver rfl).trans e_push,
  fun _ _ _ _ => (R_at ok_H_shipsOver rfl).trans e_ist,
  fun _ _ _ _ => (R_at ok_H_shipsOver rfl).trans (e_ild rfl),
  fun _ _ _ _ _ => (R_at ok_H_shipsOver rfl).trans (e_ald rfl),
  fun _ _ _ _ _ _ => (R_at ok_H_shipsOver rfl).trans e_gR,
  fun _ _ _ _ _ _ => (R_at ok_H_shipsOver rfl).trans e_gI,
  fun _ _ _ _ _ _ => (R_at ok_H_shipsOver rfl).trans e_ic,
  fun _ _ _ _ => (R_at ok_H_shipsOver rfl).trans (e_ald rfl),
  fun _ _ _ _ _ => (R_at ok_H_shipsOver rfl).trans (e_ild rfl),
  fun _ _ _ x0 _ _ => (R_at ok_H_shipsOver rfl).trans (e_cv [.int x0] rfl rfl rfl),
  fun _ _ _ _ _ => (R_at ok_H_shipsOver rfl).trans e_if,
  fun _ _ _ _ => (R_at ok_H_shipsOver rfl).trans (e_ild rfl),
  fun _ _ _ _ _ => (R_at ok_H_shipsOver rfl).trans e_push,
  fun _ _ _ _ _ _ => (R_at ok_H_shipsOver rfl).trans (e_ild rfl),
  fun _ _ _ _ _ _ _ => (R_at ok_H_shipsOver rfl).trans e_bin,
  fun _ _ _ _ _ _ => (R_at ok_H_shipsOver rfl).trans e_bin,
  fun _ _ _ _ _ => (R_at ok_H_shipsOver rfl).trans e_ist,
  fun _ _ _ _ => (R_at ok_H_shipsOver rfl).trans (e_iinc rfl),
  fun _ _ _ _ => (R_at ok_H_shipsOver rfl).trans e_goto,
  fun _ _ _ _ => (R_at ok_H_shipsOver rfl).trans (e_ild rfl),
  fun _ _ _ _ _ => (R_at ok_H_shipsOver rfl).trans e_iret⟩
set_option maxHeartbeats 4000000 in
theorem N_H_pull (d : Nat) (Q : Qt) : ∀ (x0 : Nat) (x1 : Int32) (x2 : Int32) (τ : St), Cl (d + 1) m_H_pull [.ref x0, .int x1, .int x2] τ Q = Ru M_H_pull d Q 0 [some (.ref x0), some (.int x1), some (.int x2)] [] τ := fun _ _ _ _ => propext ⟨fun h => h.2, fun h => ⟨Nat.le_of_ble_eq_true rfl, h⟩⟩
set_option maxHeartbeats 4000000 in
theorem E_H_pull (d : Nat) (Q : Qt) :
    (∀ (a0 : Nat) (a1 : Int32) (a2 : Int32) (τ : St), Ru M_H_pull d Q 0 [some (.ref a0), some (.int a1), some (.int a2)] [] τ = Ru M_H_pull d Q 1 [some (.ref a0), some (.int a1), some (.int a2)] [.ref a0] τ) ∧
    (∀ (a0 : Nat) (a1 : Int32) (a2 : Int32) (x0 : Nat) (τ : St), Ru M_H_pull d Q 1 [some (.ref a0), some (.int a1), some (.int a2)] [.ref x0] τ = Ru M_H_pull d Q 2 [some (.ref a0), some (.int a1), some (.int a2)] [.int a1, .ref x0] τ) ∧
    (∀ (a0 : Nat) (a1 : Int32) (a2 : Int32) (x0 : Int32) (x1 : Nat) (τ : St), Ru M_H_pull d Q 2 [some (.ref a0), some (.int a1), some (.int a2)] [.int x0, .ref x1] τ = Ru M_H_pull d Q 3 [some (.ref a0), some (.int a1), some (.int a2)] [.int a2, .int x0, .ref x1] τ) ∧
    (∀ (a0 : Nat) (a1 : Int32) (a2 : Int32) (x0 : Int32) (x1 : Int32) (x2 : Nat) (τ : St), Ru M_H_pull d Q 3 [some (.ref a0), some (.int a1), some (.int a2)] [.int x0, .int x1, .ref x2] τ = (isA 11 x2 ∧ Cl d m_H_pullOf [.ref x2, .int x1, .int x0] τ (fun v τ' => Ru M_H_pull d Q 6 [some (.ref a0), some (.int a1), some (.int a2)] (v.toList ++ []) τ'))) ∧
    (∀ (a0 : Nat) (a1 : Int32) (a2 : Int32) (x0 : Int32) (τ : St), Ru M_H_pull d Q 6 [some (.ref a0), some (.int a1), some (.int a2)] [.int x0] τ = Q (some (.int x0)) τ) := ⟨
  fun _ _ _ _ => (R_at ok_H_pull rfl).trans (e_ald rfl),
  fun _ _ _ _ _ => (R_at ok_H_pull rfl).trans (e_ild rfl),
  fun _ _ _ _ _ _ => (R_at ok_H_pull rfl).trans (e_ild rfl),
  fun _ _ _ x0 x1 _ _ => (R_at ok_H_pull rfl).trans (e_cv [.int x1, .int x0] rfl rfl rfl),
  fun _ _ _ _ _ => (R_at ok_H_pull rfl).trans e_iret⟩
set_option maxHeartbeats 4000000 in
theorem N_H_pullOf (d : Nat) (Q : Qt) : ∀ (x0 : Nat) (x1 : Int32) (x2 : Int32) (τ : St), Cl (d + 1) m_H_pullOf [.ref x0, .int x1, .int x2] τ Q = Ru M_H_pullOf d Q 0 [some (.ref x0), some (.int x1), some (.int x2), none, none, none, none] [] τ := fun _ _ _ _ => propext ⟨fun h => h.2, fun h => ⟨Nat.le_of_ble_eq_true rfl, h⟩⟩
set_option maxHeartbeats 4000000 in
theorem E_H_pullOf (d : Nat) (Q : Qt) :
    (∀ (a0 : Nat) (a1 : Int32) (a2 : Int32) (τ : St), Ru M_H_pullOf d Q 0 [some (.ref a0), some (.int a1), some (.int a2), none, none, none, none] [] τ = Ru M_H_pullOf d Q 1 [some (.ref a0), some (.int a1), some (.int a2), none, none, none, none] [.ref a0] τ) ∧
    (∀ (a0 : Nat) (a1 : Int32) (a2 : Int32) (x0 : Nat) (τ : St), Ru M_H_pullOf d Q 1 [some (.ref a0), some (.int a1), some (.int a2), none, none, none, none] [.ref x0] τ = Ru M_H_pullOf d Q 2 [some (.ref a0), some (.int a1), some (.int a2), none, none, none, none] [.int a1, .ref x0] τ) ∧
    (∀ (a0 : Nat) (a1 : Int32) (a2 : Int32) (x0 : Int32) (x1 : Nat) (τ : St), Ru M_H_pullOf d Q 2 [some (.ref a0), some (.int a1), some (.int a2), none, none, none, none] [.int x0, .ref x1] τ = (isA 11 x1 ∧ Cl d m_H_hasShip [.ref x1, .int x0] τ (fun v τ' => Ru M_H_pullOf d Q 5 [some (.ref a0), some (.int a1), some (.int a2), none, none, none, none] (v.toList ++ []) τ'))) ∧
    (∀ (a0 : Nat) (a1 : Int32) (a2 : Int32) (x0 : Int32) (τ : St), Ru M_H_pullOf d Q 5 [some (.ref a0), some (.int a1), some (.int a2), none, none, none, none] [.int x0] τ = ((x0 = 0 → Ru M_H_pullOf d Q 17 [some (.ref a0), some (.int a1), some (.int a2), none, none, none, none] [] τ) ∧ (¬ x0 = 0 → Ru M_H_pullOf d Q 8 [some (.ref a0), some (.int a1), some (.int a2), none, none, none, none] [] τ))) ∧
    (∀ (a0 : Nat) (a1 : Int32) (a2 : Int32) (τ : St), Ru M_H_pullOf d Q 8 [some (.ref a0), some (.int a1), some (.int a2), none, none, none, none] [] τ = Ru M_H_pullOf d Q 9 [some (.ref a0), some (.int a1), some (.int a2), none, none, none, none] [.int a2] τ) ∧
    (∀ (a0 : Nat) (a1 : Int32) (a2 : Int32) (x0 : Int32) (τ : St), Ru M_H_pullOf d Q 9 [some (.ref a0), some (.int a1), some (.int a2), none, none, none, none] [.int x0] τ = ((x0 < 0 → Ru M_H_pullOf d Q 17 [some (.ref a0), some (.int a1), some (.int a2), none, none, none, none] [] τ) ∧ (¬ x0 < 0 → Ru M_H_pullOf d Q 12 [some (.ref a0), some (.int a1), some (.int a2), none, none, none, none] [] τ))) ∧
    (∀ (a0 : Nat) (a1 : Int32) (a2 : Int32) (τ : St), Ru M_H_pullOf d Q 12 [some (.ref a0), some (.int a1), some (.int a2), none, none, none, none] [] τ = Ru M_H_pullOf d Q 13 [some (.ref a0), some (.int a1), some (.int a2), none, none, none, none] [.int a2] τ) ∧
    (∀ (a0 : Nat) (a1 : Int32) (a2 : Int32) (x0 : Int32) (τ : St), Ru M_H_pullOf d Q 13 [some (.ref a0), some (.int a1), some (.int a2), none, none, none, none] [.int x0] τ = Ru M_H_pullOf d Q 14 [some (.ref a0), some (.int a1), some (.int a2), none, none, none, none] [.int 4, .int x0] τ) ∧
    (∀ (a0 : Nat) (a1 : Int32) (a2 : Int32) (x0 : Int32) (x1 : Int32) (τ : St), Ru M_H_pullOf d Q 14 [some (.ref a0), some (.int a1), some (.int a2), none, none, none, none] [.int x0, .int x1] τ = ((x1 < x0 → Ru M_H_pullOf d Q 19 [some (.ref a0), some (.int a1), some (.int a2), none, none, none, none] [] τ) ∧ (¬ x1 < x0 → Ru M_H_pullOf d Q 17 [some (.ref a0), some (.int a1), some (.int a2), none, none, none, none] [] τ))) ∧
    (∀ (a0 : Nat) (a1 : Int32) (a2 : Int32) (τ : St), Ru M_H_pullOf d Q 17 [some (.ref a0), some (.int a1), some (.int a2), none, none, none, none] [] τ = Ru M_H_pullOf d Q 18 [some (.ref a0), some (.int a1), some (.int a2), none, none, none, none] [.int (-1)] τ) ∧
    (∀ (a0 : Nat) (a1 : Int32) (a2 : Int32) (x0 : Int32) (τ : St), Ru M_H_pullOf d Q 18 [some (.ref a0), some (.int a1), some (.int a2), none, none, none, none] [.int x0] τ = Q (some (.int x0)) τ) ∧
    (∀ (a0 : Nat) (a1 : Int32) (a2 : Int32) (τ : St), Ru M_H_pullOf d Q 19 [some (.ref a0), some (.int a1), some (.int a2), none, none, none, none] [] τ = Ru M_H_pullOf d Q 20 [some (.ref a0), some (.int a1), some (.int a2), none, none, none, none] [.ref a0] τ) ∧
    (∀ (a0 : Nat) (a1 : Int32) (a2 : Int32) (x0 : Nat) (τ : St), Ru M_H_pullOf d Q 20 [some (.ref a0), some (.int a1), some (.int a2), none, none, none, none] [.ref x0] τ = (isA 11 x0 ∧ Ru M_H_pullOf d Q 23 [some (.ref a0), some (.int a1), some (.int a2), none, none, none, none] [.ref (rtab x0 3)] τ)) ∧
    (∀ (a0 : Nat) (a1 : Int32) (a2 : Int32) (x0 : Nat) (τ : St), Ru M_H_pullOf d Q 23 [some (.ref a0), some (.int a1), some (.int a2), none, none, none, none] [.ref x0] τ = Ru M_H_pullOf d Q 24 [some (.ref a0), some (.int a1), some (.int a2), none, none, none, none] [.int a1, .ref x0] τ) ∧
    (∀ (a0 : Nat) (a1 : Int32) (a2 : Int32) (x0 : Int32) (x1 : Nat) (τ : St), Ru M_H_pullOf d Q 24 [some (.ref a0), some (.int a1), some (.int a2), none, none, none, none] [.int x0, .ref x1] τ = (isA 1 x1 ∧ Cl d m_Moment_placeOf [.ref x1, .int x0] τ (fun v τ' => Ru M_H_pullOf d Q 27 [some (.ref a0), some (.int a1), some (.int a2), none, none, none, none] (v.toList ++ []) τ'))) ∧
    (∀ (a0 : Nat) (a1 : Int32) (a2 : Int32) (x0 : Int32) (τ : St), Ru M_H_pullOf d Q 27 [some (.ref a0), some (.int a1), some (.int a2), none, none, none, none] [.int x0] τ = Ru M_H_pullOf d Q 28 [some (.ref a0), some (.int a1), some (.int a2), some (.int x0), none, none, none] [] τ) ∧
    (∀ (a0 : Nat) (a1 : Int32) (a2 : Int32) (a3 : Int32) (τ : St), Ru M_H_pullOf d Q 28 [some (.ref a0), some (.int a1), some (.int a2), some (.int a3), none, none, none] [] τ = Ru M_H_pullOf d Q 29 [some (.ref a0), some (.int a1), some (.int a2), some (.int a3), none, none, none] [.ref a0] τ) ∧
    (∀ (a0 : Nat) (a1 : Int32) (a2 : Int32) (a3 : Int32) (x0 : Nat) (τ : St), Ru M_H_pullOf d Q 29 [some (.ref a0), some (.int a1), some (.int a2), some (.int a3), none, none, none] [.ref x0] τ = (isA 11 x0 ∧ Ru M_H_pullOf d Q 32 [some (.ref a0), some (.int a1), some (.int a2), some (.int a3), none, none, none] [.ref (rtab x0 2)] τ)) ∧
    (∀ (a0 : Nat) (a1 : Int32) (a2 : Int32) (a3 : Int32) (x0 : Nat) (τ : St), Ru M_H_pullOf d Q 32 [some (.ref a0), some (.int a1), some (.int a2), some (.int a3), none, none, none] [.ref x0] τ = Ru M_H_pullOf d Q 33 [some (.ref a0), some (.int a1), some (.int a2), some (.int a3), none, none, none] [.int a3, .ref x0] τ) ∧
    (∀ (a0 : Nat) (a1 : Int32) (a2 : Int32) (a3 : Int32) (x0 : Int32) (x1 : Nat) (τ : St), Ru M_H_pullOf d Q 33 [some (.ref a0), some (.int a1), some (.int a2), some (.int a3), none, none, none] [.int x0, .ref x1] τ = Ru M_H_pullOf d Q 34 [some (.ref a0), some (.int a1), some (.int a2), some (.int a3), none, none, none] [.int a2, .int x0, .ref x1] τ) ∧
    (∀ (a0 : Nat) (a1 : Int32) (a2 : Int32) (a3 : Int32) (x0 : Int32) (x1 : Int32) (x2 : Nat) (τ : St), Ru M_H_pullOf d Q 34 [some (.ref a0), some (.int a1), some (.int a2), some (.int a3), none, none, none] [.int x0, .int x1, .ref x2] τ = (isA 0 x2 ∧ Cl d m_Ground_beside [.ref x2, .int x1, .int x0] τ (fun v τ' => Ru M_H_pullOf d Q 37 [some (.ref a0), some (.int a1), some (.int a2), some (.int a3), none, none, none] (v.toList ++ []) τ'))) ∧
    (∀ (a0 : Nat) (a1 : Int32) (a2 : Int32) (a3 : Int32) (x0 : Int32) (τ : St), Ru M_H_pullOf d Q 37 [some (.ref a0), some (.int a1), some (.int a2), some (.int a3), none, none, none] [.int x0] τ = Ru M_H_pullOf d Q 39 [some (.ref a0), some (.int a1), some (.int a2), some (.int a3), some (.int x0), none, none] [] τ) ∧
    (∀ (a0 : Nat) (a1 : Int32) (a2 : Int32) (a3 : Int32) (a4 : Int32) (τ : St), Ru M_H_pullOf d Q 39 [some (.ref a0), some (.int a1), some (.int a2), some (.int a3), some (.int a4), none, none] [] τ = Ru M_H_pullOf d Q 41 [some (.ref a0), some (.int a1), some (.int a2), some (.int a3), some (.int a4), none, none] [.int a4] τ) ∧
    (∀ (a0 : Nat) (a1 : Int32) (a2 : Int32) (a3 : Int32) (a4 : Int32) (x0 : Int32) (τ : St), Ru M_H_pullOf d Q 41 [some (.ref a0), some (.int a1), some (.int a2), some (.int a3), some (.int a4), none, none] [.int x0] τ = Ru M_H_pullOf d Q 42 [some (.ref a0), some (.int a1), some (.int a2), some (.int a3), some (.int a4), none, none] [.int (-1), .int x0] τ) ∧
    (∀ (a0 : Nat) (a1 : Int32) (a2 : Int32) (a3 : Int32) (a4 : Int32) (x0 : Int32) (x1 : Int32) (τ : St), Ru M_H_pullOf d Q 42 [some (.ref a0), some (.int a1), some (.int a2), some (.int a3), some (.int a4), none, none] [.int x0, .int x1] τ = ((x1 = x0 → Ru M_H_pullOf d Q 69 [some (.ref a0), some (.int a1), some (.int a2), some (.int a3), some (.int a4), none, none] [] τ) ∧ (¬ x1 = x0 → Ru M_H_pullOf d Q 45 [some (.ref a0), some (.int a1), some (.int a2), some (.int a3), some (.int a4), none, none] [] τ))) ∧
    (∀ (a0 : Nat) (a1 : Int32) (a2 : Int32) (a3 : Int32) (a4 : Int32) (τ : St), Ru M_H_pullOf d Q 45 [some (.ref a0), some (.int a1), some (.int a2), some (.int a3), some (.int a4), none, none] [] τ = Ru M_H_pullOf d Q 46 [some (.ref a0), some (.int a1), some (.int a2), some (.int a3), some (.int a4), none, none] [.ref a0] τ) ∧
    (∀ (a0 : Nat) (a1 : Int32) (a2 : Int32) (a3 : Int32) (a4 : Int32) (x0 : Nat) (τ : St), Ru M_H_pullOf d Q 46 [some (.ref a0), some (.int a1), some (.int a2), some (.int a3), some (.int a4), none, none] [.ref x0] τ = (isA 11 x0 ∧ Ru M_H_pullOf d Q 49 [some (.ref a0), some (.int a1), some (.int a2), some (.int a3), some (.int a4), none, none] [.ref (rtab x0 2)] τ)) ∧
    (∀ (a0 : Nat) (a1 : Int32) (a2 : Int32) (a3 : Int32) (a4 : Int32) (x0 : Nat) (τ : St), Ru M_H_pullOf d Q 49 [some (.ref a0), some (.int a1), some (.int a2), some (.int a3), some (.int a4), none, none] [.ref x0] τ = Ru M_H_pullOf d Q 51 [some (.ref a0), some (.int a1), some (.int a2), some (.int a3), some (.int a4), none, none] [.int a4, .ref x0] τ) ∧
    (∀ (a0 : Nat) (a1 : Int32) (a2 : Int32) (a3 : Int32) (a4 : Int32) (x0 : Int32) (x1 : Nat) (τ : St), Ru M_H_pullOf d Q 51 [some (.ref a0), some (.int a1), some (.int a2), some (.int a3), some (.int a4), none, none] [.int x0, .ref x1] τ = (isA 0 x1 ∧ Cl d m_Ground_kindOf [.ref x1, .int x0] τ (fun v τ' => Ru M_H_pullOf d Q 54 [some (.ref a0), some (.int a1), some (.int a2), some (.int a3), some (.int a4), none, none] (v.toList ++ []) τ'))) ∧
    (∀ (a0 : Nat) (a1 : Int32) (a2 : Int32) (a3 : Int32) (a4 : Int32) (x0 : Int32) (τ : St), Ru M_H_pullOf d Q 54 [some (.ref a0), some (.int a1), some (.int a2), some (.int a3), some (.int a4), none, none] [.int x0] τ = ((¬ x0 = 0 → Ru M_H_pullOf d Q 72 [some (.ref a0), some (.int a1), some (.int a2), some (.int a3), some (.int a4), none, none] [] τ) ∧ (x0 = 0 → Ru M_H_pullOf d Q 57 [some (.ref a0), some (.int a1), some (.int a2), some (.int a3), some (.int a4), none, none] [] τ))) ∧
    (∀ (a0 : Nat) (a1 : Int32) (a2 : Int32) (a3 : Int32) (a4 : Int32) (τ : St), Ru M_H_pullOf d Q 57 [some (.ref a0), some (.int a1), some (.int a2), some (.int a3), some (.int a4), none, none] [] τ = Ru M_H_pullOf d Q 58 [some (.ref a0), some (.int a1), some (.int a2), some (.int a3), some (.int a4), none, none] [.ref a0] τ) ∧
    (∀ (a0 : Nat) (a1 : Int32) (a2 : Int32) (a3 : Int32) (a4 : Int32) (x0 : Nat) (τ : St), Ru M_H_pullOf d Q 58 [some (.ref a0), some (.int a1), some (.int a2), some (.int a3), some (.int a4), none, none] [.ref x0] τ = (isA 11 x0 ∧ Ru M_H_pullOf d Q 61 [some (.ref a0), some (.int a1), some (.int a2), some (.int a3), some (.int a4), none, none] [.ref (rtab x0 3)] τ)) ∧
    (∀ (a0 : Nat) (a1 : Int32) (a2 : Int32) (a3 : Int32) (a4 : Int32) (x0 : Nat) (τ : St), Ru M_H_pullOf d Q 61 [some (.ref a0), some (.int a1), some (.int a2), some (.int a3), some (.int a4), none, none] [.ref x0] τ = Ru M_H_pullOf d Q 63 [some (.ref a0), some (.int a1), some (.int a2), some (.int a3), some (.int a4), none, none] [.int a4, .ref x0] τ) ∧
    (∀ (a0 : Nat) (a1 : Int32) (a2 : Int32) (a3 : Int32) (a4 : Int32) (x0 : Int32) (x1 : Nat) (τ : St), Ru M_H_pullOf d Q 63 [some (.ref a0), some (.int a1), some (.int a2), some (.int a3), some (.int a4), none, none] [.int x0, .ref x1] τ = (isA 1 x1 ∧ Cl d m_Moment_shipsAt [.ref x1, .int x0] τ (fun v τ' => Ru M_H_pullOf d Q 66 [some (.ref a0), some (.int a1), some (.int a2), some (.int a3), some (.int a4), none, none] (v.toList ++ []) τ'))) ∧
    (∀ (a0 : Nat) (a1 : Int32) (a2 : Int32) (a3 : Int32) (a4 : Int32) (x0 : Int32) (τ : St), Ru M_H_pullOf d Q 66 [some (.ref a0), some (.int a1), some (.int a2), some (.int a3), some (.int a4), none, none] [.int x0] τ = ((x0 = 0 → Ru M_H_pullOf d Q 72 [some (.ref a0), some (.int a1), some (.int a2), some (.int a3), some (.int a4), none, none] [] τ) ∧ (¬ x0 = 0 → Ru M_H_pullOf d Q 69 [some (.ref a0), some (.int a1), some (.int a2), some (.int a3), some (.int a4), none, none] [] τ))) ∧
    (∀ (a0 : Nat) (a1 : Int32) (a2 : Int32) (a3 : Int32) (a4 : Int32) (τ : St), Ru M_H_pullOf d Q 69 [some (.ref a0), some (.int a1), some (.int a2), some (.int a3), some (.int a4), none, none] [] τ = Ru M_H_pullOf d Q 71 [some (.ref a0), some (.int a1), some (.int a2), some (.int a3), some (.int a4), none, none] [.int (-2)] τ) ∧
    (∀ (a0 : Nat) (a1 : Int32) (a2 : Int32) (a3 : Int32) (a4 : Int32) (x0 : Int32) (τ : St), Ru M_H_pullOf d Q 71 [some (.ref a0), some (.int a1), some (.int a2), some (.int a3), some (.int a4), none, none] [.int x0] τ = Q (some (.int x0)) τ) ∧
    (∀ (a0 : Nat) (a1 : Int32) (a2 : Int32) (a3 : Int32) (a4 : Int32) (τ : St), Ru M_H_pullOf d Q 72 [some (.ref a0), some (.int a1), some (.int a2), some (.int a3), some (.int a4), none, none] [] τ = Ru M_H_pullOf d Q 73 [some (.ref a0), some (.int a1), some (.int a2), some (.int a3), some (.int a4), none, none] [.ref a0] τ) ∧
    (∀ (a0 : Nat) (a1 : Int32) (a2 : Int32) (a3 : Int32) (a4 : Int32) (x0 : Nat) (τ : St), Ru M_H_pullOf d Q 73 [some (.ref a0), some (.int a1), some (.int a2), some (.int a3), some (.int a4), none, none] [.ref x0] τ = (isA 11 x0 ∧ Ru M_H_pullOf d Q 76 [some (.ref a0), some (.int a1), some (.int a2), some (.int a3), some (.int a4), none, none] [.ref (rtab x0 2)] τ)) ∧
    (∀ (a0 : Nat) (a1 : Int32) (a2 : Int32) (a3 : Int32) (a4 : Int32) (x0 : Nat) (τ : St), Ru M_H_pullOf d Q 76 [some (.ref a0), some (.int a1), some (.int a2), some (.int a3), some (.int a4), none, none] [.ref x0] τ = Ru M_H_pullOf d Q 78 [some (.ref a0), some (.int a1), some (.int a2), some (.int a3), some (.int a4), none, none] [.int a4, .ref x0] τ) ∧
    (∀ (a0 : Nat) (a1 : Int32) (a2 : Int32) (a3 : Int32) (a4 : Int32) (x0 : Int32) (x1 : Nat) (τ : St), Ru M_H_pullOf d Q 78 [some (.ref a0), some (.int a1), some (.int a2), some (.int a3), some (.int a4), none, none] [.int x0, .ref x1] τ = (isA 0 x1 ∧ Cl d m_Ground_heightOf [.ref x1, .int x0] τ (fun v τ' => Ru M_H_pullOf d Q 81 [some (.ref a0), some (.int a1), some (.int a2), some (.int a3), some (.int a4), none, none] (v.toList ++ []) τ'))) ∧
    (∀ (a0 : Nat) (a1 : Int32) (a2 : Int32) (a3 : Int32) (a4 : Int32) (x0 : Int32) (τ : St), Ru M_H_pullOf d Q 81 [some (.ref a0), some (.int a1), some (.int a2), some (.int a3), some (.int a4), none, none] [.int x0] τ = Ru M_H_pullOf d Q 82 [some (.ref a0), some (.int a1), some (.int a2), some (.int a3), some (.int a4), none, none] [.ref a0, .int x0] τ) ∧
    (∀ (a0 : Nat) (a1 : Int32) (a2 : Int32) (a3 : Int32) (a4 : Int32) (x0 : Nat) (x1 : Int32) (τ : St), Ru M_H_pullOf d Q 82 [some (.ref a0), some (.int a1), some (.int a2), some (.int a3), some (.int a4), none, none] [.ref x0, .int x1] τ = (isA 11 x0 ∧ Ru M_H_pullOf d Q 85 [some (.ref a0), some (.int a1), some (.int a2), some (.int a3), some (.int a4), none, none] [.ref (rtab x0 2), .int x1] τ)) ∧
    (∀ (a0 : Nat) (a1 : Int32) (a2 : Int32) (a3 : Int32) (a4 : Int32) (x0 : Nat) (x1 : Int32) (τ : St), Ru M_H_pullOf d Q 85 [some (.ref a0), some (.int a1), some (.int a2), some (.int a3), some (.int a4), none, none] [.ref x0, .int x1] τ = Ru M_H_pullOf d Q 86 [some (.ref a0), some (.int a1), some (.int a2), some (.int a3), some (.int a4), none, none] [.int a3, .ref x0, .int x1] τ) ∧
    (∀ (a0 : Nat) (a1 : Int32) (a2 : Int32) (a3 : Int32) (a4 : Int32) (x0 : Int32) (x1 : Nat) (x2 : Int32) (τ : St), Ru M_H_pullOf d Q 86 [some (.ref a0), some (.int a1), some (.int a2), some (.int a3), some (.int a4), none, none] [.int x0, .ref x1, .int x2] τ = (isA 0 x1 ∧ Cl d m_Ground_heightOf [.ref x1, .int x0] τ (fun v τ' => Ru M_H_pullOf d Q 89 [some (.ref a0), some (.int a1), some (.int a2), some (.int a3), some (.int a4), none, none] (v.toList ++ [.int x2]) τ'))) ∧
    (∀ (a0 : Nat) (a1 : Int32) (a2 : Int32) (a3 : Int32) (a4 : Int32) (x0 : Int32) (x1 : Int32) (τ : St), Ru M_H_pullOf d Q 89 [some (.ref a0), some (.int a1), some (.int a2), some (.int a3), some (.int a4), none, none] [.int x0, .int x1] τ = Ru M_H_pullOf d Q 90 [some (.ref a0), some (.int a1), some (.int a2), some (.int a3), some (.int a4), none, none] [.int (x1 - x0)] τ) ∧
    (∀ (a0 : Nat) (a1 : Int32) (a2 : Int32) (a3 : Int32) (a4 : Int32) (x0 : Int32) (τ : St), Ru M_H_pullOf d Q 90 [some (.ref a0), some (.int a1), some (.int a2), some (.int a3), some (.int a4), none, none] [.int x0] τ = Ru M_H_pullOf d Q 92 [some (.ref a0), some (.int a1), some (.int a2), some (.int a3), some (.int a4), some (.int x0), none] [] τ) ∧
    (∀ (a0 : Nat) (a1 : Int32) (a2 : Int32) (a3 : Int32) (a4 : Int32) (a5 : Int32) (τ : St), Ru M_H_pullOf d Q 92 [some (.ref a0), some (.int a1), some (.int a2), some (.int a3), some (.int a4), some (.int a5), none] [] τ = Ru M_H_pullOf d Q 93 [some (.ref a0), some (.int a1), some (.int a2), some (.int a3), some (.int a4), some (.int a5), none] [.ref a0] τ) ∧
    (∀ (a0 : Nat) (a1 : Int32) (a2 : Int32) (a3 : Int32) (a4 : Int32) (a5 : Int32) (x0 : Nat) (τ : St), Ru M_H_pullOf d Q 93 [some (.ref a0), some (.int a1), some (.int a2), some (.int a3), some (.int a4), some (.int a5), none] [.ref x0] τ = (isA 11 x0 ∧ Ru M_H_pullOf d Q 96 [some (.ref a0), some (.int a1), some (.int a2), some (.int a3), some (.int a4), some (.int a5), none] [.ref (rtab x0 10)] τ)) ∧
    (∀ (a0 : Nat) (a1 : Int32) (a2 : Int32) (a3 : Int32) (a4 : Int32) (a5 : Int32) (x0 : Nat) (τ : St), Ru M_H_pullOf d Q 96 [some (.ref a0), some (.int a1), some (.int a2), some (.int a3), some (.int a4), some (.int a5), none] [.ref x0] τ = Ru M_H_pullOf d Q 97 [some (.ref a0), some (.int a1), some (.int a2), some (.int a3), some (.int a4), some (.int a5), none] [.ref a0, .ref x0] τ) ∧
    (∀ (a0 : Nat) (a1 : Int32) (a2 : Int32) (a3 : Int32) (a4 : Int32) (a5 : Int32) (x0 : Nat) (x1 : Nat) (τ : St), Ru M_H_pullOf d Q 97 [some (.ref a0), some (.int a1), some (.int a2), some (.int a3), some (.int a4), some (.int a5), none] [.ref x0, .ref x1] τ = (isA 11 x0 ∧ Ru M_H_pullOf d Q 100 [some (.ref a0), some (.int a1), some (.int a2), some (.int a3), some (.int a4), some (.int a5), none] [.ref (rtab x0 7), .ref x1] τ)) ∧
    (∀ (a0 : Nat) (a1 : Int32) (a2 : Int32) (a3 : Int32) (a4 : Int32) (a5 : Int32) (x0 : Nat) (x1 : Nat) (τ : St), Ru M_H_pullOf d Q 100 [some (.ref a0), some (.int a1), some (.int a2), some (.int a3), some (.int a4), some (.int a5), none] [.ref x0, .ref x1] τ = Ru M_H_pullOf d Q 101 [some (.ref a0), some (.int a1), some (.int a2), some (.int a3), some (.int a4), some (.int a5), none] [.int a1, .ref x0, .ref x1] τ) ∧
    (∀ (a0 : Nat) (a1 : Int32) (a2 : Int32) (a3 : Int32) (a4 : Int32) (a5 : Int32) (x0 : Int32) (x1 : Nat) (x2 : Nat) (τ : St), Ru M_H_pullOf d Q 101 [some (.ref a0), some (.int a1), some (.int a2), some (.int a3), some (.int a4), some (.int a5), none] [.int x0, .ref x1, .ref x2] τ = (isA 14 x1 ∧ vp_in x0 (len x1) ∧ Ru M_H_pullOf d Q 102 [some (.ref a0), some (.int a1), some (.int a2), some (.int a3), some (.int a4), some (.int a5), none] [.int (τ.1 x1 x0.toNatClampNeg), .ref x2] τ)) ∧
    (∀ (a0 : Nat) (a1 : Int32) (a2 : Int32) (a3 : Int32) (a4 : Int32) (a5 : Int32) (x0 : Int32) (x1 : Nat) (τ : St), Ru M_H_pullOf d Q 102 [some (.ref a0), some (.int a1), some (.int a2), some (.int a3), some (.int a4), some (.int a5), none] [.int x0, .ref x1] τ = Ru M_H_pullOf d Q 104 [some (.ref a0), some (.int a1), some (.int a2), some (.int a3), some (.int a4), some (.int a5), none] [.int a5, .int x0, .ref x1] τ) ∧
    (∀ (a0 : Nat) (a1 : Int32) (a2 : Int32) (a3 : Int32) (a4 : Int32) (a5 : Int32) (x0 : Int32) (x1 : Int32) (x2 : Nat) (τ : St), Ru M_H_pullOf d Q 104 [some (.ref a0), some (.int a1), some (.int a2), some (.int a3), some (.int a4), some (.int a5), none] [.int x0, .int x1, .ref x2] τ = Ru M_H_pullOf d Q 105 [some (.ref a0), some (.int a1), some (.int a2), some (.int a3), some (.int a4), some (.int a5), none] [.ref a0, .int x0, .int x1, .ref x2] τ) ∧
    (∀ (a0 : Nat) (a1 : Int32) (a2 : Int32) (a3 : Int32) (a4 : Int32) (a5 : Int32) (x0 : Nat) (x1 : Int32) (x2 : Int32) (x3 : Nat) (τ : St), Ru M_H_pullOf d Q 105 [some (.ref a0), some (.int a1), some (.int a2), some (.int a3), some (.int a4), some (.int a5), none] [.ref x0, .int x1, .int x2, .ref x3] τ = (isA 11 x0 ∧ Ru M_H_pullOf d Q 108 [some (.ref a0), some (.int a1), some (.int a2), some (.int a3), some (.int a4), some (.int a5), none] [.ref (rtab x0 3), .int x1, .int x2, .ref x3] τ)) ∧
    (∀ (a0 : Nat) (a1 : Int32) (a2 : Int32) (a3 : Int32) (a4 : Int32) (a5 : Int32) (x0 : Nat) (x1 : Int32) (x2 : Int32) (x3 : Nat) (τ : St), Ru M_H_pullOf d Q 108 [some (.ref a0), some (.int a1), some (.int a2), some (.int a3), some (.int a4), some (.int a5), none] [.ref x0, .int x1, .int x2, .ref x3] τ = Ru M_H_pullOf d Q 110 [some (.ref a0), some (.int a1), some (.int a2), some (.int a3), some (.int a4), some (.int a5), none] [.int a4, .ref x0, .int x1, .int x2, .ref x3] τ) ∧
    (∀ (a0 : Nat) (a1 : Int32) (a2 : Int32) (a3 : Int32) (a4 : Int32) (a5 : Int32) (x0 : Int32) (x1 : Nat) (x2 : Int32) (x3 : Int32) (x4 : Nat) (τ : St), Ru M_H_pullOf d Q 110 [some (.ref a0), some (.int a1), some (.int a2), some (.int a3), some (.int a4), some (.int a5), none] [.int x0, .ref x1, .int x2, .int x3, .ref x4] τ = (isA 1 x1 ∧ Cl d m_Moment_planksAt [.ref x1, .int x0] τ (fun v τ' => Ru M_H_pullOf d Q 113 [some (.ref a0), some (.int a1), some (.int a2), some (.int a3), some (.int a4), some (.int a5), none] (v.toList ++ [.int x2, .int x3, .ref x4]) τ'))) ∧
    (∀ (a0 : Nat) (a1 : Int32) (a2 : Int32) (a3 : Int32) (a4 : Int32) (a5 : Int32) (x0 : Int32) (x1 : Int32) (x2 : Int32) (x3 : Nat) (τ : St), Ru M_H_pullOf d Q 113 [some (.ref a0), some (.int a1), some (.int a2), some (.int a3), some (.int a4), some (.int a5), none] [.int x0, .int x1, .int x2, .ref x3] τ = Ru M_H_pullOf d Q 114 [some (.ref a0), some (.int a1), some (.int a2), some (.int a3), some (.int a4), some (.int a5), none] [.ref a0, .int x0, .int x1, .int x2, .ref x3] τ) ∧
    (∀ (a0 : Nat) (a1 : Int32) (a2 : Int32) (a3 : Int32) (a4 : Int32) (a5 : Int32) (x0 : Nat) (x1 : Int32) (x2 : Int32) (x3 : Int32) (x4 : Nat) (τ : St), Ru M_H_pullOf d Q 114 [some (.ref a0), some (.int a1), some (.int a2), some (.int a3), some (.int a4), some (.int a5), none] [.ref x0, .int x1, .int x2, .int x3, .ref x4] τ = (isA 11 x0 ∧ Ru M_H_pullOf d Q 117 [some (.ref a0), some (.int a1), some (.int a2), some (.int a3), some (.int a4), some (.int a5), none] [.ref (rtab x0 3), .int x1, .int x2, .int x3, .ref x4] τ)) ∧
    (∀ (a0 : Nat) (a1 : Int32) (a2 : Int32) (a3 : Int32) (a4 : Int32) (a5 : Int32) (x0 : Nat) (x1 : Int32) (x2 : Int32) (x3 : Int32) (x4 : Nat) (τ : St), Ru M_H_pullOf d Q 117 [some (.ref a0), some (.int a1), some (.int a2), some (.int a3), some (.int a4), some (.int a5), none] [.ref x0, .int x1, .int x2, .int x3, .ref x4] τ = (isA 1 x0 ∧ Ru M_H_pullOf d Q 120 [some (.ref a0), some (.int a1), some (.int a2), some (.int a3), some (.int a4), some (.int a5), none] [.int (τ.1 x0 6), .int x1, .int x2, .int x3, .ref x4] τ)) ∧
    (∀ (a0 : Nat) (a1 : Int32) (a2 : Int32) (a3 : Int32) (a4 : Int32) (a5 : Int32) (x0 : Int32) (x1 : Int32) (x2 : Int32) (x3 : Int32) (x4 : Nat) (τ : St), Ru M_H_pullOf d Q 120 [some (.ref a0), some (.int a1), some (.int a2), some (.int a3), some (.int a4), some (.int a5), none] [.int x0, .int x1, .int x2, .int x3, .ref x4] τ = (isA 5 x4 ∧ Cl d m_Rule_dragOf [.ref x4, .int x3, .int x2, .int x1, .int x0] τ (fun v τ' => Ru M_H_pullOf d Q 123 [some (.ref a0), some (.int a1), some (.int a2), some (.int a3), some (.int a4), some (.int a5), none] (v.toList ++ []) τ'))) ∧
    (∀ (a0 : Nat) (a1 : Int32) (a2 : Int32) (a3 : Int32) (a4 : Int32) (a5 : Int32) (x0 : Int32) (τ : St), Ru M_H_pullOf d Q 123 [some (.ref a0), some (.int a1), some (.int a2), some (.int a3), some (.int a4), some (.int a5), none] [.int x0] τ = Ru M_H_pullOf d Q 125 [some (.ref a0), some (.int a1), some (.int a2), some (.int a3), some (.int a4), some (.int a5), some (.int x0)] [] τ) ∧
    (∀ (a0 : Nat) (a1 : Int32) (a2 : Int32) (a3 : Int32) (a4 : Int32) (a5 : Int32) (a6 : Int32) (τ : St), Ru M_H_pullOf d Q 125 [some (.ref a0), some (.int a1), some (.int a2), some (.int a3), some (.int a4), some (.int a5), some (.int a6)] [] τ = Ru M_H_pullOf d Q 127 [some (.ref a0), some (.int a1), some (.int a2), some (.int a3), some (.int a4), some (.int a5), some (.int a6)] [.int a6] τ) ∧
    (∀ (a0 : Nat) (a1 : Int32) (a2 : Int32) (a3 : Int32) (a4 : Int32) (a5 : Int32) (a6 : Int32) (x0 : Int32) (τ : St), Ru M_H_pullOf d Q 127 [some (.ref a0), some (.int a1), some (.int a2), some (.int a3), some (.int a4), some (.int a5), some (.int a6)] [.int x0] τ = Ru M_H_pullOf d Q 128 [some (.ref a0), some (.int a1), some (.int a2), some (.int a3), some (.int a4), some (.int a5), some (.int a6)] [.ref a0, .int x0] τ) ∧
    (∀ (a0 : Nat) (a1 : Int32) (a2 : Int32) (a3 : Int32) (a4 : Int32) (a5 : Int32) (a6 : Int32) (x0 : Nat) (x1 : Int32) (τ : St), Ru M_H_pullOf d Q 128 [some (.ref a0), some (.int a1), some (.int a2), some (.int a3), some (.int a4), some (.int a5), some (.int a6)] [.ref x0, .int x1] τ = (isA 11 x0 ∧ Ru M_H_pullOf d Q 131 [some (.ref a0), some (.int a1), some (.int a2), some (.int a3), some (.int a4), some (.int a5), some (.int a6)] [.ref (rtab x0 3), .int x1] τ)) ∧
    (∀ (a0 : Nat) (a1 : Int32) (a2 : Int32) (a3 : Int32) (a4 : Int32) (a5 : Int32) (a6 : Int32) (x0 : Nat) (x1 : Int32) (τ : St), Ru M_H_pullOf d Q 131 [some (.ref a0), some (.int a1), some (.int a2), some (.int a3), some (.int a4), some (.int a5), some (.int a6)] [.ref x0, .int x1] τ = (isA 1 x0 ∧ Ru M_H_pullOf d Q 134 [some (.ref a0), some (.int a1), some (.int a2), some (.int a3), some (.int a4), some (.int a5), some (.int a6)] [.int (τ.1 x0 5), .int x1] τ)) ∧
    (∀ (a0 : Nat) (a1 : Int32) (a2 : Int32) (a3 : Int32) (a4 : Int32) (a5 : Int32) (a6 : Int32) (x0 : Int32) (x1 : Int32) (τ : St), Ru M_H_pullOf d Q 134 [some (.ref a0), some (.int a1), some (.int a2), some (.int a3), some (.int a4), some (.int a5), some (.int a6)] [.int x0, .int x1] τ = Cl d m_H_kindOf [.int x0] τ (fun v τ' => Ru M_H_pullOf d Q 137 [some (.ref a0), some (.int a1), some (.int a2), some (.int a3), some (.int a4), some (.int a5), some (.int a6)] (v.toList ++ [.int x1]) τ')) ∧
    (∀ (a0 : Nat) (a1 : Int32) (a2 : Int32) (a3 : Int32) (a4 : Int32) (a5 : Int32) (a6 : Int32) (x0 : Int32) (x1 : Int32) (τ : St), Ru M_H_pullOf d Q 137 [some (.ref a0), some (.int a1), some (.int a2), some (.int a3), some (.int a4), some (.int a5), some (.int a6)] [.int x0, .int x1] τ = Cl d m_H_pullBy [.int x1, .int x0] τ (fun v τ' => Ru M_H_pullOf d Q 140 [some (.ref a0), some (.int a1), some (.int a2), some (.int a3), some (.int a4), some (.int a5), some (.int a6)] (v.toList ++ []) τ')) ∧
    (∀ (a0 : Nat) (a1 : Int32) (a2 : Int32) (a3 : Int32) (a4 : Int32) (a5 : Int32) (a6 : Int32) (x0 : Int32) (τ : St), Ru M_H_pullOf d Q 140 [some (.ref a0), some (.int a1), some (.int a2), some (.int a3), some (.int a4), some (.int a5), some (.int a6)] [.int x0] τ = Q (some (.int x0)) τ) := ⟨
  fun _ _ _ _ => (R_at ok_H_pullOf rfl).trans (e_ald rfl),
  fun _ _ _ _ _ => (R_at ok_H_pullOf rfl).trans (e_ild rfl),
  fun _ _ _ x0 _ _ => (R_at ok_H_pullOf rfl).trans (e_cv [.int x0] rfl rfl rfl),
  fun _ _ _ _ _ => (R_at ok_H_pullOf rfl).trans e_if,
  fun _ _ _ _ => (R_at ok_H_pullOf rfl).trans (e_ild rfl),
  fun _ _ _ _ _ => (R_at ok_H_pullOf rfl).trans e_if,
  fun _ _ _ _ => (R_at ok_H_pullOf rfl).trans (e_ild rfl),
  fun _ _ _ _ _ => (R_at ok_H_pullOf rfl).trans e_push,
  fun _ _ _ _ _ _ => (R_at ok_H_pullOf rfl).trans e_ic,
  fun _ _ _ _ => (R_at ok_H_pullOf rfl).trans e_push,
  fun _ _ _ _ _ => (R_at ok_H_pullOf rfl).trans e_iret,
  fun _ _ _ _ => (R_at ok_H_pullOf rfl).trans (e_ald rfl),
  fun _ _ _ _ _ => (R_at ok_H_pullOf rfl).trans e_gR,
  fun _ _ _ _ _ => (R_at ok_H_pullOf rfl).trans (e_ild rfl),
  fun _ _ _ x0 _ _ => (R_at ok_H_pullOf rfl).trans (e_cv [.int x0] rfl rfl rfl),
  fun _ _ _ _ _ => (R_at ok_H_pullOf rfl).trans e_ist,
  fun _ _ _ _ _ => (R_at ok_H_pullOf rfl).trans (e_ald rfl),
  fun _ _ _ _ _ _ => (R_at ok_H_pullOf rfl).trans e_gR,
  fun _ _ _ _ _ _ => (R_at ok_H_pullOf rfl).trans (e_ild rfl),
  fun _ _ _ _ _ _ _ => (R_at ok_H_pullOf rfl).trans (e_ild rfl),
  fun _ _ _ _ x0 x1 _ _ => (R_at ok_H_pullOf rfl).trans (e_cv [.int x1, .int x0] rfl rfl rfl),
  fun _ _ _ _ _ _ => (R_at ok_H_pullOf rfl).trans e_ist,
  fun _ _ _ _ _ _ => (R_at ok_H_pullOf rfl).trans (e_ild rfl),
  fun _ _ _ _ _ _ _ => (R_at ok_H_pullOf rfl).trans e_push,
  fun _ _ _ _ _ _ _ _ => (R_at ok_H_pullOf rfl).trans e_ic,
  fun _ _ _ _ _ _ => (R_at ok_H_pullOf rfl).trans (e_ald rfl),
  fun _ _ _ _ _ _ _ => (R_at ok_H_pullOf rfl).trans e_gR,
  fun _ _ _ _ _ _ _ => (R_at ok_H_pullOf rfl).trans (e_ild rfl),
  fun _ _ _ _ _ x0 _ _ => (R_at ok_H_pullOf rfl).trans (e_cv [.int x0] rfl rfl rfl),
  fun _ _ _ _ _ _ _ => (R_at ok_H_pullOf rfl).trans e_ifn,
  fun _ _ _ _ _ _ => (R_at ok_H_pullOf rfl).trans (e_ald rfl),
  fun _ _ _ _ _ _ _ => (R_at ok_H_pullOf rfl).trans e_gR,
  fun _ _ _ _ _ _ _ => (R_at ok_H_pullOf rfl).trans (e_ild rfl),
  fun _ _ _ _ _ x0 _ _ => (R_at ok_H_pullOf rfl).trans (e_cv [.int x0] rfl rfl rfl),
  fun _ _ _ _ _ _ _ => (R_at ok_H_pullOf rfl).trans e_if,
  fun _ _ _ _ _ _ => (R_at ok_H_pullOf rfl).trans e_push,
  fun _ _ _ _ _ _ _ => (R_at ok_H_pullOf rfl).trans e_iret,
  fun _ _ _ _ _ _ => (R_at ok_H_pullOf rfl).trans (e_ald rfl),
  fun _ _ _ _ _ _ _ => (R_at ok_H_pullOf rfl).trans e_gR,
  fun _ _ _ _ _ _ _ => (R_at ok_H_pullOf rfl).trans (e_ild rfl),
  fun _ _ _ _ _ x0 _ _ => (R_at ok_H_pullOf rfl).trans (e_cv [.int x0] rfl rfl rfl),
  fun _ _ _ _ _ _ _ => (R_at ok_H_pullOf rfl).trans (e_ald rfl),
  fun _ _ _ _ _ _ _ _ => (R_at ok_H_pullOf rfl).trans e_gR,
  fun _ _ _ _ _ _ _ _ => (R_at ok_H_pullOf rfl).trans (e_ild rfl),
  fun _ _ _ _ _ x0 _ _ _ => (R_at ok_H_pullOf rfl).trans (e_cv [.int x0] rfl rfl rfl),
  fun _ _ _ _ _ _ _ _ => (R_at ok_H_pullOf rfl).trans e_bin,
  fun _ _ _ _ _ _ _ => (R_at ok_H_pullOf rfl).trans e_ist,
  fun _ _ _ _ _ _ _ => (R_at ok_H_pullOf rfl).trans (e_ald rfl),
  fun _ _ _ _ _ _ _ _ => (R_at ok_H_pullOf rfl).trans e_gR,
  fun _ _ _ _ _ _ _ _ => (R_at ok_H_pullOf rfl).trans (e_ald rfl),
  fun _ _ _ _ _ _ _ _ _ => (R_at ok_H_pullOf rfl).trans e_gR,
  fun _ _ _ _ _ _ _ _ _ => (R_at ok_H_pullOf rfl).trans (e_ild rfl),
  fun _ _ _ _ _ _ _ _ _ _ => (R_at ok_H_pullOf rfl).trans e_al,
  fun _ _ _ _ _ _ _ _ _ => (R_at ok_H_pullOf rfl).trans (e_ild rfl),
  fun _ _ _ _ _ _ _ _ _ _ => (R_at ok_H_pullOf rfl).trans (e_ald rfl),
  fun _ _ _ _ _ _ _ _ _ _ _ => (R_at ok_H_pullOf rfl).trans e_gR,
  fun _ _ _ _ _ _ _ _ _ _ _ => (R_at ok_H_pullOf rfl).trans (e_ild rfl),
  fun _ _ _ _ _ _ x0 _ _ _ _ _ => (R_at ok_H_pullOf rfl).trans (e_cv [.int x0] rfl rfl rfl),
  fun _ _ _ _ _ _ _ _ _ _ _ => (R_at ok_H_pullOf rfl).trans (e_ald rfl),
  fun _ _ _ _ _ _ _ _ _ _ _ _ => (R_at ok_H_pullOf rfl).trans e_gR,
  fun _ _ _ _ _ _ _ _ _ _ _ _ => (R_at ok_H_pullOf rfl).trans e_gI,
  fun _ _ _ _ _ _ x0 x1 x2 x3 _ _ => (R_at ok_H_pullOf rfl).trans (e_cv [.int x3, .int x2, .int x1, .int x0] rfl rfl rfl),
  fun _ _ _ _ _ _ _ _ => (R_at ok_H_pullOf rfl).trans e_ist,
  fun _ _ _ _ _ _ _ _ => (R_at ok_H_pullOf rfl).trans (e_ild rfl),
  fun _ _ _ _ _ _ _ _ _ => (R_at ok_H_pullOf rfl).trans (e_ald rfl),
  fun _ _ _ _ _ _ _ _ _ _ => (R_at ok_H_pullOf rfl).trans e_gR,
  fun _ _ _ _ _ _ _ _ _ _ => (R_at ok_H_pullOf rfl).trans e_gI,
  fun _ _ _ _ _ _ _ x0 _ _ => (R_at ok_H_pullOf rfl).trans (e_cs [.int x0] rfl rfl rfl),
  fun _ _ _ _ _ _ _ x0 x1 _ => (R_at ok_H_pullOf rfl).trans (e_cs [.int x1, .int x0] rfl rfl rfl),
  fun _ _ _ _ _ _ _ _ _ => (R_at ok_H_pullOf rfl).trans e_iret⟩
set_option maxHeartbeats 4000000 in
theorem N_H_kindOf (d : Nat) (Q : Qt) : ∀ (x0 : Int32) (τ : St), Cl (d + 1) m_H_kindOf [.int x0] τ Q = Ru M_H_kindOf d Q 0 [some (.int x0)] [] τ := fun _ _ => propext ⟨fun h => h.2, fun h => ⟨Nat.le_of_ble_eq_true rfl, h⟩⟩
set_option maxHeartbeats 4000000 in
theorem E_H_kindOf (d : Nat) (Q : Qt) :
    (∀ (a0 : Int32) (τ : St), Ru M_H_kindOf d Q 0 [some (.int a0)] [] τ = Ru M_H_kindOf d Q 1 [some (.int a0)] [.int a0] τ) ∧
    (∀ (a0 : Int32) (x0 : Int32) (τ : St), Ru M_H_kindOf d Q 1 [some (.int a0)] [.int x0] τ = Ru M_H_kindOf d Q 2 [some (.int a0)] [.int 4, .int x0] τ) ∧
    (∀ (a0 : Int32) (x0 : Int32) (x1 : Int32) (τ : St), Ru M_H_kindOf d Q 2 [some (.int a0)] [.int x0, .int x1] τ = Cl d m_floorMod [.int x1, .int x0] τ (fun v τ' => Ru M_H_kindOf d Q 5 [some (.int a0)] (v.toList ++ []) τ')) ∧
    (∀ (a0 : Int32) (x0 : Int32) (τ : St), Ru M_H_kindOf d Q 5 [some (.int a0)] [.int x0] τ = Q (some (.int x0)) τ) := ⟨
  fun _ _ => (R_at ok_H_kindOf rfl).trans (e_ild rfl),
  fun _ _ _ => (R_at ok_H_kindOf rfl).trans e_push,
  fun _ x0 x1 _ => (R_at ok_H_kindOf rfl).trans (e_cs [.int x1, .int x0] rfl rfl rfl),
  fun _ _ _ => (R_at ok_H_kindOf rfl).trans e_iret⟩
set_option maxHeartbeats 4000000 in
theorem N_H_pullBy (d : Nat) (Q : Qt) : ∀ (x0 : Int32) (x1 : Int32) (τ : St), Cl (d + 1) m_H_pullBy [.int x0, .int x1] τ Q = Ru M_H_pullBy d Q 0 [some (.int x0), some (.int x1)] [] τ := fun _ _ _ => propext ⟨fun h => h.2, fun h => ⟨Nat.le_of_ble_eq_true rfl, h⟩⟩
set_option maxHeartbeats 4000000 in
theorem E_H_pullBy (d : Nat) (Q : Qt) :
    (∀ (a0 : Int32) (a1 : Int32) (τ : St), Ru M_H_pullBy d Q 0 [some (.int a0), some (.int a1)] [] τ = Ru M_H_pullBy d Q 1 [some (.int a0), some (.int a1)] [.int a1] τ) ∧
    (∀ (a0 : Int32) (a1 : Int32) (x0 : Int32) (τ : St), Ru M_H_pullBy d Q 1 [some (.int a0), some (.int a1)] [.int x0] τ = Ru M_H_pullBy d Q 2 [some (.int a0), some (.int a1)] [.int 3, .int x0] τ) ∧
    (∀ (a0 : Int32) (a1 : Int32) (x0 : Int32) (x1 : Int32) (τ : St), Ru M_H_pullBy d Q 2 [some (.int a0), some (.int a1)] [.int x0, .int x1] τ = ((¬ x1 = x0 → Ru M_H_pullBy d Q 13 [some (.int a0), some (.int a1)] [] τ) ∧ (x1 = x0 → Ru M_H_pullBy d Q 5 [some (.int a0), some (.int a1)] [] τ))) ∧
    (∀ (a0 : Int32) (a1 : Int32) (τ : St), Ru M_H_pullBy d Q 5 [some (.int a0), some (.int a1)] [] τ = Ru M_H_pullBy d Q 6 [some (.int a0), some (.int a1)] [.int a0] τ) ∧
    (∀ (a0 : Int32) (a1 : Int32) (x0 : Int32) (τ : St), Ru M_H_pullBy d Q 6 [some (.int a0), some (.int a1)] [.int x0] τ = Ru M_H_pullBy d Q 7 [some (.int a0), some (.int a1)] [.int a0, .int x0] τ) ∧
    (∀ (a0 : Int32) (a1 : Int32) (x0 : Int32) (x1 : Int32) (τ : St), Ru M_H_pullBy d Q 7 [some (.int a0), some (.int a1)] [.int x0, .int x1] τ = Ru M_H_pullBy d Q 8 [some (.int a0), some (.int a1)] [.int 2, .int x0, .int x1] τ) ∧
    (∀ (a0 : Int32) (a1 : Int32) (x0 : Int32) (x1 : Int32) (x2 : Int32) (τ : St), Ru M_H_pullBy d Q 8 [some (.int a0), some (.int a1)] [.int x0, .int x1, .int x2] τ = (¬ x0 = 0 ∧ Ru M_H_pullBy d Q 9 [some (.int a0), some (.int a1)] [.int (x1 / x0), .int x2] τ)) ∧
    (∀ (a0 : Int32) (a1 : Int32) (x0 : Int32) (x1 : Int32) (τ : St), Ru M_H_pullBy d Q 9 [some (.int a0), some (.int a1)] [.int x0, .int x1] τ = Ru M_H_pullBy d Q 10 [some (.int a0), some (.int a1)] [.int (x1 + x0)] τ) ∧
    (∀ (a0 : Int32) (a1 : Int32) (x0 : Int32) (τ : St), Ru M_H_pullBy d Q 10 [some (.int a0), some (.int a1)] [.int x0] τ = Ru M_H_pullBy d Q 14 [some (.int a0), some (.int a1)] [.int x0] τ) ∧
    (∀ (a0 : Int32) (a1 : Int32) (τ : St), Ru M_H_pullBy d Q 13 [some (.int a0), some (.int a1)] [] τ = Ru M_H_pullBy d Q 14 [some (.int a0), some (.int a1)] [.int a0] τ) ∧
    (∀ (a0 : Int32) (a1 : Int32) (x0 : Int32) (τ : St), Ru M_H_pullBy d Q 14 [some (.int a0), some (.int a1)] [.int x0] τ = Q (some (.int x0)) τ) := ⟨
  fun _ _ _ => (R_at ok_H_pullBy rfl).trans (e_ild rfl),
  fun _ _ _ _ => (R_at ok_H_pullBy rfl).trans e_push,
  fun _ _ _ _ _ => (R_at ok_H_pullBy rfl).trans e_icn,
  fun _ _ _ => (R_at ok_H_pullBy rfl).trans (e_ild rfl),
  fun _ _ _ _ => (R_at ok_H_pullBy rfl).trans (e_ild rfl),
  fun _ _ _ _ _ => (R_at ok_H_pullBy rfl).trans e_push,
  fun _ _ _ _ _ _ => (R_at ok_H_pullBy rfl).trans e_binz,
  fun _ _ _ _ _ => (R_at ok_H_pullBy rfl).trans e_bin,
  fun _ _ _ _ => (R_at ok_H_pullBy rfl).trans e_goto,
  fun _ _ _ => (R_at ok_H_pullBy rfl).trans (e_ild rfl),
  fun _ _ _ _ => (R_at ok_H_pullBy rfl).trans e_iret⟩
set_option maxHeartbeats 4000000 in
theorem N_H_noiseOf (d : Nat) (Q : Qt) : ∀ (x0 : Int32) (x1 : Int32) (τ : St), Cl (d + 1) m_H_noiseOf [.int x0, .int x1] τ Q = Ru M_H_noiseOf d Q 0 [some (.int x0), some (.int x1), none] [] τ := fun _ _ _ => propext ⟨fun h => h.2, fun h => ⟨Nat.le_of_ble_eq_true rfl, h⟩⟩
set_option maxHeartbeats 4000000 in
theorem E_H_noiseOf (d : Nat) (Q : Qt) :
    (∀ (a0 : Int32) (a1 : Int32) (τ : St), Ru M_H_noiseOf d Q 0 [some (.int a0), some (.int a1), none] [] τ = Ru M_H_noiseOf d Q 1 [some (.int a0), some (.int a1), none] [.int a0] τ) ∧
    (∀ (a0 : Int32) (a1 : Int32) (x0 : Int32) (τ : St), Ru M_H_noiseOf d Q 1 [some (.int a0), some (.int a1), none] [.int x0] τ = Ru M_H_noiseOf d Q 3 [some (.int a0), some (.int a1), none] [.int 10, .int x0] τ) ∧
    (∀ (a0 : Int32) (a1 : Int32) (x0 : Int32) (x1 : Int32) (τ : St), Ru M_H_noiseOf d Q 3 [some (.int a0), some (.int a1), none] [.int x0, .int x1] τ = (¬ x0 = 0 ∧ Ru M_H_noiseOf d Q 4 [some (.int a0), some (.int a1), none] [.int (x1 / x0)] τ)) ∧
    (∀ (a0 : Int32) (a1 : Int32) (x0 : Int32) (τ : St), Ru M_H_noiseOf d Q 4 [some (.int a0), some (.int a1), none] [.int x0] τ = Ru M_H_noiseOf d Q 5 [some (.int a0), some (.int a1), some (.int x0)] [] τ) ∧
    (∀ (a0 : Int32) (a1 : Int32) (a2 : Int32) (τ : St), Ru M_H_noiseOf d Q 5 [some (.int a0), some (.int a1), some (.int a2)] [] τ = Ru M_H_noiseOf d Q 6 [some (.int a0), some (.int a1), some (.int a2)] [.int a1] τ) ∧
    (∀ (a0 : Int32) (a1 : Int32) (a2 : Int32) (x0 : Int32) (τ : St), Ru M_H_noiseOf d Q 6 [some (.int a0), some (.int a1), some (.int a2)] [.int x0] τ = Ru M_H_noiseOf d Q 7 [some (.int a0), some (.int a1), some (.int a2)] [.int 1, .int x0] τ) ∧
    (∀ (a0 : Int32) (a1 : Int32) (a2 : Int32) (x0 : Int32) (x1 : Int32) (τ : St), Ru M_H_noiseOf d Q 7 [some (.int a0), some (.int a1), some (.int a2)] [.int x0, .int x1] τ = ((¬ x1 = x0 → Ru M_H_noiseOf d Q 14 [some (.int a0), some (.int a1), some (.int a2)] [] τ) ∧ (x1 = x0 → Ru M_H_noiseOf d Q 10 [some (.int a0), some (.int a1), some (.int a2)] [] τ))) ∧
    (∀ (a0 : Int32) (a1 : Int32) (a2 : Int32) (τ : St), Ru M_H_noiseOf d Q 10 [some (.int a0), some (.int a1), some (.int a2)] [] τ = Ru M_H_noiseOf d Q 11 [some (.int a0), some (.int a1), some (.int a2)] [.int a2] τ) ∧
    (∀ (a0 : Int32) (a1 : Int32) (a2 : Int32) (x0 : Int32) (τ : St), Ru M_H_noiseOf d Q 11 [some (.int a0), some (.int a1), some (.int a2)] [.int x0] τ = Ru M_H_noiseOf d Q 12 [some (.int a0), some (.int a1), some (.int a2)] [.int 2, .int x0] τ) ∧
    (∀ (a0 : Int32) (a1 : Int32) (a2 : Int32) (x0 : Int32) (x1 : Int32) (τ : St), Ru M_H_noiseOf d Q 12 [some (.int a0), some (.int a1), some (.int a2)] [.int x0, .int x1] τ = (¬ x0 = 0 ∧ Ru M_H_noiseOf d Q 13 [some (.int a0), some (.int a1), some (.int a2)] [.int (x1 / x0)] τ)) ∧
    (∀ (a0 : Int32) (a1 : Int32) (a2 : Int32) (x0 : Int32) (τ : St), Ru M_H_noiseOf d Q 13 [some (.int a0), some (.int a1), some (.int a2)] [.int x0] τ = Q (some (.int x0)) τ) ∧
    (∀ (a0 : Int32) (a1 : Int32) (a2 : Int32) (τ : St), Ru M_H_noiseOf d Q 14 [some (.int a0), some (.int a1), some (.int a2)] [] τ = Ru M_H_noiseOf d Q 15 [some (.int a0), some (.int a1), some (.int a2)] [.int a1] τ) ∧
    (∀ (a0 : Int32) (a1 : Int32) (a2 : Int32) (x0 : Int32) (τ : St), Ru M_H_noiseOf d Q 15 [some (.int a0), some (.int a1), some (.int a2)] [.int x0] τ = Ru M_H_noiseOf d Q 16 [some (.int a0), some (.int a1), some (.int a2)] [.int 2, .int x0] τ) ∧
    (∀ (a0 : Int32) (a1 : Int32) (a2 : Int32) (x0 : Int32) (x1 : Int32) (τ : St), Ru M_H_noiseOf d Q 16 [some (.int a0), some (.int a1), some (.int a2)] [.int x0, .int x1] τ = ((¬ x1 = x0 → Ru M_H_noiseOf d Q 25 [some (.int a0), some (.int a1), some (.int a2)] [] τ) ∧ (x1 = x0 → Ru M_H_noiseOf d Q 19 [some (.int a0), some (.int a1), some (.int a2)] [] τ))) ∧
    (∀ (a0 : Int32) (a1 : Int32) (a2 : Int32) (τ : St), Ru M_H_noiseOf d Q 19 [some (.int a0), some (.int a1), some (.int a2)] [] τ = Ru M_H_noiseOf d Q 20 [some (.int a0), some (.int a1), some (.int a2)] [.int a2] τ) ∧
    (∀ (a0 : Int32) (a1 : Int32) (a2 : Int32) (x0 : Int32) (τ : St), Ru M_H_noiseOf d Q 20 [some (.int a0), some (.int a1), some (.int a2)] [.int x0] τ = Ru M_H_noiseOf d Q 21 [some (.int a0), some (.int a1), some (.int a2)] [.int 2, .int x0] τ) ∧
    (∀ (a0 : Int32) (a1 : Int32) (a2 : Int32) (x0 : Int32) (x1 : Int32) (τ : St), Ru M_H_noiseOf d Q 21 [some (.int a0), some (.int a1), some (.int a2)] [.int x0, .int x1] τ = Ru M_H_noiseOf d Q 22 [some (.int a0), some (.int a1), some (.int a2)] [.int (x1 * x0)] τ) ∧
    (∀ (a0 : Int32) (a1 : Int32) (a2 : Int32) (x0 : Int32) (τ : St), Ru M_H_noiseOf d Q 22 [some (.int a0), some (.int a1), some (.int a2)] [.int x0] τ = Ru M_H_noiseOf d Q 26 [some (.int a0), some (.int a1), some (.int a2)] [.int x0] τ) ∧
    (∀ (a0 : Int32) (a1 : Int32) (a2 : Int32) (τ : St), Ru M_H_noiseOf d Q 25 [some (.int a0), some (.int a1), some (.int a2)] [] τ = Ru M_H_noiseOf d Q 26 [some (.int a0), some (.int a1), some (.int a2)] [.int a2] τ) ∧
    (∀ (a0 : Int32) (a1 : Int32) (a2 : Int32) (x0 : Int32) (τ : St), Ru M_H_noiseOf d Q 26 [some (.int a0), some (.int a1), some (.int a2)] [.int x0] τ = Q (some (.int x0)) τ) := ⟨
  fun _ _ _ => (R_at ok_H_noiseOf rfl).trans (e_ild rfl),
  fun _ _ _ _ => (R_at ok_H_noiseOf rfl).trans e_push,
  fun _ _ _ _ _ => (R_at ok_H_noiseOf rfl).trans e_binz,
  fun _ _ _ _ => (R_at ok_H_noiseOf rfl).trans e_ist,
  fun _ _ _ _ => (R_at ok_H_noiseOf rfl).trans (e_ild rfl),
  fun _ _ _ _ _ => (R_at ok_H_noiseOf rfl).trans e_push,
  fun _ _ _ _ _ _ => (R_at ok_H_noiseOf rfl).trans e_icn,
  fun _ _ _ _ => (R_at ok_H_noiseOf rfl).trans (e_ild rfl),
  fun _ _ _ _ _ => (R_at ok_H_noiseOf rfl).trans e_push,
  fun _ _ _ _ _ _ => (R_at ok_H_noiseOf rfl).trans e_binz,
  fun _ _ _ _ _ => (R_at ok_H_noiseOf rfl).trans e_iret,
  fun _ _ _ _ => (R_at ok_H_noiseOf rfl).trans (e_ild rfl),
  fun _ _ _ _ _ => (R_at ok_H_noiseOf rfl).trans e_push,
  fun _ _ _ _ _ _ => (R_at ok_H_noiseOf rfl).trans e_icn,
  fun _ _ _ _ => (R_at ok_H_noiseOf rfl).trans (e_ild rfl),
  fun _ _ _ _ _ => (R_at ok_H_noiseOf rfl).trans e_push,
  fun _ _ _ _ _ _ => (R_at ok_H_noiseOf rfl).trans e_bin,
  fun _ _ _ _ _ => (R_at ok_H_noiseOf rfl).trans e_goto,
  fun _ _ _ _ => (R_at ok_H_noiseOf rfl).trans (e_ild rfl),
  fun _ _ _ _ _ => (R_at ok_H_noiseOf rfl).trans e_iret⟩
set_option maxHeartbeats 4000000 in
theorem N_H_set (d : Nat) (Q : Qt) : ∀ (x0 : Nat) (x1 : Int32) (x2 : Int32) (τ : St), Cl (d + 1) m_H_set [.ref x0, .int x1, .int x2] τ Q = Ru M_H_set d Q 0 [some (.ref x0), some (.int x1), some (.int x2), none] [] τ := fun _ _ _ _ => propext ⟨fun h => h.2, fun h => ⟨Nat.le_of_ble_eq_true rfl, h⟩⟩
set_option maxHeartbeats 4000000 in
theorem E_H_set (d : Nat) (Q : Qt) :
    (∀ (a0 : Nat) (a1 : Int32) (a2 : Int32) (τ : St), Ru M_H_set d Q 0 [some (.ref a0), some (.int a1), some (.int a2), none] [] τ = Ru M_H_set d Q 1 [some (.ref a0), some (.int a1), some (.int a2), none] [.int a2] τ) ∧
    (∀ (a0 : Nat) (a1 : Int32) (a2 : Int32) (x0 : Int32) (τ : St), Ru M_H_set d Q 1 [some (.ref a0), some (.int a1), some (.int a2), none] [.int x0] τ = ((x0 < 0 → Ru M_H_set d Q 11 [some (.ref a0), some (.int a1), some (.int a2), none] [] τ) ∧ (¬ x0 < 0 → Ru M_H_set d Q 4 [some (.ref a0), some (.int a1), some (.int a2), none] [] τ))) ∧
    (∀ (a0 : Nat) (a1 : Int32) (a2 : Int32) (τ : St), Ru M_H_set d Q 4 [some (.ref a0), some (.int a1), some (.int a2), none] [] τ = Ru M_H_set d Q 5 [some (.ref a0), some (.int a1), some (.int a2), none] [.int a2] τ) ∧
    (∀ (a0 : Nat) (a1 : Int32) (a2 : Int32) (x0 : Int32) (τ : St), Ru M_H_set d Q 5 [some (.ref a0), some (.int a1), some (.int a2), none] [.int x0] τ = Ru M_H_set d Q 8 [some (.ref a0), some (.int a1), some (.int a2), none] [.int 999, .int x0] τ) ∧
    (∀ (a0 : Nat) (a1 : Int32) (a2 : Int32) (x0 : Int32) (x1 : Int32) (τ : St), Ru M_H_set d Q 8 [some (.ref a0), some (.int a1), some (.int a2), none] [.int x0, .int x1] τ = ((x1 ≤ x0 → Ru M_H_set d Q 13 [some (.ref a0), some (.int a1), some (.int a2), none] [] τ) ∧ (¬ x1 ≤ x0 → Ru M_H_set d Q 11 [some (.ref a0), some (.int a1), some (.int a2), none] [] τ))) ∧
    (∀ (a0 : Nat) (a1 : Int32) (a2 : Int32) (τ : St), Ru M_H_set d Q 11 [some (.ref a0), some (.int a1), some (.int a2), none] [] τ = Ru M_H_set d Q 12 [some (.ref a0), some (.int a1), some (.int a2), none] [.int (-1)] τ) ∧
    (∀ (a0 : Nat) (a1 : Int32) (a2 : Int32) (x0 : Int32) (τ : St), Ru M_H_set d Q 12 [some (.ref a0), some (.int a1), some (.int a2), none] [.int x0] τ = Q (some (.int x0)) τ) ∧
    (∀ (a0 : Nat) (a1 : Int32) (a2 : Int32) (τ : St), Ru M_H_set d Q 13 [some (.ref a0), some (.int a1), some (.int a2), none] [] τ = Ru M_H_set d Q 14 [some (.ref a0), some (.int a1), some (.int a2), none] [.int a1] τ) ∧
    (∀ (a0 : Nat) (a1 : Int32) (a2 : Int32) (x0 : Int32) (τ : St), Ru M_H_set d Q 14 [some (.ref a0), some (.int a1), some (.int a2), none] [.int x0] τ = ((¬ x0 = 0 → Ru M_H_set d Q 40 [some (.ref a0), some (.int a1), some (.int a2), none] [] τ) ∧ (x0 = 0 → Ru M_H_set d Q 17 [some (.ref a0), some (.int a1), some (.int a2), none] [] τ))) ∧
    (∀ (a0 : Nat) (a1 : Int32) (a2 : Int32) (τ : St), Ru M_H_set d Q 17 [some (.ref a0), some (.int a1), some (.int a2), none] [] τ = Ru M_H_set d Q 18 [some (.ref a0), some (.int a1), some (.int a2), none] [.int a2] τ) ∧
    (∀ (a0 : Nat) (a1 : Int32) (a2 : Int32) (x0 : Int32) (τ : St), Ru M_H_set d Q 18 [some (.ref a0), some (.int a1), some (.int a2), none] [.int x0] τ = Ru M_H_set d Q 19 [some (.ref a0), some (.int a1), some (.int a2), none] [.ref a0, .int x0] τ) ∧
    (∀ (a0 : Nat) (a1 : Int32) (a2 : Int32) (x0 : Nat) (x1 : Int32) (τ : St), Ru M_H_set d Q 19 [some (.ref a0), some (.int a1), some (.int a2), none] [.ref x0, .int x1] τ = (isA 11 x0 ∧ Ru M_H_set d Q 22 [some (.ref a0), some (.int a1), some (.int a2), none] [.ref (rtab x0 3), .int x1] τ)) ∧
    (∀ (a0 : Nat) (a1 : Int32) (a2 : Int32) (x0 : Nat) (x1 : Int32) (τ : St), Ru M_H_set d Q 22 [some (.ref a0), some (.int a1), some (.int a2), none] [.ref x0, .int x1] τ = (isA 1 x0 ∧ Ru M_H_set d Q 25 [some (.ref a0), some (.int a1), some (.int a2), none] [.int (τ.1 x0 4), .int x1] τ)) ∧
    (∀ (a0 : Nat) (a1 : Int32) (a2 : Int32) (x0 : Int32) (x1 : Int32) (τ : St), Ru M_H_set d Q 25 [some (.ref a0), some (.int a1), some (.int a2), none] [.int x0, .int x1] τ = ((x1 < x0 → Ru M_H_set d Q 40 [some (.ref a0), some (.int a1), some (.int a2), none] [] τ) ∧ (¬ x1 < x0 → Ru M_H_set d Q 28 [some (.ref a0), some (.int a1), some (.int a2), none] [] τ))) ∧
    (∀ (a0 : Nat) (a1 : Int32) (a2 : Int32) (τ : St), Ru M_H_set d Q 28 [some (.ref a0), some (.int a1), some (.int a2), none] [] τ = Ru M_H_set d Q 29 [some (.ref a0), some (.int a1), some (.int a2), none] [.ref a0] τ) ∧
    (∀ (a0 : Nat) (a1 : Int32) (a2 : Int32) (x0 : Nat) (τ : St), Ru M_H_set d Q 29 [some (.ref a0), some (.int a1), some (.int a2), none] [.ref x0] τ = (isA 11 x0 ∧ Ru M_H_set d Q 32 [some (.ref a0), some (.int a1), some (.int a2), none] [.int (τ.1 x0 8)] τ)) ∧
    (∀ (a0 : Nat) (a1 : Int32) (a2 : Int32) (x0 : Int32) (τ : St), Ru M_H_set d Q 32 [some (.ref a0), some (.int a1), some (.int a2), none] [.int x0] τ = Ru M_H_set d Q 33 [some (.ref a0), some (.int a1), some (.int a2), some (.int x0)] [] τ) ∧
    (∀ (a0 : Nat) (a1 : Int32) (a2 : Int32) (a3 : Int32) (τ : St), Ru M_H_set d Q 33 [some (.ref a0), some (.int a1), some (.int a2), some (.int a3)] [] τ = Ru M_H_set d Q 34 [some (.ref a0), some (.int a1), some (.int a2), some (.int a3)] [.ref a0] τ) ∧
    (∀ (a0 : Nat) (a1 : Int32) (a2 : Int32) (a3 : Int32) (x0 : Nat) (τ : St), Ru M_H_set d Q 34 [some (.ref a0), some (.int a1), some (.int a2), some (.int a3)] [.ref x0] τ = Ru M_H_set d Q 35 [some (.ref a0), some (.int a1), some (.int a2), some (.int a3)] [.int a2, .ref x0] τ) ∧
    (∀ (a0 : Nat) (a1 : Int32) (a2 : Int32) (a3 : Int32) (x0 : Int32) (x1 : Nat) (τ : St), Ru M_H_set d Q 35 [some (.ref a0), some (.int a1), some (.int a2), some (.int a3)] [.int x0, .ref x1] τ = (isA 11 x1 ∧ Ru M_H_set d Q 38 [some (.ref a0), some (.int a1), some (.int a2), some (.int a3)] [] (sI τ x1 8 x0))) ∧
    (∀ (a0 : Nat) (a1 : Int32) (a2 : Int32) (a3 : Int32) (τ : St), Ru M_H_set d Q 38 [some (.ref a0), some (.int a1), some (.int a2), some (.int a3)] [] τ = Ru M_H_set d Q 39 [some (.ref a0), some (.int a1), some (.int a2), some (.int a3)] [.int a3] τ) ∧
    (∀ (a0 : Nat) (a1 : Int32) (a2 : Int32) (a3 : Int32) (x0 : Int32) (τ : St), Ru M_H_set d Q 39 [some (.ref a0), some (.int a1), some (.int a2), some (.int a3)] [.int x0] τ = Q (some (.int x0)) τ) ∧
    (∀ (a0 : Nat) (a1 : Int32) (a2 : Int32) (τ : St), Ru M_H_set d Q 40 [some (.ref a0), some (.int a1), some (.int a2), none] [] τ = Ru M_H_set d Q 41 [some (.ref a0), some (.int a1), some (.int a2), none] [.int a1] τ) ∧
    (∀ (a0 : Nat) (a1 : Int32) (a2 : Int32) (x0 : Int32) (τ : St), Ru M_H_set d Q 41 [some (.ref a0), some (.int a1), some (.int a2), none] [.int x0] τ = Ru M_H_set d Q 42 [some (.ref a0), some (.int a1), some (.int a2), none] [.int 1, .int x0] τ) ∧
    (∀ (a0 : Nat) (a1 : Int32) (a2 : Int32) (x0 : Int32) (x1 : Int32) (τ : St), Ru M_H_set d Q 42 [some (.ref a0), some (.int a1), some (.int a2), none] [.int x0, .int x1] τ = ((¬ x1 = x0 → Ru M_H_set d Q 57 [some (.ref a0), some (.int a1), some (.int a2), none] [] τ) ∧ (x1 = x0 → Ru M_H_set d Q 45 [some (.ref a0), some (.int a1), some (.int a2), none] [] τ))) ∧
    (∀ (a0 : Nat) (a1 : Int32) (a2 : Int32) (τ : St), Ru M_H_set d Q 45 [some (.ref a0), some (.int a1), some (.int a2), none] [] τ = Ru M_H_set d Q 46 [some (.ref a0), some (.int a1), some (.int a2), none] [.ref a0] τ) ∧
    (∀ (a0 : Nat) (a1 : Int32) (a2 : Int32) (x0 : Nat) (τ : St), Ru M_H_set d Q 46 [some (.ref a0), some (.int a1), some (.int a2), none] [.ref x0] τ = (isA 11 x0 ∧ Ru M_H_set d Q 49 [some (.ref a0), some (.int a1), some (.int a2), none] [.int (τ.1 x0 9)] τ)) ∧
    (∀ (a0 : Nat) (a1 : Int32) (a2 : Int32) (x0 : Int32) (τ : St), Ru M_H_set d Q 49 [some (.ref a0), some (.int a1), some (.int a2), none] [.int x0] τ = Ru M_H_set d Q 50 [some (.ref a0), some (.int a1), some (.int a2), some (.int x0)] [] τ) ∧
    (∀ (a0 : Nat) (a1 : Int32) (a2 : Int32) (a3 : Int32) (τ : St), Ru M_H_set d Q 50 [some (.ref a0), some (.int a1), some (.int a2), some (.int a3)] [] τ = Ru M_H_set d Q 51 [some (.ref a0), some (.int a1), some (.int a2), some (.int a3)] [.ref a0] τ) ∧
    (∀ (a0 : Nat) (a1 : Int32) (a2 : Int32) (a3 : Int32) (x0 : Nat) (τ : St), Ru M_H_set d Q 51 [some (.ref a0), some (.int a1), some (.int a2), some (.int a3)] [.ref x0] τ = Ru M_H_set d Q 52 [some (.ref a0), some (.int a1), some (.int a2), some (.int a3)] [.int a2, .ref x0] τ) ∧
    (∀ (a0 : Nat) (a1 : Int32) (a2 : Int32) (a3 : Int32) (x0 : Int32) (x1 : Nat) (τ : St), Ru M_H_set d Q 52 [some (.ref a0), some (.int a1), some (.int a2), some (.int a3)] [.int x0, .ref x1] τ = (isA 11 x1 ∧ Ru M_H_set d Q 55 [some (.ref a0), some (.int a1), some (.int a2), some (.int a3)] [] (sI τ x1 9 x0))) ∧
    (∀ (a0 : Nat) (a1 : Int32) (a2 : Int32) (a3 : Int32) (τ : St), Ru M_H_set d Q 55 [some (.ref a0), some (.int a1), some (.int a2), some (.int a3)] [] τ = Ru M_H_set d Q 56 [some (.ref a0), some (.int a1), some (.int a2), some (.int a3)] [.int a3] τ) ∧
    (∀ (a0 : Nat) (a1 : Int32) (a2 : Int32) (a3 : Int32) (x0 : Int32) (τ : St), Ru M_H_set d Q 56 [some (.ref a0), some (.int a1), some (.int a2), some (.int a3)] [.int x0] τ = Q (some (.int x0)) τ) ∧
    (∀ (a0 : Nat) (a1 : Int32) (a2 : Int32) (τ : St), Ru M_H_set d Q 57 [some (.ref a0), some (.int a1), some (.int a2), none] [] τ = Ru M_H_set d Q 58 [some (.ref a0), some (.int a1), some (.int a2), none] [.int (-1)] τ) ∧
    (∀ (a0 : Nat) (a1 : Int32) (a2 : Int32) (x0 : Int32) (τ : St), Ru M_H_set d Q 58 [some (.ref a0), some (.int a1), some (.int a2), none] [.int x0] τ = Q (some (.int x0)) τ) := ⟨
  fun _ _ _ _ => (R_at ok_H_set rfl).trans (e_ild rfl),
  fun _ _ _ _ _ => (R_at ok_H_set rfl).trans e_if,
  fun _ _ _ _ => (R_at ok_H_set rfl).trans (e_ild rfl),
  fun _ _ _ _ _ => (R_at ok_H_set rfl).trans e_push,
  fun _ _ _ _ _ _ => (R_at ok_H_set rfl).trans e_ic,
  fun _ _ _ _ => (R_at ok_H_set rfl).trans e_push,
  fun _ _ _ _ _ => (R_at ok_H_set rfl).trans e_iret,
  fun _ _ _ _ => (R_at ok_H_set rfl).trans (e_ild rfl),
  fun _ _ _ _ _ => (R_at ok_H_set rfl).trans e_ifn,
  fun _ _ _ _ => (R_at ok_H_set rfl).trans (e_ild rfl),
  fun _ _ _ _ _ => (R_at ok_H_set rfl).trans (e_ald rfl),
  fun _ _ _ _ _ _ => (R_at ok_H_set rfl).trans e_gR,
  fun _ _ _ _ _ _ => (R_at ok_H_set rfl).trans e_gI,
  fun _ _ _ _ _ _ => (R_at ok_H_set rfl).trans e_ic,
  fun _ _ _ _ => (R_at ok_H_set rfl).trans (e_ald rfl),
  fun _ _ _ _ _ => (R_at ok_H_set rfl).trans e_gI,
  fun _ _ _ _ _ => (R_at ok_H_set rfl).trans e_ist,
  fun _ _ _ _ _ => (R_at ok_H_set rfl).trans (e_ald rfl),
  fun _ _ _ _ _ _ => (R_at ok_H_set rfl).trans (e_ild rfl),
  fun _ _ _ _ _ _ _ => (R_at ok_H_set rfl).trans e_pI,
  fun _ _ _ _ _ => (R_at ok_H_set rfl).trans (e_ild rfl),
  fun _ _ _ _ _ _ => (R_at ok_H_set rfl).trans e_iret,
  fun _ _ _ _ => (R_at ok_H_set rfl).trans (e_ild rfl),
  fun _ _ _ _ _ => (R_at ok_H_set rfl).trans e_push,
  fun _ _ _ _ _ _ => (R_at ok_H_set rfl).trans e_icn,
  fun _ _ _ _ => (R_at ok_H_set rfl).trans (e_ald rfl),
  fun _ _ _ _ _ => (R_at ok_H_set rfl).trans e_gI,
  fun _ _ _ _ _ => (R_at ok_H_set rfl).trans e_ist,
  fun _ _ _ _ _ => (R_at ok_H_set rfl).trans (e_ald rfl),
  fun _ _ _ _ _ _ => (R_at ok_H_set rfl).trans (e_ild rfl),
  fun _ _ _ _ _ _ _ => (R_at ok_H_set rfl).trans e_pI,
  fun _ _ _ _ _ => (R_at ok_H_set rfl).trans (e_ild rfl),
  fun _ _ _ _ _ _ => (R_at ok_H_set rfl).trans e_iret,
  fun _ _ _ _ => (R_at ok_H_set rfl).trans e_push,
  fun _ _ _ _ _ => (R_at ok_H_set rfl).trans e_iret⟩
set_option maxHeartbeats 4000000 in
theorem N_H_sheet (d : Nat) (Q : Qt) : ∀ (x0 : Nat) (x1 : Int32) (x2 : Int32) (x3 : Int32) (x4 : Int32) (τ : St), Cl (d + 1) m_H_sheet [.ref x0, .int x1, .int x2, .int x3, .int x4] τ Q = Ru M_H_sheet d Q 0 [some (.ref x0), some (.int x1), some (.int x2), some (.int x3), some (.int x4)] [] τ := fun _ _ _ _ _ _ => propext ⟨fun h => h.2, fun h => ⟨Nat.le_of_ble_eq_true rfl, h⟩⟩
set_option maxHeartbeats 4000000 in
theorem E_H_sheet (d : Nat) (Q : Qt) :
    (∀ (a0 : Nat) (a1 : Int32) (a2 : Int32) (a3 : Int32) (a4 : Int32) (τ : St), Ru M_H_sheet d Q 0 [some (.ref a0), some (.int a1), some (.int a2), some (.int a3), some (.int a4)] [] τ = Ru M_H_sheet d Q 1 [some (.ref a0), some (.int a1), some (.int a2), some (.int a3), some (.int a4)] [.int a1] τ) ∧
    (∀ (a0 : Nat) (a1 : Int32) (a2 : Int32) (a3 : Int32) (a4 : Int32) (x0 : Int32) (τ : St), Ru M_H_sheet d Q 1 [some (.ref a0), some (.int a1), some (.int a2), some (.int a3), some (.int a4)] [.int x0] τ = ((x0 < 0 → Ru M_H_sheet d Q 15 [some (.ref a0), some (.int a1), some (.int a2), some (.int a3), some (.int a4)] [] τ) ∧ (¬ x0 < 0 → Ru M_H_sheet d Q 4 [some (.ref a0), some (.int a1), some (.int a2), some (.int a3), some (.int a4)] [] τ))) ∧
    (∀ (a0 : Nat) (a1 : Int32) (a2 : Int32) (a3 : Int32) (a4 : Int32) (τ : St), Ru M_H_sheet d Q 4 [some (.ref a0), some (.int a1), some (.int a2), some (.int a3), some (.int a4)] [] τ = Ru M_H_sheet d Q 5 [some (.ref a0), some (.int a1), some (.int a2), some (.int a3), some (.int a4)] [.int a1] τ) ∧
    (∀ (a0 : Nat) (a1 : Int32) (a2 : Int32) (a3 : Int32) (a4 : Int32) (x0 : Int32) (τ : St), Ru M_H_sheet d Q 5 [some (.ref a0), some (.int a1), some (.int a2), some (.int a3), some (.int a4)] [.int x0] τ = Ru M_H_sheet d Q 6 [some (.ref a0), some (.int a1), some (.int a2), some (.int a3), some (.int a4)] [.int 3, .int x0] τ) ∧
    (∀ (a0 : Nat) (a1 : Int32) (a2 : Int32) (a3 : Int32) (a4 : Int32) (x0 : Int32) (x1 : Int32) (τ : St), Ru M_H_sheet d Q 6 [some (.ref a0), some (.int a1), some (.int a2), some (.int a3), some (.int a4)] [.int x0, .int x1] τ = ((x0 < x1 → Ru M_H_sheet d Q 15 [some (.ref a0), some (.int a1), some (.int a2), some (.int a3), some (.int a4)] [] τ) ∧ (¬ x0 < x1 → Ru M_H_sheet d Q 9 [some (.ref a0), some (.int a1), some (.int a2), some (.int a3), some (.int a4)] [] τ))) ∧
    (∀ (a0 : Nat) (a1 : Int32) (a2 : Int32) (a3 : Int32) (a4 : Int32) (τ : St), Ru M_H_sheet d Q 9 [some (.ref a0), some (.int a1), some (.int a2), some (.int a3), some (.int a4)] [] τ = Ru M_H_sheet d Q 10 [some (.ref a0), some (.int a1), some (.int a2), some (.int a3), some (.int a4)] [.int a2] τ) ∧
    (∀ (a0 : Nat) (a1 : Int32) (a2 : Int32) (a3 : Int32) (a4 : Int32) (x0 : Int32) (τ : St), Ru M_H_sheet d Q 10 [some (.ref a0), some (.int a1), some (.int a2), some (.int a3), some (.int a4)] [.int x0] τ = Ru M_H_sheet d Q 12 [some (.ref a0), some (.int a1), some (.int a2), some (.int a3), some (.int a4)] [.int 8, .int x0] τ) ∧
    (∀ (a0 : Nat) (a1 : Int32) (a2 : Int32) (a3 : Int32) (a4 : Int32) (x0 : Int32) (x1 : Int32) (τ : St), Ru M_H_sheet d Q 12 [some (.ref a0), some (.int a1), some (.int a2), some (.int a3), some (.int a4)] [.int x0, .int x1] τ = ((x1 ≤ x0 → Ru M_H_sheet d Q 17 [some (.ref a0), some (.int a1), some (.int a2), some (.int a3), some (.int a4)] [] τ) ∧ (¬ x1 ≤ x0 → Ru M_H_sheet d Q 15 [some (.ref a0), some (.int a1), some (.int a2), some (.int a3), some (.int a4)] [] τ))) ∧
    (∀ (a0 : Nat) (a1 : Int32) (a2 : Int32) (a3 : Int32) (a4 : Int32) (τ : St), Ru M_H_sheet d Q 15 [some (.ref a0), some (.int a1), some (.int a2), some (.int a3), some (.int a4)] [] τ = Ru M_H_sheet d Q 16 [some (.ref a0), some (.int a1), some (.int a2), some (.int a3), some (.int a4)] [.int (-1)] τ) ∧
    (∀ (a0 : Nat) (a1 : Int32) (a2 : Int32) (a3 : Int32) (a4 : Int32) (x0 : Int32) (τ : St), Ru M_H_sheet d Q 16 [some (.ref a0), some (.int a1), some (.int a2), some (.int a3), some (.int a4)] [.int x0] τ = Q (some (.int x0)) τ) ∧
    (∀ (a0 : Nat) (a1 : Int32) (a2 : Int32) (a3 : Int32) (a4 : Int32) (τ : St), Ru M_H_sheet d Q 17 [some (.ref a0), some (.int a1), some (.int a2), some (.int a3), some (.int a4)] [] τ = Ru M_H_sheet d Q 18 [some (.ref a0), some (.int a1), some (.int a2), some (.int a3), some (.int a4)] [.int a1] τ) ∧
    (∀ (a0 : Nat) (a1 : Int32) (a2 : Int32) (a3 : Int32) (a4 : Int32) (x0 : Int32) (τ : St), Ru M_H_sheet d Q 18 [some (.ref a0), some (.int a1), some (.int a2), some (.int a3), some (.int a4)] [.int x0] τ = Ru M_H_sheet d Q 19 [some (.ref a0), some (.int a1), some (.int a2), some (.int a3), some (.int a4)] [.int 3, .int x0] τ) ∧
    (∀ (a0 : Nat) (a1 : Int32) (a2 : Int32) (a3 : Int32) (a4 : Int32) (x0 : Int32) (x1 : Int32) (τ : St), Ru M_H_sheet d Q 19 [some (.ref a0), some (.int a1), some (.int a2), some (.int a3), some (.int a4)] [.int x0, .int x1] τ = ((¬ x1 = x0 → Ru M_H_sheet d Q 35 [some (.ref a0), some (.int a1), some (.int a2), some (.int a3), some (.int a4)] [] τ) ∧ (x1 = x0 → Ru M_H_sheet d Q 22 [some (.ref a0), some (.int a1), some (.int a2), some (.int a3), some (.int a4)] [] τ))) ∧
    (∀ (a0 : Nat) (a1 : Int32) (a2 : Int32) (a3 : Int32) (a4 : Int32) (τ : St), Ru M_H_sheet d Q 22 [some (.ref a0), some (.int a1), some (.int a2), some (.int a3), some (.int a4)] [] τ = Ru M_H_sheet d Q 23 [some (.ref a0), some (.int a1), some (.int a2), some (.int a3), some (.int a4)] [.ref a0] τ) ∧
    (∀ (a0 : Nat) (a1 : Int32) (a2 : Int32) (a3 : Int32) (a4 : Int32) (x0 : Nat) (τ : St), Ru M_H_sheet d Q 23 [some (.ref a0), some (.int a1), some (.int a2), some (.int a3), some (.int a4)] [.ref x0] τ = Ru M_H_sheet d Q 24 [some (.ref a0), some (.int a1), some (.int a2), some (.int a3), some (.int a4)] [.int a1, .ref x0] τ) ∧
    (∀ (a0 : Nat) (a1 : Int32) (a2 : Int32) (a3 : Int32) (a4 : Int32) (x0 : Int32) (x1 : Nat) (τ : St), Ru M_H_sheet d Q 24 [some (.ref a0), some (.int a1), some (.int a2), some (.int a3), some (.int a4)] [.int x0, .ref x1] τ = Ru M_H_sheet d Q 25 [some (.ref a0), some (.int a1), some (.int a2), some (.int a3), some (.int a4)] [.int 0, .int x0, .ref x1] τ) ∧
    (∀ (a0 : Nat) (a1 : Int32) (a2 : Int32) (a3 : Int32) (a4 : Int32) (x0 : Int32) (x1 : Int32) (x2 : Nat) (τ : St), Ru M_H_sheet d Q 25 [some (.ref a0), some (.int a1), some (.int a2), some (.int a3), some (.int a4)] [.int x0, .int x1, .ref x2] τ = Ru M_H_sheet d Q 26 [some (.ref a0), some (.int a1), some (.int a2), some (.int a3), some (.int a4)] [.int a3, .int x0, .int x1, .ref x2] τ) ∧
    (∀ (a0 : Nat) (a1 : Int32) (a2 : Int32) (a3 : Int32) (a4 : Int32) (x0 : Int32) (x1 : Int32) (x2 : Int32) (x3 : Nat) (τ : St), Ru M_H_sheet d Q 26 [some (.ref a0), some (.int a1), some (.int a2), some (.int a3), some (.int a4)] [.int x0, .int x1, .int x2, .ref x3] τ = Ru M_H_sheet d Q 28 [some (.ref a0), some (.int a1), some (.int a2), some (.int a3), some (.int a4)] [.int a4, .int x0, .int x1, .int x2, .ref x3] τ) ∧
    (∀ (a0 : Nat) (a1 : Int32) (a2 : Int32) (a3 : Int32) (a4 : Int32) (x0 : Int32) (x1 : Int32) (x2 : Int32) (x3 : Int32) (x4 : Nat) (τ : St), Ru M_H_sheet d Q 28 [some (.ref a0), some (.int a1), some (.int a2), some (.int a3), some (.int a4)] [.int x0, .int x1, .int x2, .int x3, .ref x4] τ = (isA 11 x4 ∧ Cl d m_H_weigh [.ref x4, .int x3, .int x2, .int x1, .int x0] τ (fun v τ' => Ru M_H_sheet d Q 31 [some (.ref a0), some (.int a1), some (.int a2), some (.int a3), some (.int a4)] (v.toList ++ []) τ'))) ∧
    (∀ (a0 : Nat) (a1 : Int32) (a2 : Int32) (a3 : Int32) (a4 : Int32) (x0 : Int32) (τ : St), Ru M_H_sheet d Q 31 [some (.ref a0), some (.int a1), some (.int a2), some (.int a3), some (.int a4)] [.int x0] τ = Ru M_H_sheet d Q 32 [some (.ref a0), some (.int a1), some (.int a2), some (.int a3), some (.int a4)] [] τ) ∧
    (∀ (a0 : Nat) (a1 : Int32) (a2 : Int32) (a3 : Int32) (a4 : Int32) (τ : St), Ru M_H_sheet d Q 32 [some (.ref a0), some (.int a1), some (.int a2), some (.int a3), some (.int a4)] [] τ = Ru M_H_sheet d Q 34 [some (.ref a0), some (.int a1), some (.int a2), some (.int a3), some (.int a4)] [.int (-3)] τ) ∧
    (∀ (a0 : Nat) (a1 : Int32) (a2 : Int32) (a3 : Int32) (a4 : Int32) (x0 : Int32) (τ : St), Ru M_H_sheet d Q 34 [some (.ref a0), some (.int a1), some (.int a2), some (.int a3), some (.int a4)] [.int x0] τ = Q (some (.int x0)) τ) ∧
    (∀ (a0 : Nat) (a1 : Int32) (a2 : Int32) (a3 : Int32) (a4 : Int32) (τ : St), Ru M_H_sheet d Q 35 [some (.ref a0), some (.int a1), some (.int a2), some (.int a3), some (.int a4)] [] τ = Ru M_H_sheet d Q 36 [some (.ref a0), some (.int a1), some (.int a2), some (.int a3), some (.int a4)] [.int a2] τ) ∧
    (∀ (a0 : Nat) (a1 : Int32) (a2 : Int32) (a3 : Int32) (a4 : Int32) (x0 : Int32) (τ : St), Ru M_H_sheet d Q 36 [some (.ref a0), some (.int a1), some (.int a2), some (.int a3), some (.int a4)] [.int x0] τ = ((0 ≤ x0 → Ru M_H_sheet d Q 44 [some (.ref a0), some (.int a1), some (.int a2), some (.int a3), some (.int a4)] [] τ) ∧ (¬ 0 ≤ x0 → Ru M_H_sheet d Q 39 [some (.ref a0), some (.int a1), some (.int a2), some (.int a3), some (.int a4)] [] τ))) ∧
    (∀ (a0 : Nat) (a1 : Int32) (a2 : Int32) (a3 : Int32) (a4 : Int32) (τ : St), Ru M_H_sheet d Q 39 [some (.ref a0), some (.int a1), some (.int a2), some (.int a3), some (.int a4)] [] τ = Ru M_H_sheet d Q 41 [some (.ref a0), some (.int a1), some (.int a2), some (.int a3), some (.int a4)] [.int (-2)] τ) ∧
    (∀ (a0 : Nat) (a1 : Int32) (a2 : Int32) (a3 : Int32) (a4 : Int32) (x0 : Int32) (τ : St), Ru M_H_sheet d Q 41 [some (.ref a0), some (.int a1), some (.int a2), some (.int a3), some (.int a4)] [.int x0] τ = Ru M_H_sheet d Q 53 [some (.ref a0), some (.int a1), some (.int a2), some (.int a3), some (.int a4)] [.int x0] τ) ∧
    (∀ (a0 : Nat) (a1 : Int32) (a2 : Int32) (a3 : Int32) (a4 : Int32) (τ : St), Ru M_H_sheet d Q 44 [some (.ref a0), some (.int a1), some (.int a2), some (.int a3), some (.int a4)] [] τ = Ru M_H_sheet d Q 45 [some (.ref a0), some (.int a1), some (.int a2), some (.int a3), some (.int a4)] [.ref a0] τ) ∧
    (∀ (a0 : Nat) (a1 : Int32) (a2 : Int32) (a3 : Int32) (a4 : Int32) (x0 : Nat) (τ : St), Ru M_H_sheet d Q 45 [some (.ref a0), some (.int a1), some (.int a2), some (.int a3), some (.int a4)] [.ref x0] τ = Ru M_H_sheet d Q 46 [some (.ref a0), some (.int a1), some (.int a2), some (.int a3), some (.int a4)] [.int a1, .ref x0] τ) ∧
    (∀ (a0 : Nat) (a1 : Int32) (a2 : Int32) (a3 : Int32) (a4 : Int32) (x0 : Int32) (x1 : Nat) (τ : St), Ru M_H_sheet d Q 46 [some (.ref a0), some (.int a1), some (.int a2), some (.int a3), some (.int a4)] [.int x0, .ref x1] τ = Ru M_H_sheet d Q 47 [some (.ref a0), some (.int a1), some (.int a2), some (.int a3), some (.int a4)] [.int a2, .int x0, .ref x1] τ) ∧
    (∀ (a0 : Nat) (a1 : Int32) (a2 : Int32) (a3 : Int32) (a4 : Int32) (x0 : Int32) (x1 : Int32) (x2 : Nat) (τ : St), Ru M_H_sheet d Q 47 [some (.ref a0), some (.int a1), some (.int a2), some (.int a3), some (.int a4)] [.int x0, .int x1, .ref x2] τ = Ru M_H_sheet d Q 48 [some (.ref a0), some (.int a1), some (.int a2), some (.int a3), some (.int a4)] [.int a3, .int x0, .int x1, .ref x2] τ) ∧
    (∀ (a0 : Nat) (a1 : Int32) (a2 : Int32) (a3 : Int32) (a4 : Int32) (x0 : Int32) (x1 : Int32) (x2 : Int32) (x3 : Nat) (τ : St), Ru M_H_sheet d Q 48 [some (.ref a0), some (.int a1), some (.int a2), some (.int a3), some (.int a4)] [.int x0, .int x1, .int x2, .ref x3] τ = Ru M_H_sheet d Q 50 [some (.ref a0), some (.int a1), some (.int a2), some (.int a3), some (.int a4)] [.int a4, .int x0, .int x1, .int x2, .ref x3] τ) ∧
    (∀ (a0 : Nat) (a1 : Int32) (a2 : Int32) (a3 : Int32) (a4 : Int32) (x0 : Int32) (x1 : Int32) (x2 : Int32) (x3 : Int32) (x4 : Nat) (τ : St), Ru M_H_sheet d Q 50 [some (.ref a0), some (.int a1), some (.int a2), some (.int a3), some (.int a4)] [.int x0, .int x1, .int x2, .int x3, .ref x4] τ = (isA 11 x4 ∧ Cl d m_H_weigh [.ref x4, .int x3, .int x2, .int x1, .int x0] τ (fun v τ' => Ru M_H_sheet d Q 53 [some (.ref a0), some (.int a1), some (.int a2), some (.int a3), some (.int a4)] (v.toList ++ []) τ'))) ∧
    (∀ (a0 : Nat) (a1 : Int32) (a2 : Int32) (a3 : Int32) (a4 : Int32) (x0 : Int32) (τ : St), Ru M_H_sheet d Q 53 [some (.ref a0), some (.int a1), some (.int a2), some (.int a3), some (.int a4)] [.int x0] τ = Q (some (.int x0)) τ) := ⟨
  fun _ _ _ _ _ _ => (R_at ok_H_sheet rfl).trans (e_ild rfl),
  fun _ _ _ _ _ _ _ => (R_at ok_H_sheet rfl).trans e_if,
  fun _ _ _ _ _ _ => (R_at ok_H_sheet rfl).trans (e_ild rfl),
  fun _ _ _ _ _ _ _ => (R_at ok_H_sheet rfl).trans e_push,
  fun _ _ _ _ _ _ _ _ => (R_at ok_H_sheet rfl).trans e_ic,
  fun _ _ _ _ _ _ => (R_at ok_H_sheet rfl).trans (e_ild rfl),
  fun _ _ _ _ _ _ _ => (R_at ok_H_sheet rfl).trans e_push,
  fun _ _ _ _ _ _ _ _ => (R_at ok_H_sheet rfl).trans e_ic,
  fun _ _ _ _ _ _ => (R_at ok_H_sheet rfl).trans e_push,
  fun _ _ _ _ _ _ _ => (R_at ok_H_sheet rfl).trans e_iret,
  fun _ _ _ _ _ _ => (R_at ok_H_sheet rfl).trans (e_ild rfl),
  fun _ _ _ _ _ _ _ => (R_at ok_H_sheet rfl).trans e_push,
  fun _ _ _ _ _ _ _ _ => (R_at ok_H_sheet rfl).trans e_icn,
  fun _ _ _ _ _ _ => (R_at ok_H_sheet rfl).trans (e_ald rfl),
  fun _ _ _ _ _ _ _ => (R_at ok_H_sheet rfl).trans (e_ild rfl),
  fun _ _ _ _ _ _ _ _ => (R_at ok_H_sheet rfl).trans e_push,
  fun _ _ _ _ _ _ _ _ _ => (R_at ok_H_sheet rfl).trans (e_ild rfl),
  fun _ _ _ _ _ _ _ _ _ _ => (R_at ok_H_sheet rfl).trans (e_ild rfl),
  fun _ _ _ _ _ x0 x1 x2 x3 _ _ => (R_at ok_H_sheet rfl).trans (e_cv [.int x3, .int x2, .int x1, .int x0] rfl rfl rfl),
  fun _ _ _ _ _ _ _ => (R_at ok_H_sheet rfl).trans (e_pop rfl),
  fun _ _ _ _ _ _ => (R_at ok_H_sheet rfl).trans e_push,
  fun _ _ _ _ _ _ _ => (R_at ok_H_sheet rfl).trans e_iret,
  fun _ _ _ _ _ _ => (R_at ok_H_sheet rfl).trans (e_ild rfl),
  fun _ _ _ _ _ _ _ => (R_at ok_H_sheet rfl).trans e_if,
  fun _ _ _ _ _ _ => (R_at ok_H_sheet rfl).trans e_push,
  fun _ _ _ _ _ _ _ => (R_at ok_H_sheet rfl).trans e_goto,
  fun _ _ _ _ _ _ => (R_at ok_H_sheet rfl).trans (e_ald rfl),
  fun _ _ _ _ _ _ _ => (R_at ok_H_sheet rfl).trans (e_ild rfl),
  fun _ _ _ _ _ _ _ _ => (R_at ok_H_sheet rfl).trans (e_ild rfl),
  fun _ _ _ _ _ _ _ _ _ => (R_at ok_H_sheet rfl).trans (e_ild rfl),
  fun _ _ _ _ _ _ _ _ _ _ => (R_at ok_H_sheet rfl).trans (e_ild rfl),
  fun _ _ _ _ _ x0 x1 x2 x3 _ _ => (R_at ok_H_sheet rfl).trans (e_cv [.int x3, .int x2, .int x1, .int x0] rfl rfl rfl),
  fun _ _ _ _ _ _ _ => (R_at ok_H_sheet rfl).trans e_iret⟩
set_option maxHeartbeats 4000000 in
theorem N_H_weigh (d : Nat) (Q : Qt) : ∀ (x0 : Nat) (x1 : Int32) (x2 : Int32) (x3 : Int32) (x4 : Int32) (τ : St), Cl (d + 1) m_H_weigh [.ref x0, .int x1, .int x2, .int x3, .int x4] τ Q = Ru M_H_weigh d Q 0 [some (.ref x0), some (.int x1), some (.int x2), some (.int x3), some (.int x4), none, none] [] τ := fun _ _ _ _ _ _ => propext ⟨fun h => h.2, fun h => ⟨Nat.le_of_ble_eq_true rfl, h⟩⟩
set_option maxHeartbeats 4000000 in
theorem E_H_weigh (d : Nat) (Q : Qt) :
    (∀ (a0 : Nat) (a1 : Int32) (a2 : Int32) (a3 : Int32) (a4 : Int32) (τ : St), Ru M_H_weigh d Q 0 [some (.ref a0), some (.int a1), some (.int a2), some (.int a3), some (.int a4), none, none] [] τ = Ru M_H_weigh d Q 1 [some (.ref a0), some (.int a1), some (.int a2), some (.int a3), some (.int a4), none, none] [.int 0] τ) ∧
    (∀ (a0 : Nat) (a1 : Int32) (a2 : Int32) (a3 : Int32) (a4 : Int32) (x0 : Int32) (τ : St), Ru M_H_weigh d Q 1 [some (.ref a0), some (.int a1), some (.int a2), some (.int a3), some (.int a4), none, none] [.int x0] τ = Ru M_H_weigh d Q 3 [some (.ref a0), some (.int a1), some (.int a2), some (.int a3), some (.int a4), some (.int x0), none] [] τ) ∧
    (∀ (a0 : Nat) (a1 : Int32) (a2 : Int32) (a3 : Int32) (a4 : Int32) (a5 : Int32) (τ : St), Ru M_H_weigh d Q 3 [some (.ref a0), some (.int a1), some (.int a2), some (.int a3), some (.int a4), some (.int a5), none] [] τ = Ru M_H_weigh d Q 4 [some (.ref a0), some (.int a1), some (.int a2), some (.int a3), some (.int a4), some (.int a5), none] [.int 0] τ) ∧
    (∀ (a0 : Nat) (a1 : Int32) (a2 : Int32) (a3 : Int32) (a4 : Int32) (a5 : Int32) (x0 : Int32) (τ : St), Ru M_H_weigh d Q 4 [some (.ref a0), some (.int a1), some (.int a2), some (.int a3), some (.int a4), some (.int a5), none] [.int x0] τ = Rs M_H_weigh d Q 6 [some (.ref a0), some (.int a1), some (.int a2), some (.int a3), some (.int a4), some (.int a5), some (.int x0)] [] τ) ∧
    (∀ (a0 : Nat) (a1 : Int32) (a2 : Int32) (a3 : Int32) (a4 : Int32) (a5 : Int32) (a6 : Int32) (τ : St), Ru M_H_weigh d Q 6 [some (.ref a0), some (.int a1), some (.int a2), some (.int a3), some (.int a4), some (.int a5), some (.int a6)] [] τ = Ru M_H_weigh d Q 8 [some (.ref a0), some (.int a1), some (.int a2), some (.int a3), some (.int a4), some (.int a5), some (.int a6)] [.int a6] τ) ∧
    (∀ (a0 : Nat) (a1 : Int32) (a2 : Int32) (a3 : Int32) (a4 : Int32) (a5 : Int32) (a6 : Int32) (x0 : Int32) (τ : St), Ru M_H_weigh d Q 8 [some (.ref a0), some (.int a1), some (.int a2), some (.int a3), some (.int a4), some (.int a5), some (.int a6)] [.int x0] τ = Ru M_H_weigh d Q 9 [some (.ref a0), some (.int a1), some (.int a2), some (.int a3), some (.int a4), some (.int a5), some (.int a6)] [.ref a0, .int x0] τ) ∧
    (∀ (a0 : Nat) (a1 : Int32) (a2 : Int32) (a3 : Int32) (a4 : Int32) (a5 : Int32) (a6 : Int32) (x0 : Nat) (x1 : Int32) (τ : St), Ru M_H_weigh d Q 9 [some (.ref a0), some (.int a1), some (.int a2), some (.int a3), some (.int a4), some (.int a5), some (.int a6)] [.ref x0, .int x1] τ = (isA 11 x0 ∧ Ru M_H_weigh d Q 12 [some (.ref a0), some (.int a1), some (.int a2), some (.int a3), some (.int a4), some (.int a5), some (.int a6)] [.ref (rtab x0 3), .int x1] τ)) ∧
    (∀ (a0 : Nat) (a1 : Int32) (a2 : Int32) (a3 : Int32) (a4 : Int32) (a5 : Int32) (a6 : Int32) (x0 : Nat) (x1 : Int32) (τ : St), Ru M_H_weigh d Q 12 [some (.ref a0), some (.int a1), some (.int a2), some (.int a3), some (.int a4), some (.int a5), some (.int a6)] [.ref x0, .int x1] τ = (isA 1 x0 ∧ Ru M_H_weigh d Q 15 [some (.ref a0), some (.int a1), some (.int a2), some (.int a3), some (.int a4), some (.int a5), some (.int a6)] [.int (τ.1 x0 1), .int x1] τ)) ∧
    (∀ (a0 : Nat) (a1 : Int32) (a2 : Int32) (a3 : Int32) (a4 : Int32) (a5 : Int32) (a6 : Int32) (x0 : Int32) (x1 : Int32) (τ : St), Ru M_H_weigh d Q 15 [some (.ref a0), some (.int a1), some (.int a2), some (.int a3), some (.int a4), some (.int a5), some (.int a6)] [.int x0, .int x1] τ = ((x0 ≤ x1 → Ru M_H_weigh d Q 71 [some (.ref a0), some (.int a1), some (.int a2), some (.int a3), some (.int a4), some (.int a5), some (.int a6)] [] τ) ∧ (¬ x0 ≤ x1 → Ru M_H_weigh d Q 18 [some (.ref a0), some (.int a1), some (.int a2), some (.int a3), some (.int a4), some (.int a5), some (.int a6)] [] τ))) ∧
    (∀ (a0 : Nat) (a1 : Int32) (a2 : Int32) (a3 : Int32) (a4 : Int32) (a5 : Int32) (a6 : Int32) (τ : St), Ru M_H_weigh d Q 18 [some (.ref a0), some (.int a1), some (.int a2), some (.int a3), some (.int a4), some (.int a5), some (.int a6)] [] τ = Ru M_H_weigh d Q 20 [some (.ref a0), some (.int a1), some (.int a2), some (.int a3), some (.int a4), some (.int a5), some (.int a6)] [.int a6] τ) ∧
    (∀ (a0 : Nat) (a1 : Int32) (a2 : Int32) (a3 : Int32) (a4 : Int32) (a5 : Int32) (a6 : Int32) (x0 : Int32) (τ : St), Ru M_H_weigh d Q 20 [some (.ref a0), some (.int a1), some (.int a2), some (.int a3), some (.int a4), some (.int a5), some (.int a6)] [.int x0] τ = Ru M_H_weigh d Q 22 [some (.ref a0), some (.int a1), some (.int a2), some (.int a3), some (.int a4), some (.int a5), some (.int a6)] [.int 8, .int x0] τ) ∧
    (∀ (a0 : Nat) (a1 : Int32) (a2 : Int32) (a3 : Int32) (a4 : Int32) (a5 : Int32) (a6 : Int32) (x0 : Int32) (x1 : Int32) (τ : St), Ru M_H_weigh d Q 22 [some (.ref a0), some (.int a1), some (.int a2), some (.int a3), some (.int a4), some (.int a5), some (.int a6)] [.int x0, .int x1] τ = ((x0 ≤ x1 → Ru M_H_weigh d Q 71 [some (.ref a0), some (.int a1), some (.int a2), some (.int a3), some (.int a4), some (.int a5), some (.int a6)] [] τ) ∧ (¬ x0 ≤ x1 → Ru M_H_weigh d Q 25 [some (.ref a0), some (.int a1), some (.int a2), some (.int a3), some (.int a4), some (.int a5), some (.int a6)] [] τ))) ∧
    (∀ (a0 : Nat) (a1 : Int32) (a2 : Int32) (a3 : Int32) (a4 : Int32) (a5 : Int32) (a6 : Int32) (τ : St), Ru M_H_weigh d Q 25 [some (.ref a0), some (.int a1), some (.int a2), some (.int a3), some (.int a4), some (.int a5), some (.int a6)] [] τ = Ru M_H_weigh d Q 26 [some (.ref a0), some (.int a1), some (.int a2), some (.int a3), some (.int a4), some (.int a5), some (.int a6)] [.ref a0] τ) ∧
    (∀ (a0 : Nat) (a1 : Int32) (a2 : Int32) (a3 : Int32) (a4 : Int32) (a5 : Int32) (a6 : Int32) (x0 : Nat) (τ : St), Ru M_H_weigh d Q 26 [some (.ref a0), some (.int a1), some (.int a2), some (.int a3), some (.int a4), some (.int a5), some (.int a6)] [.ref x0] τ = (isA 11 x0 ∧ Ru M_H_weigh d Q 29 [some (.ref a0), some (.int a1), some (.int a2), some (.int a3), some (.int a4), some (.int a5), some (.int a6)] [.ref (rtab x0 7)] τ)) ∧
    (∀ (a0 : Nat) (a1 : Int32) (a2 : Int32) (a3 : Int32) (a4 : Int32) (a5 : Int32) (a6 : Int32) (x0 : Nat) (τ : St), Ru M_H_weigh d Q 29 [some (.ref a0), some (.int a1), some (.int a2), some (.int a3), some (.int a4), some (.int a5), some (.int a6)] [.ref x0] τ = Ru M_H_weigh d Q 31 [some (.ref a0), some (.int a1), some (.int a2), some (.int a3), some (.int a4), some (.int a5), some (.int a6)] [.int a6, .ref x0] τ) ∧
    (∀ (a0 : Nat) (a1 : Int32) (a2 : Int32) (a3 : Int32) (a4 : Int32) (a5 : Int32) (a6 : Int32) (x0 : Int32) (x1 : Nat) (τ : St), Ru M_H_weigh d Q 31 [some (.ref a0), some (.int a1), some (.int a2), some (.int a3), some (.int a4), some (.int a5), some (.int a6)] [.int x0, .ref x1] τ = Ru M_H_weigh d Q 33 [some (.ref a0), some (.int a1), some (.int a2), some (.int a3), some (.int a4), some (.int a5), some (.int a6)] [.int a6, .int x0, .ref x1] τ) ∧
    (∀ (a0 : Nat) (a1 : Int32) (a2 : Int32) (a3 : Int32) (a4 : Int32) (a5 : Int32) (a6 : Int32) (x0 : Int32) (x1 : Int32) (x2 : Nat) (τ : St), Ru M_H_weigh d Q 33 [some (.ref a0), some (.int a1), some (.int a2), some (.int a3), some (.int a4), some (.int a5), some (.int a6)] [.int x0, .int x1, .ref x2] τ = Ru M_H_weigh d Q 34 [some (.ref a0), some (.int a1), some (.int a2), some (.int a3), some (.int a4), some (.int a5), some (.int a6)] [.int a2, .int x0, .int x1, .ref x2] τ) ∧
    (∀ (a0 : Nat) (a1 : Int32) (a2 : Int32) (a3 : Int32) (a4 : Int32) (a5 : Int32) (a6 : Int32) (x0 : Int32) (x1 : Int32) (x2 : Int32) (x3 : Nat) (τ : St), Ru M_H_weigh d Q 34 [some (.ref a0), some (.int a1), some (.int a2), some (.int a3), some (.int a4), some (.int a5), some (.int a6)] [.int x0, .int x1, .int x2, .ref x3] τ = ((x0 ≤ x1 → Ru M_H_weigh d Q 51 [some (.ref a0), some (.int a1), some (.int a2), some (.int a3), some (.int a4), some (.int a5), some (.int a6)] [.int x2, .ref x3] τ) ∧ (¬ x0 ≤ x1 → Ru M_H_weigh d Q 37 [some (.ref a0), some (.int a1), some (.int a2), some (.int a3), some (.int a4), some (.int a5), some (.int a6)] [.int x2, .ref x3] τ))) ∧
    (∀ (a0 : Nat) (a1 : Int32) (a2 : Int32) (a3 : Int32) (a4 : Int32) (a5 : Int32) (a6 : Int32) (x0 : Int32) (x1 : Nat) (τ : St), Ru M_H_weigh d Q 37 [some (.ref a0), some (.int a1), some (.int a2), some (.int a3), some (.int a4), some (.int a5), some (.int a6)] [.int x0, .ref x1] τ = Ru M_H_weigh d Q 38 [some (.ref a0), some (.int a1), some (.int a2), some (.int a3), some (.int a4), some (.int a5), some (.int a6)] [.int a1, .int x0, .ref x1] τ) ∧
    (∀ (a0 : Nat) (a1 : Int32) (a2 : Int32) (a3 : Int32) (a4 : Int32) (a5 : Int32) (a6 : Int32) (x0 : Int32) (x1 : Int32) (x2 : Nat) (τ : St), Ru M_H_weigh d Q 38 [some (.ref a0), some (.int a1), some (.int a2), some (.int a3), some (.int a4), some (.int a5), some (.int a6)] [.int x0, .int x1, .ref x2] τ = Ru M_H_weigh d Q 39 [some (.ref a0), some (.int a1), some (.int a2), some (.int a3), some (.int a4), some (.int a5), some (.int a6)] [.int a3, .int x0, .int x1, .ref x2] τ) ∧
    (∀ (a0 : Nat) (a1 : Int32) (a2 : Int32) (a3 : Int32) (a4 : Int32) (a5 : Int32) (a6 : Int32) (x0 : Int32) (x1 : Int32) (x2 : Int32) (x3 : Nat) (τ : St), Ru M_H_weigh d Q 39 [some (.ref a0), some (.int a1), some (.int a2), some (.int a3), some (.int a4), some (.int a5), some (.int a6)] [.int x0, .int x1, .int x2, .ref x3] τ = Ru M_H_weigh d Q 41 [some (.ref a0), some (.int a1), some (.int a2), some (.int a3), some (.int a4), some (.int a5), some (.int a6)] [.int a6, .int x0, .int x1, .int x2, .ref x3] τ) ∧
    (∀ (a0 : Nat) (a1 : Int32) (a2 : Int32) (a3 : Int32) (a4 : Int32) (a5 : Int32) (a6 : Int32) (x0 : Int32) (x1 : Int32) (x2 : Int32) (x3 : Int32) (x4 : Nat) (τ : St), Ru M_H_weigh d Q 41 [some (.ref a0), some (.int a1), some (.int a2), some (.int a3), some (.int a4), some (.int a5), some (.int a6)] [.int x0, .int x1, .int x2, .int x3, .ref x4] τ = Ru M_H_weigh d Q 43 [some (.ref a0), some (.int a1), some (.int a2), some (.int a3), some (.int a4), some (.int a5), some (.int a6)] [.int a4, .int x0, .int x1, .int x2, .int x3, .ref x4] τ) ∧
    (∀ (a0 : Nat) (a1 : Int32) (a2 : Int32) (a3 : Int32) (a4 : Int32) (a5 : Int32) (a6 : Int32) (x0 : Int32) (x1 : Int32) (x2 : Int32) (x3 : Int32) (x4 : Int32) (x5 : Nat) (τ : St), Ru M_H_weigh d Q 43 [some (.ref a0), some (.int a1), some (.int a2), some (.int a3), some (.int a4), some (.int a5), some (.int a6)] [.int x0, .int x1, .int x2, .int x3, .int x4, .ref x5] τ = Ru M_H_weigh d Q 44 [some (.ref a0), some (.int a1), some (.int a2), some (.int a3), some (.int a4), some (.int a5), some (.int a6)] [.int (x1 * x0), .int x2, .int x3, .int x4, .ref x5] τ) ∧
    (∀ (a0 : Nat) (a1 : Int32) (a2 : Int32) (a3 : Int32) (a4 : Int32) (a5 : Int32) (a6 : Int32) (x0 : Int32) (x1 : Int32) (x2 : Int32) (x3 : Int32) (x4 : Nat) (τ : St), Ru M_H_weigh d Q 44 [some (.ref a0), some (.int a1), some (.int a2), some (.int a3), some (.int a4), some (.int a5), some (.int a6)] [.int x0, .int x1, .int x2, .int x3, .ref x4] τ = Ru M_H_weigh d Q 45 [some (.ref a0), some (.int a1), some (.int a2), some (.int a3), some (.int a4), some (.int a5), some (.int a6)] [.int (x1 + x0), .int x2, .int x3, .ref x4] τ) ∧
    (∀ (a0 : Nat) (a1 : Int32) (a2 : Int32) (a3 : Int32) (a4 : Int32) (a5 : Int32) (a6 : Int32) (x0 : Int32) (x1 : Int32) (x2 : Int32) (x3 : Nat) (τ : St), Ru M_H_weigh d Q 45 [some (.ref a0), some (.int a1), some (.int a2), some (.int a3), some (.int a4), some (.int a5), some (.int a6)] [.int x0, .int x1, .int x2, .ref x3] τ = Cl d m_H_entryOf [.int x1, .int x0] τ (fun v τ' => Ru M_H_weigh d Q 48 [some (.ref a0), some (.int a1), some (.int a2), some (.int a3), some (.int a4), some (.int a5), some (.int a6)] (v.toList ++ [.int x2, .ref x3]) τ')) ∧
    (∀ (a0 : Nat) (a1 : Int32) (a2 : Int32) (a3 : Int32) (a4 : Int32) (a5 : Int32) (a6 : Int32) (x0 : Int32) (x1 : Int32) (x2 : Nat) (τ : St), Ru M_H_weigh d Q 48 [some (.ref a0), some (.int a1), some (.int a2), some (.int a3), some (.int a4), some (.int a5), some (.int a6)] [.int x0, .int x1, .ref x2] τ = Ru M_H_weigh d Q 52 [some (.ref a0), some (.int a1), some (.int a2), some (.int a3), some (.int a4), some (.int a5), some (.int a6)] [.int x0, .int x1, .ref x2] τ) ∧
    (∀ (a0 : Nat) (a1 : Int32) (a2 : Int32) (a3 : Int32) (a4 : Int32) (a5 : Int32) (a6 : Int32) (x0 : Int32) (x1 : Nat) (τ : St), Ru M_H_weigh d Q 51 [some (.ref a0), some (.int a1), some (.int a2), some (.int a3), some (.int a4), some (.int a5), some (.int a6)] [.int x0, .ref x1] τ = Ru M_H_weigh d Q 52 [some (.ref a0), some (.int a1), some (.int a2), some (.int a3), some (.int a4), some (.int a5), some (.int a6)] [.int 1, .int x0, .ref x1] τ) ∧
    (∀ (a0 : Nat) (a1 : Int32) (a2 : Int32) (a3 : Int32) (a4 : Int32) (a5 : Int32) (a6 : Int32) (x0 : Int32) (x1 : Int32) (x2 : Nat) (τ : St), Ru M_H_weigh d Q 52 [some (.ref a0), some (.int a1), some (.int a2), some (.int a3), some (.int a4), some (.int a5), some (.int a6)] [.int x0, .int x1, .ref x2] τ = (isA 14 x2 ∧ vp_in x1 (len x2) ∧ Ru M_H_weigh d Q 53 [some (.ref a0), some (.int a1), some (.int a2), some (.int a3), some (.int a4), some (.int a5), some (.int a6)] [] (sI τ x2 x1.toNatClampNeg (x0)))) ∧
    (∀ (a0 : Nat) (a1 : Int32) (a2 : Int32) (a3 : Int32) (a4 : Int32) (a5 : Int32) (a6 : Int32) (τ : St), Ru M_H_weigh d Q 53 [some (.ref a0), some (.int a1), some (.int a2), some (.int a3), some (.int a4), some (.int a5), some (.int a6)] [] τ = Ru M_H_weigh d Q 55 [some (.ref a0), some (.int a1), some (.int a2), some (.int a3), some (.int a4), some (.int a5), some (.int a6)] [.int a5] τ) ∧
    (∀ (a0 : Nat) (a1 : Int32) (a2 : Int32) (a3 : Int32) (a4 : Int32) (a5 : Int32) (a6 : Int32) (x0 : Int32) (τ : St), Ru M_H_weigh d Q 55 [some (.ref a0), some (.int a1), some (.int a2), some (.int a3), some (.int a4), some (.int a5), some (.int a6)] [.int x0] τ = Ru M_H_weigh d Q 56 [some (.ref a0), some (.int a1), some (.int a2), some (.int a3), some (.int a4), some (.int a5), some (.int a6)] [.ref a0, .int x0] τ) ∧
    (∀ (a0 : Nat) (a1 : Int32) (a2 : Int32) (a3 : Int32) (a4 : Int32) (a5 : Int32) (a6 : Int32) (x0 : Nat) (x1 : Int32) (τ : St), Ru M_H_weigh d Q 56 [some (.ref a0), some (.int a1), some (.int a2), some (.int a3), some (.int a4), some (.int a5), some (.int a6)] [.ref x0, .int x1] τ = (isA 11 x0 ∧ Ru M_H_weigh d Q 59 [some (.ref a0), some (.int a1), some (.int a2), some (.int a3), some (.int a4), some (.int a5), some (.int a6)] [.ref (rtab x0 7), .int x1] τ)) ∧
    (∀ (a0 : Nat) (a1 : Int32) (a2 : Int32) (a3 : Int32) (a4 : Int32) (a5 : Int32) (a6 : Int32) (x0 : Nat) (x1 : Int32) (τ : St), Ru M_H_weigh d Q 59 [some (.ref a0), some (.int a1), some (.int a2), some (.int a3), some (.int a4), some (.int a5), some (.int a6)] [.ref x0, .int x1] τ = Ru M_H_weigh d Q 61 [some (.ref a0), some (.int a1), some (.int a2), some (.int a3), some (.int a4), some (.int a5), some (.int a6)] [.int a6, .ref x0, .int x1] τ) ∧
    (∀ (a0 : Nat) (a1 : Int32) (a2 : Int32) (a3 : Int32) (a4 : Int32) (a5 : Int32) (a6 : Int32) (x0 : Int32) (x1 : Nat) (x2 : Int32) (τ : St), Ru M_H_weigh d Q 61 [some (.ref a0), some (.int a1), some (.int a2), some (.int a3), some (.int a4), some (.int a5), some (.int a6)] [.int x0, .ref x1, .int x2] τ = (isA 14 x1 ∧ vp_in x0 (len x1) ∧ Ru M_H_weigh d Q 62 [some (.ref a0), some (.int a1), some (.int a2), some (.int a3), some (.int a4), some (.int a5), some (.int a6)] [.int (τ.1 x1 x0.toNatClampNeg), .int x2] τ)) ∧
    (∀ (a0 : Nat) (a1 : Int32) (a2 : Int32) (a3 : Int32) (a4 : Int32) (a5 : Int32) (a6 : Int32) (x0 : Int32) (x1 : Int32) (τ : St), Ru M_H_weigh d Q 62 [some (.ref a0), some (.int a1), some (.int a2), some (.int a3), some (.int a4), some (.int a5), some (.int a6)] [.int x0, .int x1] τ = Ru M_H_weigh d Q 63 [some (.ref a0), some (.int a1), some (.int a2), some (.int a3), some (.int a4), some (.int a5), some (.int a6)] [.int (x1 + x0)] τ) ∧
    (∀ (a0 : Nat) (a1 : Int32) (a2 : Int32) (a3 : Int32) (a4 : Int32) (a5 : Int32) (a6 : Int32) (x0 : Int32) (τ : St), Ru M_H_weigh d Q 63 [some (.ref a0), some (.int a1), some (.int a2), some (.int a3), some (.int a4), some (.int a5), some (.int a6)] [.int x0] τ = Ru M_H_weigh d Q 65 [some (.ref a0), some (.int a1), some (.int a2), some (.int a3), some (.int a4), some (.int x0), some (.int a6)] [] τ) ∧
    (∀ (a0 : Nat) (a1 : Int32) (a2 : Int32) (a3 : Int32) (a4 : Int32) (a5 : Int32) (a6 : Int32) (τ : St), Ru M_H_weigh d Q 65 [some (.ref a0), some (.int a1), some (.int a2), some (.int a3), some (.int a4), some (.int a5), some (.int a6)] [] τ = Ru M_H_weigh d Q 68 [some (.ref a0), some (.int a1), some (.int a2), some (.int a3), some (.int a4), some (.int a5), some (.int (a6 + 1))] [] τ) ∧
    (∀ (a0 : Nat) (a1 : Int32) (a2 : Int32) (a3 : Int32) (a4 : Int32) (a5 : Int32) (a6 : Int32) (τ : St), Ru M_H_weigh d Q 68 [some (.ref a0), some (.int a1), some (.int a2), some (.int a3), some (.int a4), some (.int a5), some (.int a6)] [] τ = Rs M_H_weigh d Q 6 [some (.ref a0), some (.int a1), some (.int a2), some (.int a3), some (.int a4), some (.int a5), some (.int a6)] [] τ) ∧
    (∀ (a0 : Nat) (a1 : Int32) (a2 : Int32) (a3 : Int32) (a4 : Int32) (a5 : Int32) (a6 : Int32) (τ : St), Ru M_H_weigh d Q 71 [some (.ref a0), some (.int a1), some (.int a2), some (.int a3), some (.int a4), some (.int a5), some (.int a6)] [] τ = Ru M_H_weigh d Q 73 [some (.ref a0), some (.int a1), some (.int a2), some (.int a3), some (.int a4), some (.int a5), some (.int a6)] [.int a5] τ) ∧
    (∀ (a0 : Nat) (a1 : Int32) (a2 : Int32) (a3 : Int32) (a4 : Int32) (a5 : Int32) (a6 : Int32) (x0 : Int32) (τ : St), Ru M_H_weigh d Q 73 [some (.ref a0), some (.int a1), some (.int a2), some (.int a3), some (.int a4), some (.int a5), some (.int a6)] [.int x0] τ = Q (some (.int x0)) τ) := ⟨
  fun _ _ _ _ _ _ => (R_at ok_H_weigh rfl).trans e_push,
  fun _ _ _ _ _ _ _ => (R_at ok_H_weigh rfl).trans e_ist,
  fun _ _ _ _ _ _ _ => (R_at ok_H_weigh rfl).trans e_push,
  fun _ _ _ _ _ _ _ _ => (R_at ok_H_weigh rfl).trans e_ist,
  fun _ _ _ _ _ _ _ _ => (R_at ok_H_weigh rfl).trans (e_ild rfl),
  fun _ _ _ _ _ _ _ _ _ => (R_at ok_H_weigh rfl).trans (e_ald rfl),
  fun _ _ _ _ _ _ _ _ _ _ => (R_at ok_H_weigh rfl).trans e_gR,
  fun _ _ _ _ _ _ _ _ _ _ => (R_at ok_H_weigh rfl).trans e_gI,
  fun _ _ _ _ _ _ _ _ _ _ => (R_at ok_H_weigh rfl).trans e_ic,
  fun _ _ _ _ _ _ _ _ => (R_at ok_H_weigh rfl).trans (e_ild rfl),
  fun _ _ _ _ _ _ _ _ _ => (R_at ok_H_weigh rfl).trans e_push,
  fun _ _ _ _ _ _ _ _ _ _ => (R_at ok_H_weigh rfl).trans e_ic,
  fun _ _ _ _ _ _ _ _ => (R_at ok_H_weigh rfl).trans (e_ald rfl),
  fun _ _ _ _ _ _ _ _ _ => (R_at ok_H_weigh rfl).trans e_gR,
  fun _ _ _ _ _ _ _ _ _ => (R_at ok_H_weigh rfl).trans (e_ild rfl),
  fun _ _ _ _ _ _ _ _ _ _ => (R_at ok_H_weigh rfl).trans (e_ild rfl),
  fun _ _ _ _ _ _ _ _ _ _ _ => (R_at ok_H_weigh rfl).trans (e_ild rfl),
  fun _ _ _ _ _ _ _ _ _ _ _ _ => (R_at ok_H_weigh rfl).trans e_ic,
  fun _ _ _ _ _ _ _ _ _ _ => (R_at ok_H_weigh rfl).trans (e_ild rfl),
  fun _ _ _ _ _ _ _ _ _ _ _ => (R_at ok_H_weigh rfl).trans (e_ild rfl),
  fun _ _ _ _ _ _ _ _ _ _ _ _ => (R_at ok_H_weigh rfl).trans (e_ild rfl),
  fun _ _ _ _ _ _ _ _ _ _ _ _ _ => (R_at ok_H_weigh rfl).trans (e_ild rfl),
  fun _ _ _ _ _ _ _ _ _ _ _ _ _ _ => (R_at ok_H_weigh rfl).trans e_bin,
  fun _ _ _ _ _ _ _ _ _ _ _ _ _ => (R_at ok_H_weigh rfl).trans e_bin,
  fun _ _ _ _ _ _ _ x0 x1 _ _ _ => (R_at ok_H_weigh rfl).trans (e_cs [.int x1, .int x0] rfl rfl rfl),
  fun _ _ _ _ _ _ _ _ _ _ _ => (R_at ok_H_weigh rfl).trans e_goto,
  fun _ _ _ _ _ _ _ _ _ _ => (R_at ok_H_weigh rfl).trans e_push,
  fun _ _ _ _ _ _ _ _ _ _ _ => (R_at ok_H_weigh rfl).trans e_as,
  fun _ _ _ _ _ _ _ _ => (R_at ok_H_weigh rfl).trans (e_ild rfl),
  fun _ _ _ _ _ _ _ _ _ => (R_at ok_H_weigh rfl).trans (e_ald rfl),
  fun _ _ _ _ _ _ _ _ _ _ => (R_at ok_H_weigh rfl).trans e_gR,
  fun _ _ _ _ _ _ _ _ _ _ => (R_at ok_H_weigh rfl).trans (e_ild rfl),
  fun _ _ _ _ _ _ _ _ _ _ _ => (R_at ok_H_weigh rfl).trans e_al,
  fun _ _ _ _ _ _ _ _ _ _ => (R_at ok_H_weigh rfl).trans e_bin,
  fun _ _ _ _ _ _ _ _ _ => (R_at ok_H_weigh rfl).trans e_ist,
  fun _ _ _ _ _ _ _ _ => (R_at ok_H_weigh rfl).trans (e_iinc rfl),
  fun _ _ _ _ _ _ _ _ => (R_at ok_H_weigh rfl).trans e_goto,
  fun _ _ _ _ _ _ _ _ => (R_at ok_H_weigh rfl).trans (e_ild rfl),
  fun _ _ _ _ _ _ _ _ _ => (R_at ok_H_weigh rfl).trans e_iret⟩
set_option maxHeartbeats 4000000 in
theorem N_H_entryOf (d : Nat) (Q : Qt) : ∀ (x0 : Int32) (x1 : Int32) (τ : St), Cl (d + 1) m_H_entryOf [.int x0, .int x1] τ Q = Ru M_H_entryOf d Q 0 [some (.int x0), some (.int x1), none] [] τ := fun _ _ _ => propext ⟨fun h => h.2, fun h => ⟨Nat.le_of_ble_eq_true rfl, h⟩⟩
set_option maxHeartbeats 4000000 in
theorem E_H_entryOf (d : Nat) (Q : Qt) :
    (∀ (a0 : Int32) (a1 : Int32) (τ : St), Ru M_H_entryOf d Q 0 [some (.int a0), some (.int a1), none] [] τ = Ru M_H_entryOf d Q 1 [some (.int a0), some (.int a1), none] [.int a1] τ) ∧
    (∀ (a0 : Int32) (a1 : Int32) (x0 : Int32) (τ : St), Ru M_H_entryOf d Q 1 [some (.int a0), some (.int a1), none] [.int x0] τ = Ru M_H_entryOf d Q 2 [some (.int a0), some (.int a1), some (.int x0)] [] τ) ∧
    (∀ (a0 : Int32) (a1 : Int32) (a2 : Int32) (τ : St), Ru M_H_entryOf d Q 2 [some (.int a0), some (.int a1), some (.int a2)] [] τ = Ru M_H_entryOf d Q 3 [some (.int a0), some (.int a1), some (.int a2)] [.int a0] τ) ∧
    (∀ (a0 : Int32) (a1 : Int32) (a2 : Int32) (x0 : Int32) (τ : St), Ru M_H_entryOf d Q 3 [some (.int a0), some (.int a1), some (.int a2)] [.int x0] τ = ((¬ x0 = 0 → Ru M_H_entryOf d Q 12 [some (.int a0), some (.int a1), some (.int a2)] [] τ) ∧ (x0 = 0 → Ru M_H_entryOf d Q 6 [some (.int a0), some (.int a1), some (.int a2)] [] τ))) ∧
    (∀ (a0 : Int32) (a1 : Int32) (a2 : Int32) (τ : St), Ru M_H_entryOf d Q 6 [some (.int a0), some (.int a1), some (.int a2)] [] τ = Ru M_H_entryOf d Q 7 [some (.int a0), some (.int a1), some (.int a2)] [.int a1] τ) ∧
    (∀ (a0 : Int32) (a1 : Int32) (a2 : Int32) (x0 : Int32) (τ : St), Ru M_H_entryOf d Q 7 [some (.int a0), some (.int a1), some (.int a2)] [.int x0] τ = Ru M_H_entryOf d Q 8 [some (.int a0), some (.int a1), some (.int a2)] [.int (x0.toInt8.toInt32)] τ) ∧
    (∀ (a0 : Int32) (a1 : Int32) (a2 : Int32) (x0 : Int32) (τ : St), Ru M_H_entryOf d Q 8 [some (.int a0), some (.int a1), some (.int a2)] [.int x0] τ = Ru M_H_entryOf d Q 9 [some (.int a0), some (.int a1), some (.int x0)] [] τ) ∧
    (∀ (a0 : Int32) (a1 : Int32) (a2 : Int32) (τ : St), Ru M_H_entryOf d Q 9 [some (.int a0), some (.int a1), some (.int a2)] [] τ = Ru M_H_entryOf d Q 20 [some (.int a0), some (.int a1), some (.int a2)] [] τ) ∧
    (∀ (a0 : Int32) (a1 : Int32) (a2 : Int32) (τ : St), Ru M_H_entryOf d Q 12 [some (.int a0), some (.int a1), some (.int a2)] [] τ = Ru M_H_entryOf d Q 13 [some (.int a0), some (.int a1), some (.int a2)] [.int a0] τ) ∧
    (∀ (a0 : Int32) (a1 : Int32) (a2 : Int32) (x0 : Int32) (τ : St), Ru M_H_entryOf d Q 13 [some (.int a0), some (.int a1), some (.int a2)] [.int x0] τ = Ru M_H_entryOf d Q 14 [some (.int a0), some (.int a1), some (.int a2)] [.int 1, .int x0] τ) ∧
    (∀ (a0 : Int32) (a1 : Int32) (a2 : Int32) (x0 : Int32) (x1 : Int32) (τ : St), Ru M_H_entryOf d Q 14 [some (.int a0), some (.int a1), some (.int a2)] [.int x0, .int x1] τ = ((¬ x1 = x0 → Ru M_H_entryOf d Q 20 [some (.int a0), some (.int a1), some (.int a2)] [] τ) ∧ (x1 = x0 → Ru M_H_entryOf d Q 17 [some (.int a0), some (.int a1), some (.int a2)] [] τ))) ∧
    (∀ (a0 : Int32) (a1 : Int32) (a2 : Int32) (τ : St), Ru M_H_entryOf d Q 17 [some (.int a0), some (.int a1), some (.int a2)] [] τ = Ru M_H_entryOf d Q 18 [some (.int a0), some (.int a1), some (.int a2)] [.int a1] τ) ∧
    (∀ (a0 : Int32) (a1 : Int32) (a2 : Int32) (x0 : Int32) (τ : St), Ru M_H_entryOf d Q 18 [some (.int a0), some (.int a1), some (.int a2)] [.int x0] τ = Ru M_H_entryOf d Q 19 [some (.int a0), some (.int a1), some (.int a2)] [.int (x0.toInt16.toInt32)] τ) ∧
    (∀ (a0 : Int32) (a1 : Int32) (a2 : Int32) (x0 : Int32) (τ : St), Ru M_H_entryOf d Q 19 [some (.int a0), some (.int a1), some (.int a2)] [.int x0] τ = Ru M_H_entryOf d Q 20 [some (.int a0), some (.int a1), some (.int x0)] [] τ) ∧
    (∀ (a0 : Int32) (a1 : Int32) (a2 : Int32) (τ : St), Ru M_H_entryOf d Q 20 [some (.int a0), some (.int a1), some (.int a2)] [] τ = Ru M_H_entryOf d Q 21 [some (.int a0), some (.int a1), some (.int a2)] [.int 1] τ) ∧
    (∀ (a0 : Int32) (a1 : Int32) (a2 : Int32) (x0 : Int32) (τ : St), Ru M_H_entryOf d Q 21 [some (.int a0), some (.int a1), some (.int a2)] [.int x0] τ = Ru M_H_entryOf d Q 23 [some (.int a0), some (.int a1), some (.int a2)] [.int 99, .int x0] τ) ∧
    (∀ (a0 : Int32) (a1 : Int32) (a2 : Int32) (x0 : Int32) (x1 : Int32) (τ : St), Ru M_H_entryOf d Q 23 [some (.int a0), some (.int a1), some (.int a2)] [.int x0, .int x1] τ = Ru M_H_entryOf d Q 24 [some (.int a0), some (.int a1), some (.int a2)] [.int a2, .int x0, .int x1] τ) ∧
    (∀ (a0 : Int32) (a1 : Int32) (a2 : Int32) (x0 : Int32) (x1 : Int32) (x2 : Int32) (τ : St), Ru M_H_entryOf d Q 24 [some (.int a0), some (.int a1), some (.int a2)] [.int x0, .int x1, .int x2] τ = Ru M_H_entryOf d Q 27 [some (.int a0), some (.int a1), some (.int a2)] [.int (if x0 < x1 then x0 else x1), .int x2] τ) ∧
    (∀ (a0 : Int32) (a1 : Int32) (a2 : Int32) (x0 : Int32) (x1 : Int32) (τ : St), Ru M_H_entryOf d Q 27 [some (.int a0), some (.int a1), some (.int a2)] [.int x0, .int x1] τ = Ru M_H_entryOf d Q 30 [some (.int a0), some (.int a1), some (.int a2)] [.int (if x1 < x0 then x0 else x1)] τ) ∧
    (∀ (a0 : Int32) (a1 : Int32) (a2 : Int32) (x0 : Int32) (τ : St), Ru M_H_entryOf d Q 30 [some (.int a0), some (.int a1), some (.int a2)] [.int x0] τ = Q (some (.int x0)) τ) := ⟨
  fun _ _ _ => (R_at ok_H_entryOf rfl).trans (e_ild rfl),
  fun _ _ _ _ => (R_at ok_H_entryOf rfl).trans e_ist,
  fun _ _ _ _ => (R_at ok_H_entryOf rfl).trans (e_ild rfl),
  fun _ _ _ _ _ => (R_at ok_H_entryOf rfl).trans e_ifn,
  fun _ _ _ _ => (R_at ok_H_entryOf rfl).trans (e_ild rfl),
  fun _ _ _ _ _ => (R_at ok_H_entryOf rfl).trans e_un,
  fun _ _ _ _ _ => (R_at ok_H_entryOf rfl).trans e_ist,
  fun _ _ _ _ => (R_at ok_H_entryOf rfl).trans e_goto,
  fun _ _ _ _ => (R_at ok_H_entryOf rfl).trans (e_ild rfl),
  fun _ _ _ _ _ => (R_at ok_H_entryOf rfl).trans e_push,
  fun _ _ _ _ _ _ => (R_at ok_H_entryOf rfl).trans e_icn,
  fun _ _ _ _ => (R_at ok_H_entryOf rfl).trans (e_ild rfl),
  fun _ _ _ _ _ => (R_at ok_H_entryOf rfl).trans e_un,
  fun _ _ _ _ _ => (R_at ok_H_entryOf rfl).trans e_ist,
  fun _ _ _ _ => (R_at ok_H_entryOf rfl).trans e_push,
  fun _ _ _ _ _ => (R_at ok_H_entryOf rfl).trans e_push,
  fun _ _ _ _ _ _ => (R_at ok_H_entryOf rfl).trans (e_ild rfl),
  fun _ _ _ _ _ _ _ => (R_at ok_H_entryOf rfl).trans (e_mm rfl),
  fun _ _ _ _ _ _ => (R_at ok_H_entryOf rfl).trans (e_mm rfl),
  fun _ _ _ _ _ => (R_at ok_H_entryOf rfl).trans e_iret⟩
set_option maxHeartbeats 4000000 in
theorem N_H_drag (d : Nat) (Q : Qt) : ∀ (x0 : Nat) (x1 : Int32) (x2 : Int32) (τ : St), Cl (d + 1) m_H_drag [.ref x0, .int x1, .int x2] τ Q = Ru M_H_drag d Q 0 [some (.ref x0), some (.int x1), some (.int x2)] [] τ := fun _ _ _ _ => propext ⟨fun h => h.2, fun h => ⟨Nat.le_of_ble_eq_true rfl, h⟩⟩
set_option maxHeartbeats 4000000 in
theorem E_H_drag (d : Nat) (Q : Qt) :
    (∀ (a0 : Nat) (a1 : Int32) (a2 : Int32) (τ : St), Ru M_H_drag d Q 0 [some (.ref a0), some (.int a1), some (.int a2)] [] τ = Ru M_H_drag d Q 1 [some (.ref a0), some (.int a1), some (.int a2)] [.ref a0] τ) ∧
    (∀ (a0 : Nat) (a1 : Int32) (a2 : Int32) (x0 : Nat) (τ : St), Ru M_H_drag d Q 1 [some (.ref a0), some (.int a1), some (.int a2)] [.ref x0] τ = (isA 11 x0 ∧ Ru M_H_drag d Q 4 [some (.ref a0), some (.int a1), some (.int a2)] [.ref (rtab x0 4)] τ)) ∧
    (∀ (a0 : Nat) (a1 : Int32) (a2 : Int32) (x0 : Nat) (τ : St), Ru M_H_drag d Q 4 [some (.ref a0), some (.int a1), some (.int a2)] [.ref x0] τ = Ru M_H_drag d Q 5 [some (.ref a0), some (.int a1), some (.int a2)] [.ref a0, .ref x0] τ) ∧
    (∀ (a0 : Nat) (a1 : Int32) (a2 : Int32) (x0 : Nat) (x1 : Nat) (τ : St), Ru M_H_drag d Q 5 [some (.ref a0), some (.int a1), some (.int a2)] [.ref x0, .ref x1] τ = (isA 11 x0 ∧ Ru M_H_drag d Q 8 [some (.ref a0), some (.int a1), some (.int a2)] [.ref (rtab x0 3), .ref x1] τ)) ∧
    (∀ (a0 : Nat) (a1 : Int32) (a2 : Int32) (x0 : Nat) (x1 : Nat) (τ : St), Ru M_H_drag d Q 8 [some (.ref a0), some (.int a1), some (.int a2)] [.ref x0, .ref x1] τ = (isA 1 x1 ∧ Cl d m_Moment_copy [.ref x1, .ref x0] τ (fun v τ' => Ru M_H_drag d Q 11 [some (.ref a0), some (.int a1), some (.int a2)] (v.toList ++ []) τ'))) ∧
    (∀ (a0 : Nat) (a1 : Int32) (a2 : Int32) (τ : St), Ru M_H_drag d Q 11 [some (.ref a0), some (.int a1), some (.int a2)] [] τ = Ru M_H_drag d Q 12 [some (.ref a0), some (.int a1), some (.int a2)] [.ref a0] τ) ∧
    (∀ (a0 : Nat) (a1 : Int32) (a2 : Int32) (x0 : Nat) (τ : St), Ru M_H_drag d Q 12 [some (.ref a0), some (.int a1), some (.int a2)] [.ref x0] τ = Ru M_H_drag d Q 13 [some (.ref a0), some (.int a1), some (.int a2)] [.ref a0, .ref x0] τ) ∧
    (∀ (a0 : Nat) (a1 : Int32) (a2 : Int32) (x0 : Nat) (x1 : Nat) (τ : St), Ru M_H_drag d Q 13 [some (.ref a0), some (.int a1), some (.int a2)] [.ref x0, .ref x1] τ = Ru M_H_drag d Q 14 [some (.ref a0), some (.int a1), some (.int a2)] [.int a1, .ref x0, .ref x1] τ) ∧
    (∀ (a0 : Nat) (a1 : Int32) (a2 : Int32) (x0 : Int32) (x1 : Nat) (x2 : Nat) (τ : St), Ru M_H_drag d Q 14 [some (.ref a0), some (.int a1), some (.int a2)] [.int x0, .ref x1, .ref x2] τ = Ru M_H_drag d Q 15 [some (.ref a0), some (.int a1), some (.int a2)] [.int a2, .int x0, .ref x1, .ref x2] τ) ∧
    (∀ (a0 : Nat) (a1 : Int32) (a2 : Int32) (x0 : Int32) (x1 : Int32) (x2 : Nat) (x3 : Nat) (τ : St), Ru M_H_drag d Q 15 [some (.ref a0), some (.int a1), some (.int a2)] [.int x0, .int x1, .ref x2, .ref x3] τ = (isA 11 x2 ∧ Cl d m_H_dragShip [.ref x2, .int x1, .int x0] τ (fun v τ' => Ru M_H_drag d Q 18 [some (.ref a0), some (.int a1), some (.int a2)] (v.toList ++ [.ref x3]) τ'))) ∧
    (∀ (a0 : Nat) (a1 : Int32) (a2 : Int32) (x0 : Int32) (x1 : Nat) (τ : St), Ru M_H_drag d Q 18 [some (.ref a0), some (.int a1), some (.int a2)] [.int x0, .ref x1] τ = (isA 11 x1 ∧ Cl d m_H_remembered [.ref x1, .int x0] τ (fun v τ' => Ru M_H_drag d Q 21 [some (.ref a0), some (.int a1), some (.int a2)] (v.toList ++ []) τ'))) ∧
    (∀ (a0 : Nat) (a1 : Int32) (a2 : Int32) (x0 : Int32) (τ : St), Ru M_H_drag d Q 21 [some (.ref a0), some (.int a1), some (.int a2)] [.int x0] τ = Q (some (.int x0)) τ) := ⟨
  fun _ _ _ _ => (R_at ok_H_drag rfl).trans (e_ald rfl),
  fun _ _ _ _ _ => (R_at ok_H_drag rfl).trans e_gR,
  fun _ _ _ _ _ => (R_at ok_H_drag rfl).trans (e_ald rfl),
  fun _ _ _ _ _ _ => (R_at ok_H_drag rfl).trans e_gR,
  fun _ _ _ x0 _ _ => (R_at ok_H_drag rfl).trans (e_cv [.ref x0] rfl rfl rfl),
  fun _ _ _ _ => (R_at ok_H_drag rfl).trans (e_ald rfl),
  fun _ _ _ _ _ => (R_at ok_H_drag rfl).trans (e_ald rfl),
  fun _ _ _ _ _ _ => (R_at ok_H_drag rfl).trans (e_ild rfl),
  fun _ _ _ _ _ _ _ => (R_at ok_H_drag rfl).trans (e_ild rfl),
  fun _ _ _ x0 x1 _ _ _ => (R_at ok_H_drag rfl).trans (e_cv [.int x1, .int x0] rfl rfl rfl),
  fun _ _ _ x0 _ _ => (R_at ok_H_drag rfl).trans (e_cv [.int x0] rfl rfl rfl),
  fun _ _ _ _ _ => (R_at ok_H_drag rfl).trans e_iret⟩
set_option maxHeartbeats 4000000 in
theorem N_H_plank (d : Nat) (Q : Qt) : ∀ (x0 : Nat) (x1 : Int32) (τ : St), Cl (d + 1) m_H_plank [.ref x0, .int x1] τ Q = Ru M_H_plank d Q 0 [some (.ref x0), some (.int x1)] [] τ := fun _ _ _ => propext ⟨fun h => h.2, fun h => ⟨Nat.le_of_ble_eq_true rfl, h⟩⟩
set_option maxHeartbeats 4000000 in
theorem E_H_plank (d : Nat) (Q : Qt) :
    (∀ (a0 : Nat) (a1 : Int32) (τ : St), Ru M_H_plank d Q 0 [some (.ref a0), some (.int a1)] [] τ = Ru M_H_plank d Q 1 [some (.ref a0), some (.int a1)] [.ref a0] τ) ∧
    (∀ (a0 : Nat) (a1 : Int32) (x0 : Nat) (τ : St), Ru M_H_plank d Q 1 [some (.ref a0), some (.int a1)] [.ref x0] τ = (isA 11 x0 ∧ Ru M_H_plank d Q 4 [some (.ref a0), some (.int a1)] [.ref (rtab x0 4)] τ)) ∧
    (∀ (a0 : Nat) (a1 : Int32) (x0 : Nat) (τ : St), Ru M_H_plank d Q 4 [some (.ref a0), some (.int a1)] [.ref x0] τ = Ru M_H_plank d Q 5 [some (.ref a0), some (.int a1)] [.ref a0, .ref x0] τ) ∧
    (∀ (a0 : Nat) (a1 : Int32) (x0 : Nat) (x1 : Nat) (τ : St), Ru M_H_plank d Q 5 [some (.ref a0), some (.int a1)] [.ref x0, .ref x1] τ = (isA 11 x0 ∧ Ru M_H_plank d Q 8 [some (.ref a0), some (.int a1)] [.ref (rtab x0 3), .ref x1] τ)) ∧
    (∀ (a0 : Nat) (a1 : Int32) (x0 : Nat) (x1 : Nat) (τ : St), Ru M_H_plank d Q 8 [some (.ref a0), some (.int a1)] [.ref x0, .ref x1] τ = (isA 1 x1 ∧ Cl d m_Moment_copy [.ref x1, .ref x0] τ (fun v τ' => Ru M_H_plank d Q 11 [some (.ref a0), some (.int a1)] (v.toList ++ []) τ'))) ∧
    (∀ (a0 : Nat) (a1 : Int32) (τ : St), Ru M_H_plank d Q 11 [some (.ref a0), some (.int a1)] [] τ = Ru M_H_plank d Q 12 [some (.ref a0), some (.int a1)] [.ref a0] τ) ∧
    (∀ (a0 : Nat) (a1 : Int32) (x0 : Nat) (τ : St), Ru M_H_plank d Q 12 [some (.ref a0), some (.int a1)] [.ref x0] τ = Ru M_H_plank d Q 13 [some (.ref a0), some (.int a1)] [.ref a0, .ref x0] τ) ∧
    (∀ (a0 : Nat) (a1 : Int32) (x0 : Nat) (x1 : Nat) (τ : St), Ru M_H_plank d Q 13 [some (.ref a0), some (.int a1)] [.ref x0, .ref x1] τ = Ru M_H_plank d Q 14 [some (.ref a0), some (.int a1)] [.int a1, .ref x0, .ref x1] τ) ∧
    (∀ (a0 : Nat) (a1 : Int32) (x0 : Int32) (x1 : Nat) (x2 : Nat) (τ : St), Ru M_H_plank d Q 14 [some (.ref a0), some (.int a1)] [.int x0, .ref x1, .ref x2] τ = (isA 11 x1 ∧ Cl d m_H_turnPlanks [.ref x1, .int x0] τ (fun v τ' => Ru M_H_plank d Q 17 [some (.ref a0), some (.int a1)] (v.toList ++ [.ref x2]) τ'))) ∧
    (∀ (a0 : Nat) (a1 : Int32) (x0 : Int32) (x1 : Nat) (τ : St), Ru M_H_plank d Q 17 [some (.ref a0), some (.int a1)] [.int x0, .ref x1] τ = (isA 11 x1 ∧ Cl d m_H_remembered [.ref x1, .int x0] τ (fun v τ' => Ru M_H_plank d Q 20 [some (.ref a0), some (.int a1)] (v.toList ++ []) τ'))) ∧
    (∀ (a0 : Nat) (a1 : Int32) (x0 : Int32) (τ : St), Ru M_H_plank d Q 20 [some (.ref a0), some (.int a1)] [.int x0] τ = Q (some (.int x0)) τ) := ⟨
  fun _ _ _ => (R_at ok_H_plank rfl).trans (e_ald rfl),
  fun _ _ _ _ => (R_at ok_H_plank rfl).trans e_gR,
  fun _ _ _ _ => (R_at ok_H_plank rfl).trans (e_ald rfl),
  fun _ _ _ _ _ => (R_at ok_H_plank rfl).trans e_gR,
  fun _ _ x0 _ _ => (R_at ok_H_plank rfl).trans (e_cv [.ref x0] rfl rfl rfl),
  fun _ _ _ => (R_at ok_H_plank rfl).trans (e_ald rfl),
  fun _ _ _ _ => (R_at ok_H_plank rfl).trans (e_ald rfl),
  fun _ _ _ _ _ => (R_at ok_H_plank rfl).trans (e_ild rfl),
  fun _ _ x0 _ _ _ => (R_at ok_H_plank rfl).trans (e_cv [.int x0] rfl rfl rfl),
  fun _ _ x0 _ _ => (R_at ok_H_plank rfl).trans (e_cv [.int x0] rfl rfl rfl),
  fun _ _ _ _ => (R_at ok_H_plank rfl).trans e_iret⟩
set_option maxHeartbeats 4000000 in
theorem N_H_hours (d : Nat) (Q : Qt) : ∀ (x0 : Nat) (x1 : Int32) (τ : St), Cl (d + 1) m_H_hours [.ref x0, .int x1] τ Q = Ru M_H_hours d Q 0 [some (.ref x0), some (.int x1), none] [] τ := fun _ _ _ => propext ⟨fun h => h.2, fun h => ⟨Nat.le_of_ble_eq_true rfl, h⟩⟩
set_option maxHeartbeats 4000000 in
theorem E_H_hours (d : Nat) (Q : Qt) :
    (∀ (a0 : Nat) (a1 : Int32) (τ : St), Ru M_H_hours d Q 0 [some (.ref a0), some (.int a1), none] [] τ = Ru M_H_hours d Q 1 [some (.ref a0), some (.int a1), none] [.ref a0] τ) ∧
    (∀ (a0 : Nat) (a1 : Int32) (x0 : Nat) (τ : St), Ru M_H_hours d Q 1 [some (.ref a0), some (.int a1), none] [.ref x0] τ = (isA 11 x0 ∧ Ru M_H_hours d Q 4 [some (.ref a0), some (.int a1), none] [.ref (rtab x0 4)] τ)) ∧
    (∀ (a0 : Nat) (a1 : Int32) (x0 : Nat) (τ : St), Ru M_H_hours d Q 4 [some (.ref a0), some (.int a1), none] [.ref x0] τ = Ru M_H_hours d Q 5 [some (.ref a0), some (.int a1), none] [.ref a0, .ref x0] τ) ∧
    (∀ (a0 : Nat) (a1 : Int32) (x0 : Nat) (x1 : Nat) (τ : St), Ru M_H_hours d Q 5 [some (.ref a0), some (.int a1), none] [.ref x0, .ref x1] τ = (isA 11 x0 ∧ Ru M_H_hours d Q 8 [some (.ref a0), some (.int a1), none] [.ref (rtab x0 3), .ref x1] τ)) ∧
    (∀ (a0 : Nat) (a1 : Int32) (x0 : Nat) (x1 : Nat) (τ : St), Ru M_H_hours d Q 8 [some (.ref a0), some (.int a1), none] [.ref x0, .ref x1] τ = (isA 1 x1 ∧ Cl d m_Moment_copy [.ref x1, .ref x0] τ (fun v τ' => Ru M_H_hours d Q 11 [some (.ref a0), some (.int a1), none] (v.toList ++ []) τ'))) ∧
    (∀ (a0 : Nat) (a1 : Int32) (τ : St), Ru M_H_hours d Q 11 [some (.ref a0), some (.int a1), none] [] τ = Ru M_H_hours d Q 12 [some (.ref a0), some (.int a1), none] [.ref a0] τ) ∧
    (∀ (a0 : Nat) (a1 : Int32) (x0 : Nat) (τ : St), Ru M_H_hours d Q 12 [some (.ref a0), some (.int a1), none] [.ref x0] τ = Ru M_H_hours d Q 13 [some (.ref a0), some (.int a1), none] [.ref a0, .ref x0] τ) ∧
    (∀ (a0 : Nat) (a1 : Int32) (x0 : Nat) (x1 : Nat) (τ : St), Ru M_H_hours d Q 13 [some (.ref a0), some (.int a1), none] [.ref x0, .ref x1] τ = Ru M_H_hours d Q 14 [some (.ref a0), some (.int a1), none] [.int a1, .ref x0, .ref x1] τ) ∧
    (∀ (a0 : Nat) (a1 : Int32) (x0 : Int32) (x1 : Nat) (x2 : Nat) (τ : St), Ru M_H_hours d Q 14 [some (.ref a0), some (.int a1), none] [.int x0, .ref x1, .ref x2] τ = Ru M_H_hours d Q 16 [some (.ref a0), some (.int a1), none] [.int 30, .int x0, .ref x1, .ref x2] τ) ∧
    (∀ (a0 : Nat) (a1 : Int32) (x0 : Int32) (x1 : Int32) (x2 : Nat) (x3 : Nat) (τ : St), Ru M_H_hours d Q 16 [some (.ref a0), some (.int a1), none] [.int x0, .int x1, .ref x2, .ref x3] τ = (isA 11 x2 ∧ Cl d m_H_letPass [.ref x2, .int x1, .int x0] τ (fun v τ' => Ru M_H_hours d Q 19 [some (.ref a0), some (.int a1), none] (v.toList ++ [.ref x3]) τ'))) ∧
    (∀ (a0 : Nat) (a1 : Int32) (x0 : Int32) (x1 : Nat) (τ : St), Ru M_H_hours d Q 19 [some (.ref a0), some (.int a1), none] [.int x0, .ref x1] τ = (isA 11 x1 ∧ Cl d m_H_remembered [.ref x1, .int x0] τ (fun v τ' => Ru M_H_hours d Q 22 [some (.ref a0), some (.int a1), none] (v.toList ++ []) τ'))) ∧
    (∀ (a0 : Nat) (a1 : Int32) (x0 : Int32) (τ : St), Ru M_H_hours d Q 22 [some (.ref a0), some (.int a1), none] [.int x0] τ = Ru M_H_hours d Q 23 [some (.ref a0), some (.int a1), some (.int x0)] [] τ) ∧
    (∀ (a0 : Nat) (a1 : Int32) (a2 : Int32) (τ : St), Ru M_H_hours d Q 23 [some (.ref a0), some (.int a1), some (.int a2)] [] τ = Ru M_H_hours d Q 24 [some (.ref a0), some (.int a1), some (.int a2)] [.int a2] τ) ∧
    (∀ (a0 : Nat) (a1 : Int32) (a2 : Int32) (x0 : Int32) (τ : St), Ru M_H_hours d Q 24 [some (.ref a0), some (.int a1), some (.int a2)] [.int x0] τ = ((x0 < 0 → Ru M_H_hours d Q 50 [some (.ref a0), some (.int a1), some (.int a2)] [] τ) ∧ (¬ x0 < 0 → Ru M_H_hours d Q 27 [some (.ref a0), some (.int a1), some (.int a2)] [] τ))) ∧
    (∀ (a0 : Nat) (a1 : Int32) (a2 : Int32) (τ : St), Ru M_H_hours d Q 27 [some (.ref a0), some (.int a1), some (.int a2)] [] τ = Ru M_H_hours d Q 28 [some (.ref a0), some (.int a1), some (.int a2)] [.ref a0] τ) ∧
    (∀ (a0 : Nat) (a1 : Int32) (a2 : Int32) (x0 : Nat) (τ : St), Ru M_H_hours d Q 28 [some (.ref a0), some (.int a1), some (.int a2)] [.ref x0] τ = (isA 11 x0 ∧ Ru M_H_hours d Q 31 [some (.ref a0), some (.int a1), some (.int a2)] [.ref (rtab x0 1)] τ)) ∧
    (∀ (a0 : Nat) (a1 : Int32) (a2 : Int32) (x0 : Nat) (τ : St), Ru M_H_hours d Q 31 [some (.ref a0), some (.int a1), some (.int a2)] [.ref x0] τ = Ru M_H_hours d Q 32 [some (.ref a0), some (.int a1), some (.int a2)] [.ref a0, .ref x0] τ) ∧
    (∀ (a0 : Nat) (a1 : Int32) (a2 : Int32) (x0 : Nat) (x1 : Nat) (τ : St), Ru M_H_hours d Q 32 [some (.ref a0), some (.int a1), some (.int a2)] [.ref x0, .ref x1] τ = (isA 11 x0 ∧ Ru M_H_hours d Q 35 [some (.ref a0), some (.int a1), some (.int a2)] [.ref (rtab x0 3), .ref x1] τ)) ∧
    (∀ (a0 : Nat) (a1 : Int32) (a2 : Int32) (x0 : Nat) (x1 : Nat) (τ : St), Ru M_H_hours d Q 35 [some (.ref a0), some (.int a1), some (.int a2)] [.ref x0, .ref x1] τ = (isA 1 x0 ∧ Ru M_H_hours d Q 38 [some (.ref a0), some (.int a1), some (.int a2)] [.int (τ.1 x0 8), .ref x1] τ)) ∧
    (∀ (a0 : Nat) (a1 : Int32) (a2 : Int32) (x0 : Int32) (x1 : Nat) (τ : St), Ru M_H_hours d Q 38 [some (.ref a0), some (.int a1), some (.int a2)] [.int x0, .ref x1] τ = Ru M_H_hours d Q 39 [some (.ref a0), some (.int a1), some (.int a2)] [.ref a0, .int x0, .ref x1] τ) ∧
    (∀ (a0 : Nat) (a1 : Int32) (a2 : Int32) (x0 : Nat) (x1 : Int32) (x2 : Nat) (τ : St), Ru M_H_hours d Q 39 [some (.ref a0), some (.int a1), some (.int a2)] [.ref x0, .int x1, .ref x2] τ = (isA 11 x0 ∧ Ru M_H_hours d Q 42 [some (.ref a0), some (.int a1), some (.int a2)] [.ref (rtab x0 4), .int x1, .ref x2] τ)) ∧
    (∀ (a0 : Nat) (a1 : Int32) (a2 : Int32) (x0 : Nat) (x1 : Int32) (x2 : Nat) (τ : St), Ru M_H_hours d Q 42 [some (.ref a0), some (.int a1), some (.int a2)] [.ref x0, .int x1, .ref x2] τ = (isA 1 x0 ∧ Ru M_H_hours d Q 45 [some (.ref a0), some (.int a1), some (.int a2)] [.int (τ.1 x0 8), .int x1, .ref x2] τ)) ∧
    (∀ (a0 : Nat) (a1 : Int32) (a2 : Int32) (x0 : Int32) (x1 : Int32) (x2 : Nat) (τ : St), Ru M_H_hours d Q 45 [some (.ref a0), some (.int a1), some (.int a2)] [.int x0, .int x1, .ref x2] τ = Ru M_H_hours d Q 46 [some (.ref a0), some (.int a1), some (.int a2)] [.int (x1 - x0), .ref x2] τ) ∧
    (∀ (a0 : Nat) (a1 : Int32) (a2 : Int32) (x0 : Int32) (x1 : Nat) (τ : St), Ru M_H_hours d Q 46 [some (.ref a0), some (.int a1), some (.int a2)] [.int x0, .ref x1] τ = Ru M_H_hours d Q 47 [some (.ref a0), some (.int a1), some (.int a2)] [.long x0.toInt64, .ref x1] τ) ∧
    (∀ (a0 : Nat) (a1 : Int32) (a2 : Int32) (x0 : Int64) (x1 : Nat) (τ : St), Ru M_H_hours d Q 47 [some (.ref a0), some (.int a1), some (.int a2)] [.long x0, .ref x1] τ = (isA 4 x1 ∧ Cl d m_Row_only [.ref x1, .long x0] τ (fun v τ' => Ru M_H_hours d Q 50 [some (.ref a0), some (.int a1), some (.int a2)] (v.toList ++ []) τ'))) ∧
    (∀ (a0 : Nat) (a1 : Int32) (a2 : Int32) (τ : St), Ru M_H_hours d Q 50 [some (.ref a0), some (.int a1), some (.int a2)] [] τ = Ru M_H_hours d Q 51 [some (.ref a0), some (.int a1), some (.int a2)] [.int a2] τ) ∧
    (∀ (a0 : Nat) (a1 : Int32) (a2 : Int32) (x0 : Int32) (τ : St), Ru M_H_hours d Q 51 [some (.ref a0), some (.int a1), some (.int a2)] [.int x0] τ = Q (some (.int x0)) τ) := ⟨
  fun _ _ _ => (R_at ok_H_hours rfl).trans (e_ald rfl),
  fun _ _ _ _ => (R_at ok_H_hours rfl).trans e_gR,
  fun _ _ _ _ => (R_at ok_H_hours rfl).trans (e_ald rfl),
  fun _ _ _ _ _ => (R_at ok_H_hours rfl).trans e_gR,
  fun _ _ x0 _ _ => (R_at ok_H_hours rfl).trans (e_cv [.ref x0] rfl rfl rfl),
  fun _ _ _ => (R_at ok_H_hours rfl).trans (e_ald rfl),
  fun _ _ _ _ => (R_at ok_H_hours rfl).trans (e_ald rfl),
  fun _ _ _ _ _ => (R_at ok_H_hours rfl).trans (e_ild rfl),
  fun _ _ _ _ _ _ => (R_at ok_H_hours rfl).trans e_push,
  fun _ _ x0 x1 _ _ _ => (R_at ok_H_hours rfl).trans (e_cv [.int x1, .int x0] rfl rfl rfl),
  fun _ _ x0 _ _ => (R_at ok_H_hours rfl).trans (e_cv [.int x0] rfl rfl rfl),
  fun _ _ _ _ => (R_at ok_H_hours rfl).trans e_ist,
  fun _ _ _ _ => (R_at ok_H_hours rfl).trans (e_ild rfl),
  fun _ _ _ _ _ => (R_at ok_H_hours rfl).trans e_if,
  fun _ _ _ _ => (R_at ok_H_hours rfl).trans (e_ald rfl),
  fun _ _ _ _ _ => (R_at ok_H_hours rfl).trans e_gR,
  fun _ _ _ _ _ => (R_at ok_H_hours rfl).trans (e_ald rfl),
  fun _ _ _ _ _ _ => (R_at ok_H_hours rfl).trans e_gR,
  fun _ _ _ _ _ _ => (R_at ok_H_hours rfl).trans e_gI,
  fun _ _ _ _ _ _ => (R_at ok_H_hours rfl).trans (e_ald rfl),
  fun _ _ _ _ _ _ _ => (R_at ok_H_hours rfl).trans e_gR,
  fun _ _ _ _ _ _ _ => (R_at ok_H_hours rfl).trans e_gI,
  fun _ _ _ _ _ _ _ => (R_at ok_H_hours rfl).trans e_bin,
  fun _ _ _ _ _ _ => (R_at ok_H_hours rfl).trans e_il,
  fun _ _ _ x0 _ _ => (R_at ok_H_hours rfl).trans (e_cv [.long x0] rfl rfl rfl),
  fun _ _ _ _ => (R_at ok_H_hours rfl).trans (e_ild rfl),
  fun _ _ _ _ _ => (R_at ok_H_hours rfl).trans e_iret⟩
set_option maxHeartbeats 4000000 in
theorem N_H_remembered (d : Nat) (Q : Qt) : ∀ (x0 : Nat) (x1 : Int32) (τ : St), Cl (d + 1) m_H_remembered [.ref x0, .int x1] τ Q = Ru M_H_remembered d Q 0 [some (.ref x0), some (.int x1)] [] τ := fun _ _ _ => propext ⟨fun h => h.2, fun h => ⟨Nat.le_of_ble_eq_true rfl, h⟩⟩
set_option maxHeartbeats 4000000 in
theorem E_H_remembered (d : Nat) (Q : Qt) :
    (∀ (a0 : Nat) (a1 : Int32) (τ : St), Ru M_H_remembered d Q 0 [some (.ref a0), some (.int a1)] [] τ = Ru M_H_remembered d Q 1 [some (.ref a0), some (.int a1)] [.int a1] τ) ∧
    (∀ (a0 : Nat) (a1 : Int32) (x0 : Int32) (τ : St), Ru M_H_remembered d Q 1 [some (.ref a0), some (.int a1)] [.int x0] τ = ((x0 < 0 → Ru M_H_remembered d Q 15 [some (.ref a0), some (.int a1)] [] τ) ∧ (¬ x0 < 0 → Ru M_H_remembered d Q 4 [some (.ref a0), some (.int a1)] [] τ))) ∧
    (∀ (a0 : Nat) (a1 : Int32) (τ : St), Ru M_H_remembered d Q 4 [some (.ref a0), some (.int a1)] [] τ = Ru M_H_remembered d Q 5 [some (.ref a0), some (.int a1)] [.ref a0] τ) ∧
    (∀ (a0 : Nat) (a1 : Int32) (x0 : Nat) (τ : St), Ru M_H_remembered d Q 5 [some (.ref a0), some (.int a1)] [.ref x0] τ = (isA 11 x0 ∧ Ru M_H_remembered d Q 8 [some (.ref a0), some (.int a1)] [.ref (rtab x0 5)] τ)) ∧
    (∀ (a0 : Nat) (a1 : Int32) (x0 : Nat) (τ : St), Ru M_H_remembered d Q 8 [some (.ref a0), some (.int a1)] [.ref x0] τ = Ru M_H_remembered d Q 9 [some (.ref a0), some (.int a1)] [.ref a0, .ref x0] τ) ∧
    (∀ (a0 : Nat) (a1 : Int32) (x0 : Nat) (x1 : Nat) (τ : St), Ru M_H_remembered d Q 9 [some (.ref a0), some (.int a1)] [.ref x0, .ref x1] τ = (isA 11 x0 ∧ Ru M_H_remembered d Q 12 [some (.ref a0), some (.int a1)] [.ref (rtab x0 4), .ref x1] τ)) ∧
    (∀ (a0 : Nat) (a1 : Int32) (x0 : Nat) (x1 : Nat) (τ : St), Ru M_H_remembered d Q 12 [some (.ref a0), some (.int a1)] [.ref x0, .ref x1] τ = (isA 2 x1 ∧ Cl d m_Past_add [.ref x1, .ref x0] τ (fun v τ' => Ru M_H_remembered d Q 15 [some (.ref a0), some (.int a1)] (v.toList ++ []) τ'))) ∧
    (∀ (a0 : Nat) (a1 : Int32) (τ : St), Ru M_H_remembered d Q 15 [some (.ref a0), some (.int a1)] [] τ = Ru M_H_remembered d Q 16 [some (.ref a0), some (.int a1)] [.int a1] τ) ∧
    (∀ (a0 : Nat) (a1 : Int32) (x0 : Int32) (τ : St), Ru M_H_remembered d Q 16 [some (.ref a0), some (.int a1)] [.int x0] τ = Q (some (.int x0)) τ) := ⟨
  fun _ _ _ => (R_at ok_H_remembered rfl).trans (e_ild rfl),
  fun _ _ _ _ => (R_at ok_H_remembered rfl).trans e_if,
  fun _ _ _ => (R_at ok_H_remembered rfl).trans (e_ald rfl),
  fun _ _ _ _ => (R_at ok_H_remembered rfl).trans e_gR,
  fun _ _ _ _ => (R_at ok_H_remembered rfl).trans (e_ald rfl),
  fun _ _ _ _ _ => (R_at ok_H_remembered rfl).trans e_gR,
  fun _ _ x0 _ _ => (R_at ok_H_remembered rfl).trans (e_cv [.ref x0] rfl rfl rfl),
  fun _ _ _ => (R_at ok_H_remembered rfl).trans (e_ild rfl),
  fun _ _ _ _ => (R_at ok_H_remembered rfl).trans e_iret⟩
set_option maxHeartbeats 4000000 in
theorem N_H_dragShip (d : Nat) (Q : Qt) : ∀ (x0 : Nat) (x1 : Int32) (x2 : Int32) (τ : St), Cl (d + 1) m_H_dragShip [.ref x0, .int x1, .int x2] τ Q = Ru M_H_dragShip d Q 0 [some (.ref x0), some (.int x1), some (.int x2), none] [] τ := fun _ _ _ _ => propext ⟨fun h => h.2, fun h => ⟨Nat.le_of_ble_eq_true rfl, h⟩⟩
set_option maxHeartbeats 4000000 in
theorem E_H_dragShip (d : Nat) (Q : Qt) :
    (∀ (a0 : Nat) (a1 : Int32) (a2 : Int32) (τ : St), Ru M_H_dragShip d Q 0 [some (.ref a0), some (.int a1), some (.int a2), none] [] τ = Ru M_H_dragShip d Q 1 [some (.ref a0), some (.int a1), some (.int a2), none] [.ref a0] τ) ∧
    (∀ (a0 : Nat) (a1 : Int32) (a2 : Int32) (x0 : Nat) (τ : St), Ru M_H_dragShip d Q 1 [some (.ref a0), some (.int a1), some (.int a2), none] [.ref x0] τ = Ru M_H_dragShip d Q 2 [some (.ref a0), some (.int a1), some (.int a2), none] [.int a1, .ref x0] τ) ∧
    (∀ (a0 : Nat) (a1 : Int32) (a2 : Int32) (x0 : Int32) (x1 : Nat) (τ : St), Ru M_H_dragShip d Q 2 [some (.ref a0), some (.int a1), some (.int a2), none] [.int x0, .ref x1] τ = Ru M_H_dragShip d Q 3 [some (.ref a0), some (.int a1), some (.int a2), none] [.int a2, .int x0, .ref x1] τ) ∧
    (∀ (a0 : Nat) (a1 : Int32) (a2 : Int32) (x0 : Int32) (x1 : Int32) (x2 : Nat) (τ : St), Ru M_H_dragShip d Q 3 [some (.ref a0), some (.int a1), some (.int a2), none] [.int x0, .int x1, .ref x2] τ = (isA 11 x2 ∧ Cl d m_H_pullOf [.ref x2, .int x1, .int x0] τ (fun v τ' => Ru M_H_dragShip d Q 6 [some (.ref a0), some (.int a1), some (.int a2), none] (v.toList ++ []) τ'))) ∧
    (∀ (a0 : Nat) (a1 : Int32) (a2 : Int32) (x0 : Int32) (τ : St), Ru M_H_dragShip d Q 6 [some (.ref a0), some (.int a1), some (.int a2), none] [.int x0] τ = Ru M_H_dragShip d Q 7 [some (.ref a0), some (.int a1), some (.int a2), some (.int x0)] [] τ) ∧
    (∀ (a0 : Nat) (a1 : Int32) (a2 : Int32) (a3 : Int32) (τ : St), Ru M_H_dragShip d Q 7 [some (.ref a0), some (.int a1), some (.int a2), some (.int a3)] [] τ = Ru M_H_dragShip d Q 8 [some (.ref a0), some (.int a1), some (.int a2), some (.int a3)] [.int a3] τ) ∧
    (∀ (a0 : Nat) (a1 : Int32) (a2 : Int32) (a3 : Int32) (x0 : Int32) (τ : St), Ru M_H_dragShip d Q 8 [some (.ref a0), some (.int a1), some (.int a2), some (.int a3)] [.int x0] τ = ((0 ≤ x0 → Ru M_H_dragShip d Q 13 [some (.ref a0), some (.int a1), some (.int a2), some (.int a3)] [] τ) ∧ (¬ 0 ≤ x0 → Ru M_H_dragShip d Q 11 [some (.ref a0), some (.int a1), some (.int a2), some (.int a3)] [] τ))) ∧
    (∀ (a0 : Nat) (a1 : Int32) (a2 : Int32) (a3 : Int32) (τ : St), Ru M_H_dragShip d Q 11 [some (.ref a0), some (.int a1), some (.int a2), some (.int a3)] [] τ = Ru M_H_dragShip d Q 12 [some (.ref a0), some (.int a1), some (.int a2), some (.int a3)] [.int a3] τ) ∧
    (∀ (a0 : Nat) (a1 : Int32) (a2 : Int32) (a3 : Int32) (x0 : Int32) (τ : St), Ru M_H_dragShip d Q 12 [some (.ref a0), some (.int a1), some (.int a2), some (.int a3)] [.int x0] τ = Q (some (.int x0)) τ) ∧
    (∀ (a0 : Nat) (a1 : Int32) (a2 : Int32) (a3 : Int32) (τ : St), Ru M_H_dragShip d Q 13 [some (.ref a0), some (.int a1), some (.int a2), some (.int a3)] [] τ = Ru M_H_dragShip d Q 14 [some (.ref a0), some (.int a1), some (.int a2), some (.int a3)] [.ref a0] τ) ∧
    (∀ (a0 : Nat) (a1 : Int32) (a2 : Int32) (a3 : Int32) (x0 : Nat) (τ : St), Ru M_H_dragShip d Q 14 [some (.ref a0), some (.int a1), some (.int a2), some (.int a3)] [.ref x0] τ = (isA 11 x0 ∧ Ru M_H_dragShip d Q 17 [some (.ref a0), some (.int a1), some (.int a2), some (.int a3)] [.ref (rtab x0 3)] τ)) ∧
    (∀ (a0 : Nat) (a1 : Int32) (a2 : Int32) (a3 : Int32) (x0 : Nat) (τ : St), Ru M_H_dragShip d Q 17 [some (.ref a0), some (.int a1), some (.int a2), some (.int a3)] [.ref x0] τ = Ru M_H_dragShip d Q 18 [some (.ref a0), some (.int a1), some (.int a2), some (.int a3)] [.int a1, .ref x0] τ) ∧
    (∀ (a0 : Nat) (a1 : Int32) (a2 : Int32) (a3 : Int32) (x0 : Int32) (x1 : Nat) (τ : St), Ru M_H_dragShip d Q 18 [some (.ref a0), some (.int a1), some (.int a2), some (.int a3)] [.int x0, .ref x1] τ = (isA 1 x1 ∧ Cl d m_Moment_wasDragged [.ref x1, .int x0] τ (fun v τ' => Ru M_H_dragShip d Q 21 [some (.ref a0), some (.int a1), some (.int a2), some (.int a3)] (v.toList ++ []) τ'))) ∧
    (∀ (a0 : Nat) (a1 : Int32) (a2 : Int32) (a3 : Int32) (x0 : Int32) (τ : St), Ru M_H_dragShip d Q 21 [some (.ref a0), some (.int a1), some (.int a2), some (.int a3)] [.int x0] τ = ((x0 = 0 → Ru M_H_dragShip d Q 27 [some (.ref a0), some (.int a1), some (.int a2), some (.int a3)] [] τ) ∧ (¬ x0 = 0 → Ru M_H_dragShip d Q 24 [some (.ref a0), some (.int a1), some (.int a2), some (.int a3)] [] τ))) ∧
    (∀ (a0 : Nat) (a1 : Int32) (a2 : Int32) (a3 : Int32) (τ : St), Ru M_H_dragShip d Q 24 [some (.ref a0), some (.int a1), some (.int a2), some (.int a3)] [] τ = Ru M_H_dragShip d Q 26 [some (.ref a0), some (.int a1), some (.int a2), some (.int a3)] [.int (-3)] τ) ∧
    (∀ (a0 : Nat) (a1 : Int32) (a2 : Int32) (a3 : Int32) (x0 : Int32) (τ : St), Ru M_H_dragShip d Q 26 [some (.ref a0), some (.int a1), some (.int a2), some (.int a3)] [.int x0] τ = Q (some (.int x0)) τ) ∧
    (∀ (a0 : Nat) (a1 : Int32) (a2 : Int32) (a3 : Int32) (τ : St), Ru M_H_dragShip d Q 27 [some (.ref a0), some (.int a1), some (.int a2), some (.int a3)] [] τ = Ru M_H_dragShip d Q 28 [some (.ref a0), some (.int a1), some (.int a2), some (.int a3)] [.ref a0] τ) ∧
    (∀ (a0 : Nat) (a1 : Int32) (a2 : Int32) (a3 : Int32) (x0 : Nat) (τ : St), Ru M_H_dragShip d Q 28 [some (.ref a0), some (.int a1), some (.int a2), some (.int a3)] [.ref x0] τ = (isA 11 x0 ∧ Ru M_H_dragShip d Q 31 [some (.ref a0), some (.int a1), some (.int a2), some (.int a3)] [.int (τ.1 x0 8)] τ)) ∧
    (∀ (a0 : Nat) (a1 : Int32) (a2 : Int32) (a3 : Int32) (x0 : Int32) (τ : St), Ru M_H_dragShip d Q 31 [some (.ref a0), some (.int a1), some (.int a2), some (.int a3)] [.int x0] τ = Ru M_H_dragShip d Q 32 [some (.ref a0), some (.int a1), some (.int a2), some (.int a3)] [.ref a0, .int x0] τ) ∧
    (∀ (a0 : Nat) (a1 : Int32) (a2 : Int32) (a3 : Int32) (x0 : Nat) (x1 : Int32) (τ : St), Ru M_H_dragShip d Q 32 [some (.ref a0), some (.int a1), some (.int a2), some (.int a3)] [.ref x0, .int x1] τ = (isA 11 x0 ∧ Ru M_H_dragShip d Q 35 [some (.ref a0), some (.int a1), some (.int a2), some (.int a3)] [.ref (rtab x0 3), .int x1] τ)) ∧
    (∀ (a0 : Nat) (a1 : Int32) (a2 : Int32) (a3 : Int32) (x0 : Nat) (x1 : Int32) (τ : St), Ru M_H_dragShip d Q 35 [some (.ref a0), some (.int a1), some (.int a2), some (.int a3)] [.ref x0, .int x1] τ = (isA 1 x0 ∧ Ru M_H_dragShip d Q 38 [some (.ref a0), some (.int a1), some (.int a2), some (.int a3)] [.int (τ.1 x0 4), .int x1] τ)) ∧
    (∀ (a0 : Nat) (a1 : Int32) (a2 : Int32) (a3 : Int32) (x0 : Int32) (x1 : Int32) (τ : St), Ru M_H_dragShip d Q 38 [some (.ref a0), some (.int a1), some (.int a2), some (.int a3)] [.int x0, .int x1] τ = Ru M_H_dragShip d Q 39 [some (.ref a0), some (.int a1), some (.int a2), some (.int a3)] [.int (x1 - x0)] τ) ∧
    (∀ (a0 : Nat) (a1 : Int32) (a2 : Int32) (a3 : Int32) (x0 : Int32) (τ : St), Ru M_H_dragShip d Q 39 [some (.ref a0), some (.int a1), some (.int a2), some (.int a3)] [.int x0] τ = Ru M_H_dragShip d Q 40 [some (.ref a0), some (.int a1), some (.int a2), some (.int a3)] [.int a3, .int x0] τ) ∧
    (∀ (a0 : Nat) (a1 : Int32) (a2 : Int32) (a3 : Int32) (x0 : Int32) (x1 : Int32) (τ : St), Ru M_H_dragShip d Q 40 [some (.ref a0), some (.int a1), some (.int a2), some (.int a3)] [.int x0, .int x1] τ = ((x0 ≤ x1 → Ru M_H_dragShip d Q 46 [some (.ref a0), some (.int a1), some (.int a2), some (.int a3)] [] τ) ∧ (¬ x0 ≤ x1 → Ru M_H_dragShip d Q 43 [some (.ref a0), some (.int a1), some (.int a2), some (.int a3)] [] τ))) ∧
    (∀ (a0 : Nat) (a1 : Int32) (a2 : Int32) (a3 : Int32) (τ : St), Ru M_H_dragShip d Q 43 [some (.ref a0), some (.int a1), some (.int a2), some (.int a3)] [] τ = Ru M_H_dragShip d Q 45 [some (.ref a0), some (.int a1), some (.int a2), some (.int a3)] [.int (-4)] τ) ∧
    (∀ (a0 : Nat) (a1 : Int32) (a2 : Int32) (a3 : Int32) (x0 : Int32) (τ : St), Ru M_H_dragShip d Q 45 [some (.ref a0), some (.int a1), some (.int a2), some (.int a3)] [.int x0] τ = Q (some (.int x0)) τ) ∧
    (∀ (a0 : Nat) (a1 : Int32) (a2 : Int32) (a3 : Int32) (τ : St), Ru M_H_dragShip d Q 46 [some (.ref a0), some (.int a1), some (.int a2), some (.int a3)] [] τ = Ru M_H_dragShip d Q 47 [some (.ref a0), some (.int a1), some (.int a2), some (.int a3)] [.ref a0] τ) ∧
    (∀ (a0 : Nat) (a1 : Int32) (a2 : Int32) (a3 : Int32) (x0 : Nat) (τ : St), Ru M_H_dragShip d Q 47 [some (.ref a0), some (.int a1), some (.int a2), some (.int a3)] [.ref x0] τ = (isA 11 x0 ∧ Ru M_H_dragShip d Q 50 [some (.ref a0), some (.int a1), some (.int a2), some (.int a3)] [.ref (rtab x0 3)] τ)) ∧
    (∀ (a0 : Nat) (a1 : Int32) (a2 : Int32) (a3 : Int32) (x0 : Nat) (τ : St), Ru M_H_dragShip d Q 50 [some (.ref a0), some (.int a1), some (.int a2), some (.int a3)] [.ref x0] τ = Ru M_H_dragShip d Q 51 [some (.ref a0), some (.int a1), some (.int a2), some (.int a3)] [.int a1, .ref x0] τ) ∧
    (∀ (a0 : Nat) (a1 : Int32) (a2 : Int32) (a3 : Int32) (x0 : Int32) (x1 : Nat) (τ : St), Ru M_H_dragShip d Q 51 [some (.ref a0), some (.int a1), some (.int a2), some (.int a3)] [.int x0, .ref x1] τ = Ru M_H_dragShip d Q 52 [some (.ref a0), some (.int a1), some (.int a2), some (.int a3)] [.ref a0, .int x0, .ref x1] τ) ∧
    (∀ (a0 : Nat) (a1 : Int32) (a2 : Int32) (a3 : Int32) (x0 : Nat) (x1 : Int32) (x2 : Nat) (τ : St), Ru M_H_dragShip d Q 52 [some (.ref a0), some (.int a1), some (.int a2), some (.int a3)] [.ref x0, .int x1, .ref x2] τ = (isA 11 x0 ∧ Ru M_H_dragShip d Q 55 [some (.ref a0), some (.int a1), some (.int a2), some (.int a3)] [.ref (rtab x0 2), .int x1, .ref x2] τ)) ∧
    (∀ (a0 : Nat) (a1 : Int32) (a2 : Int32) (a3 : Int32) (x0 : Nat) (x1 : Int32) (x2 : Nat) (τ : St), Ru M_H_dragShip d Q 55 [some (.ref a0), some (.int a1), some (.int a2), some (.int a3)] [.ref x0, .int x1, .ref x2] τ = Ru M_H_dragShip d Q 56 [some (.ref a0), some (.int a1), some (.int a2), some (.int a3)] [.ref a0, .ref x0, .int x1, .ref x2] τ) ∧
    (∀ (a0 : Nat) (a1 : Int32) (a2 : Int32) (a3 : Int32) (x0 : Nat) (x1 : Nat) (x2 : Int32) (x3 : Nat) (τ : St), Ru M_H_dragShip d Q 56 [some (.ref a0), some (.int a1), some (.int a2), some (.int a3)] [.ref x0, .ref x1, .int x2, .ref x3] τ = (isA 11 x0 ∧ Ru M_H_dragShip d Q 59 [some (.ref a0), some (.int a1), some (.int a2), some (.int a3)] [.ref (rtab x0 3), .ref x1, .int x2, .ref x3] τ)) ∧
    (∀ (a0 : Nat) (a1 : Int32) (a2 : Int32) (a3 : Int32) (x0 : Nat) (x1 : Nat) (x2 : Int32) (x3 : Nat) (τ : St), Ru M_H_dragShip d Q 59 [some (.ref a0), some (.int a1), some (.int a2), some (.int a3)] [.ref x0, .ref x1, .int x2, .ref x3] τ = Ru M_H_dragShip d Q 60 [some (.ref a0), some (.int a1), some (.int a2), some (.int a3)] [.int a1, .ref x0, .ref x1, .int x2, .ref x3] τ) ∧
    (∀ (a0 : Nat) (a1 : Int32) (a2 : Int32) (a3 : Int32) (x0 : Int32) (x1 : Nat) (x2 : Nat) (x3 : Int32) (x4 : Nat) (τ : St), Ru M_H_dragShip d Q 60 [some (.ref a0), some (.int a1), some (.int a2), some (.int a3)] [.int x0, .ref x1, .ref x2, .int x3, .ref x4] τ = (isA 1 x1 ∧ Cl d m_Moment_placeOf [.ref x1, .int x0] τ (fun v τ' => Ru M_H_dragShip d Q 63 [some (.ref a0), some (.int a1), some (.int a2), some (.int a3)] (v.toList ++ [.ref x2, .int x3, .ref x4]) τ'))) ∧
    (∀ (a0 : Nat) (a1 : Int32) (a2 : Int32) (a3 : Int32) (x0 : Int32) (x1 : Nat) (x2 : Int32) (x3 : Nat) (τ : St), Ru M_H_dragShip d Q 63 [some (.ref a0), some (.int a1), some (.int a2), some (.int a3)] [.int x0, .ref x1, .int x2, .ref x3] τ = Ru M_H_dragShip d Q 64 [some (.ref a0), some (.int a1), some (.int a2), some (.int a3)] [.int a2, .int x0, .ref x1, .int x2, .ref x3] τ) ∧
    (∀ (a0 : Nat) (a1 : Int32) (a2 : Int32) (a3 : Int32) (x0 : Int32) (x1 : Int32) (x2 : Nat) (x3 : Int32) (x4 : Nat) (τ : St), Ru M_H_dragShip d Q 64 [some (.ref a0), some (.int a1), some (.int a2), some (.int a3)] [.int x0, .int x1, .ref x2, .int x3, .ref x4] τ = (isA 0 x2 ∧ Cl d m_Ground_beside [.ref x2, .int x1, .int x0] τ (fun v τ' => Ru M_H_dragShip d Q 67 [some (.ref a0), some (.int a1), some (.int a2), some (.int a3)] (v.toList ++ [.int x3, .ref x4]) τ'))) ∧
    (∀ (a0 : Nat) (a1 : Int32) (a2 : Int32) (a3 : Int32) (x0 : Int32) (x1 : Int32) (x2 : Nat) (τ : St), Ru M_H_dragShip d Q 67 [some (.ref a0), some (.int a1), some (.int a2), some (.int a3)] [.int x0, .int x1, .ref x2] τ = (isA 1 x2 ∧ Cl d m_Moment_put [.ref x2, .int x1, .int x0] τ (fun v τ' => Ru M_H_dragShip d Q 70 [some (.ref a0), some (.int a1), some (.int a2), some (.int a3)] (v.toList ++ []) τ'))) ∧
    (∀ (a0 : Nat) (a1 : Int32) (a2 : Int32) (a3 : Int32) (τ : St), Ru M_H_dragShip d Q 70 [some (.ref a0), some (.int a1), some (.int a2), some (.int a3)] [] τ = Ru M_H_dragShip d Q 71 [some (.ref a0), some (.int a1), some (.int a2), some (.int a3)] [.ref a0] τ) ∧
    (∀ (a0 : Nat) (a1 : Int32) (a2 : Int32) (a3 : Int32) (x0 : Nat) (τ : St), Ru M_H_dragShip d Q 71 [some (.ref a0), some (.int a1), some (.int a2), some (.int a3)] [.ref x0] τ = (isA 11 x0 ∧ Ru M_H_dragShip d Q 74 [some (.ref a0), some (.int a1), some (.int a2), some (.int a3)] [.ref (rtab x0 3)] τ)) ∧
    (∀ (a0 : Nat) (a1 : Int32) (a2 : Int32) (a3 : Int32) (x0 : Nat) (τ : St), Ru M_H_dragShip d Q 74 [some (.ref a0), some (.int a1), some (.int a2), some (.int a3)] [.ref x0] τ = Ru M_H_dragShip d Q 75 [some (.ref a0), some (.int a1), some (.int a2), some (.int a3)] [.ref x0, .ref x0] τ) ∧
    (∀ (a0 : Nat) (a1 : Int32) (a2 : Int32) (a3 : Int32) (x0 : Nat) (x1 : Nat) (τ : St), Ru M_H_dragShip d Q 75 [some (.ref a0), some (.int a1), some (.int a2), some (.int a3)] [.ref x0, .ref x1] τ = (isA 1 x0 ∧ Ru M_H_dragShip d Q 78 [some (.ref a0), some (.int a1), some (.int a2), some (.int a3)] [.int (τ.1 x0 2), .ref x1] τ)) ∧
    (∀ (a0 : Nat) (a1 : Int32) (a2 : Int32) (a3 : Int32) (x0 : Int32) (x1 : Nat) (τ : St), Ru M_H_dragShip d Q 78 [some (.ref a0), some (.int a1), some (.int a2), some (.int a3)] [.int x0, .ref x1] τ = Ru M_H_dragShip d Q 79 [some (.ref a0), some (.int a1), some (.int a2), some (.int a3)] [.int 1, .int x0, .ref x1] τ) ∧
    (∀ (a0 : Nat) (a1 : Int32) (a2 : Int32) (a3 : Int32) (x0 : Int32) (x1 : Int32) (x2 : Nat) (τ : St), Ru M_H_dragShip d Q 79 [some (.ref a0), some (.int a1), some (.int a2), some (.int a3)] [.int x0, .int x1, .ref x2] τ = Ru M_H_dragShip d Q 80 [some (.ref a0), some (.int a1), some (.int a2), some (.int a3)] [.int a1, .int x0, .int x1, .ref x2] τ) ∧
    (∀ (a0 : Nat) (a1 : Int32) (a2 : Int32) (a3 : Int32) (x0 : Int32) (x1 : Int32) (x2 : Int32) (x3 : Nat) (τ : St), Ru M_H_dragShip d Q 80 [some (.ref a0), some (.int a1), some (.int a2), some (.int a3)] [.int x0, .int x1, .int x2, .ref x3] τ = Ru M_H_dragShip d Q 81 [some (.ref a0), some (.int a1), some (.int a2), some (.int a3)] [.int (x1 <<< (x0 &&& 31)), .int x2, .ref x3] τ) ∧
    (∀ (a0 : Nat) (a1 : Int32) (a2 : Int32) (a3 : Int32) (x0 : Int32) (x1 : Int32) (x2 : Nat) (τ : St), Ru M_H_dragShip d Q 81 [some (.ref a0), some (.int a1), some (.int a2), some (.int a3)] [.int x0, .int x1, .ref x2] τ = Ru M_H_dragShip d Q 82 [some (.ref a0), some (.int a1), some (.int a2), some (.int a3)] [.int (x1 ||| x0), .ref x2] τ) ∧
    (∀ (a0 : Nat) (a1 : Int32) (a2 : Int32) (a3 : Int32) (x0 : Int32) (x1 : Nat) (τ : St), Ru M_H_dragShip d Q 82 [some (.ref a0), some (.int a1), some (.int a2), some (.int a3)] [.int x0, .ref x1] τ = (isA 1 x1 ∧ Ru M_H_dragShip d Q 85 [some (.ref a0), some (.int a1), some (.int a2), some (.int a3)] [] (sI τ x1 2 x0))) ∧
    (∀ (a0 : Nat) (a1 : Int32) (a2 : Int32) (a3 : Int32) (τ : St), Ru M_H_dragShip d Q 85 [some (.ref a0), some (.int a1), some (.int a2), some (.int a3)] [] τ = Ru M_H_dragShip d Q 86 [some (.ref a0), some (.int a1), some (.int a2), some (.int a3)] [.ref a0] τ) ∧
    (∀ (a0 : Nat) (a1 : Int32) (a2 : Int32) (a3 : Int32) (x0 : Nat) (τ : St), Ru M_H_dragShip d Q 86 [some (.ref a0), some (.int a1), some (.int a2), some (.int a3)] [.ref x0] τ = (isA 11 x0 ∧ Ru M_H_dragShip d Q 89 [some (.ref a0), some (.int a1), some (.int a2), some (.int a3)] [.ref (rtab x0 3)] τ)) ∧
    (∀ (a0 : Nat) (a1 : Int32) (a2 : Int32) (a3 : Int32) (x0 : Nat) (τ : St), Ru M_H_dragShip d Q 89 [some (.ref a0), some (.int a1), some (.int a2), some (.int a3)] [.ref x0] τ = Ru M_H_dragShip d Q 90 [some (.ref a0), some (.int a1), some (.int a2), some (.int a3)] [.ref x0, .ref x0] τ) ∧
    (∀ (a0 : Nat) (a1 : Int32) (a2 : Int32) (a3 : Int32) (x0 : Nat) (x1 : Nat) (τ : St), Ru M_H_dragShip d Q 90 [some (.ref a0), some (.int a1), some (.int a2), some (.int a3)] [.ref x0, .ref x1] τ = (isA 1 x0 ∧ Ru M_H_dragShip d Q 93 [some (.ref a0), some (.int a1), some (.int a2), some (.int a3)] [.int (τ.1 x0 4), .ref x1] τ)) ∧
    (∀ (a0 : Nat) (a1 : Int32) (a2 : Int32) (a3 : Int32) (x0 : Int32) (x1 : Nat) (τ : St), Ru M_H_dragShip d Q 93 [some (.ref a0), some (.int a1), some (.int a2), some (.int a3)] [.int x0, .ref x1] τ = Ru M_H_dragShip d Q 94 [some (.ref a0), some (.int a1), some (.int a2), some (.int a3)] [.int a3, .int x0, .ref x1] τ) ∧
    (∀ (a0 : Nat) (a1 : Int32) (a2 : Int32) (a3 : Int32) (x0 : Int32) (x1 : Int32) (x2 : Nat) (τ : St), Ru M_H_dragShip d Q 94 [some (.ref a0), some (.int a1), some (.int a2), some (.int a3)] [.int x0, .int x1, .ref x2] τ = Ru M_H_dragShip d Q 95 [some (.ref a0), some (.int a1), some (.int a2), some (.int a3)] [.int (x1 + x0), .ref x2] τ) ∧
    (∀ (a0 : Nat) (a1 : Int32) (a2 : Int32) (a3 : Int32) (x0 : Int32) (x1 : Nat) (τ : St), Ru M_H_dragShip d Q 95 [some (.ref a0), some (.int a1), some (.int a2), some (.int a3)] [.int x0, .ref x1] τ = (isA 1 x1 ∧ Ru M_H_dragShip d Q 98 [some (.ref a0), some (.int a1), some (.int a2), some (.int a3)] [] (sI τ x1 4 x0))) ∧
    (∀ (a0 : Nat) (a1 : Int32) (a2 : Int32) (a3 : Int32) (τ : St), Ru M_H_dragShip d Q 98 [some (.ref a0), some (.int a1), some (.int a2), some (.int a3)] [] τ = Ru M_H_dragShip d Q 99 [some (.ref a0), some (.int a1), some (.int a2), some (.int a3)] [.ref a0] τ) ∧
    (∀ (a0 : Nat) (a1 : Int32) (a2 : Int32) (a3 : Int32) (x0 : Nat) (τ : St), Ru M_H_dragShip d Q 99 [some (.ref a0), some (.int a1), some (.int a2), some (.int a3)] [.ref x0] τ = (isA 11 x0 ∧ Ru M_H_dragShip d Q 102 [some (.ref a0), some (.int a1), some (.int a2), some (.int a3)] [.ref (rtab x0 3)] τ)) ∧
    (∀ (a0 : Nat) (a1 : Int32) (a2 : Int32) (a3 : Int32) (x0 : Nat) (τ : St), Ru M_H_dragShip d Q 102 [some (.ref a0), some (.int a1), some (.int a2), some (.int a3)] [.ref x0] τ = Ru M_H_dragShip d Q 103 [some (.ref a0), some (.int a1), some (.int a2), some (.int a3)] [.ref x0, .ref x0] τ) ∧
    (∀ (a0 : Nat) (a1 : Int32) (a2 : Int32) (a3 : Int32) (x0 : Nat) (x1 : Nat) (τ : St), Ru M_H_dragShip d Q 103 [some (.ref a0), some (.int a1), some (.int a2), some (.int a3)] [.ref x0, .ref x1] τ = (isA 1 x0 ∧ Ru M_H_dragShip d Q 106 [some (.ref a0), some (.int a1), some (.int a2), some (.int a3)] [.int (τ.1 x0 7), .ref x1] τ)) ∧
    (∀ (a0 : Nat) (a1 : Int32) (a2 : Int32) (a3 : Int32) (x0 : Int32) (x1 : Nat) (τ : St), Ru M_H_dragShip d Q 106 [some (.ref a0), some (.int a1), some (.int a2), some (.int a3)] [.int x0, .ref x1] τ = Ru M_H_dragShip d Q 107 [some (.ref a0), some (.int a1), some (.int a2), some (.int a3)] [.int a3, .int x0, .ref x1] τ) ∧
    (∀ (a0 : Nat) (a1 : Int32) (a2 : Int32) (a3 : Int32) (x0 : Int32) (x1 : Int32) (x2 : Nat) (τ : St), Ru M_H_dragShip d Q 107 [some (.ref a0), some (.int a1), some (.int a2), some (.int a3)] [.int x0, .int x1, .ref x2] τ = Ru M_H_dragShip d Q 108 [some (.ref a0), some (.int a1), some (.int a2), some (.int a3)] [.ref a0, .int x0, .int x1, .ref x2] τ) ∧
    (∀ (a0 : Nat) (a1 : Int32) (a2 : Int32) (a3 : Int32) (x0 : Nat) (x1 : Int32) (x2 : Int32) (x3 : Nat) (τ : St), Ru M_H_dragShip d Q 108 [some (.ref a0), some (.int a1), some (.int a2), some (.int a3)] [.ref x0, .int x1, .int x2, .ref x3] τ = (isA 11 x0 ∧ Ru M_H_dragShip d Q 111 [some (.ref a0), some (.int a1), some (.int a2), some (.int a3)] [.ref (rtab x0 3), .int x1, .int x2, .ref x3] τ)) ∧
    (∀ (a0 : Nat) (a1 : Int32) (a2 : Int32) (a3 : Int32) (x0 : Nat) (x1 : Int32) (x2 : Int32) (x3 : Nat) (τ : St), Ru M_H_dragShip d Q 111 [some (.ref a0), some (.int a1), some (.int a2), some (.int a3)] [.ref x0, .int x1, .int x2, .ref x3] τ = (isA 1 x0 ∧ Ru M_H_dragShip d Q 114 [some (.ref a0), some (.int a1), some (.int a2), some (.int a3)] [.int (τ.1 x0 5), .int x1, .int x2, .ref x3] τ)) ∧
    (∀ (a0 : Nat) (a1 : Int32) (a2 : Int32) (a3 : Int32) (x0 : Int32) (x1 : Int32) (x2 : Int32) (x3 : Nat) (τ : St), Ru M_H_dragShip d Q 114 [some (.ref a0), some (.int a1), some (.int a2), some (.int a3)] [.int x0, .int x1, .int x2, .ref x3] τ = Cl d m_H_kindOf [.int x0] τ (fun v τ' => Ru M_H_dragShip d Q 117 [some (.ref a0), some (.int a1), some (.int a2), some (.int a3)] (v.toList ++ [.int x1, .int x2, .ref x3]) τ')) ∧
    (∀ (a0 : Nat) (a1 : Int32) (a2 : Int32) (a3 : Int32) (x0 : Int32) (x1 : Int32) (x2 : Int32) (x3 : Nat) (τ : St), Ru M_H_dragShip d Q 117 [some (.ref a0), some (.int a1), some (.int a2), some (.int a3)] [.int x0, .int x1, .int x2, .ref x3] τ = Cl d m_H_noiseOf [.int x1, .int x0] τ (fun v τ' => Ru M_H_dragShip d Q 120 [some (.ref a0), some (.int a1), some (.int a2), some (.int a3)] (v.toList ++ [.int x2, .ref x3]) τ')) ∧
    (∀ (a0 : Nat) (a1 : Int32) (a2 : Int32) (a3 : Int32) (x0 : Int32) (x1 : Int32) (x2 : Nat) (τ : St), Ru M_H_dragShip d Q 120 [some (.ref a0), some (.int a1), some (.int a2), some (.int a3)] [.int x0, .int x1, .ref x2] τ = Ru M_H_dragShip d Q 121 [some (.ref a0), some (.int a1), some (.int a2), some (.int a3)] [.int (x1 + x0), .ref x2] τ) ∧
    (∀ (a0 : Nat) (a1 : Int32) (a2 : Int32) (a3 : Int32) (x0 : Int32) (x1 : Nat) (τ : St), Ru M_H_dragShip d Q 121 [some (.ref a0), some (.int a1), some (.int a2), some (.int a3)] [.int x0, .ref x1] τ = (isA 1 x1 ∧ Ru M_H_dragShip d Q 124 [some (.ref a0), some (.int a1), some (.int a2), some (.int a3)] [] (sI τ x1 7 x0))) ∧
    (∀ (a0 : Nat) (a1 : Int32) (a2 : Int32) (a3 : Int32) (τ : St), Ru M_H_dragShip d Q 124 [some (.ref a0), some (.int a1), some (.int a2), some (.int a3)] [] τ = Ru M_H_dragShip d Q 125 [some (.ref a0), some (.int a1), some (.int a2), some (.int a3)] [.ref a0] τ) ∧
    (∀ (a0 : Nat) (a1 : Int32) (a2 : Int32) (a3 : Int32) (x0 : Nat) (τ : St), Ru M_H_dragShip d Q 125 [some (.ref a0), some (.int a1), some (.int a2), some (.int a3)] [.ref x0] τ = (isA 11 x0 ∧ Ru M_H_dragShip d Q 128 [some (.ref a0), some (.int a1), some (.int a2), some (.int a3)] [.int (τ.1 x0 8)] τ)) ∧
    (∀ (a0 : Nat) (a1 : Int32) (a2 : Int32) (a3 : Int32) (x0 : Int32) (τ : St), Ru M_H_dragShip d Q 128 [some (.ref a0), some (.int a1), some (.int a2), some (.int a3)] [.int x0] τ = Ru M_H_dragShip d Q 129 [some (.ref a0), some (.int a1), some (.int a2), some (.int a3)] [.ref a0, .int x0] τ) ∧
    (∀ (a0 : Nat) (a1 : Int32) (a2 : Int32) (a3 : Int32) (x0 : Nat) (x1 : Int32) (τ : St), Ru M_H_dragShip d Q 129 [some (.ref a0), some (.int a1), some (.int a2), some (.int a3)] [.ref x0, .int x1] τ = (isA 11 x0 ∧ Ru M_H_dragShip d Q 132 [some (.ref a0), some (.int a1), some (.int a2), some (.int a3)] [.ref (rtab x0 3), .int x1] τ)) ∧
    (∀ (a0 : Nat) (a1 : Int32) (a2 : Int32) (a3 : Int32) (x0 : Nat) (x1 : Int32) (τ : St), Ru M_H_dragShip d Q 132 [some (.ref a0), some (.int a1), some (.int a2), some (.int a3)] [.ref x0, .int x1] τ = (isA 1 x0 ∧ Ru M_H_dragShip d Q 135 [some (.ref a0), some (.int a1), some (.int a2), some (.int a3)] [.int (τ.1 x0 4), .int x1] τ)) ∧
    (∀ (a0 : Nat) (a1 : Int32) (a2 : Int32) (a3 : Int32) (x0 : Int32) (x1 : Int32) (τ : St), Ru M_H_dragShip d Q 135 [some (.ref a0), some (.int a1), some (.int a2), some (.int a3)] [.int x0, .int x1] τ = Ru M_H_dragShip d Q 136 [some (.ref a0), some (.int a1), some (.int a2), some (.int a3)] [.int (x1 - x0)] τ) ∧
    (∀ (a0 : Nat) (a1 : Int32) (a2 : Int32) (a3 : Int32) (x0 : Int32) (τ : St), Ru M_H_dragShip d Q 136 [some (.ref a0), some (.int a1), some (.int a2), some (.int a3)] [.int x0] τ = Q (some (.int x0)) τ) := ⟨
  fun _ _ _ _ => (R_at ok_H_dragShip rfl).trans (e_ald rfl),
  fun _ _ _ _ _ => (R_at ok_H_dragShip rfl).trans (e_ild rfl),
  fun _ _ _ _ _ _ => (R_at ok_H_dragShip rfl).trans (e_ild rfl),
  fun _ _ _ x0 x1 _ _ => (R_at ok_H_dragShip rfl).trans (e_cv [.int x1, .int x0] rfl rfl rfl),
  fun _ _ _ _ _ => (R_at ok_H_dragShip rfl).trans e_ist,
  fun _ _ _ _ _ => (R_at ok_H_dragShip rfl).trans (e_ild rfl),
  fun _ _ _ _ _ _ => (R_at ok_H_dragShip rfl).trans e_if,
  fun _ _ _ _ _ => (R_at ok_H_dragShip rfl).trans (e_ild rfl),
  fun _ _ _ _ _ _ => (R_at ok_H_dragShip rfl).trans e_iret,
  fun _ _ _ _ _ => (R_at ok_H_dragShip rfl).trans (e_ald rfl),
  fun _ _ _ _ _ _ => (R_at ok_H_dragShip rfl).trans e_gR,
  fun _ _ _ _ _ _ => (R_at ok_H_dragShip rfl).trans (e_ild rfl),
  fun _ _ _ _ x0 _ _ => (R_at ok_H_dragShip rfl).trans (e_cv [.int x0] rfl rfl rfl),
  fun _ _ _ _ _ _ => (R_at ok_H_dragShip rfl).trans e_if,
  fun _ _ _ _ _ => (R_at ok_H_dragShip rfl).trans e_push,
  fun _ _ _ _ _ _ => (R_at ok_H_dragShip rfl).trans e_iret,
  fun _ _ _ _ _ => (R_at ok_H_dragShip rfl).trans (e_ald rfl),
  fun _ _ _ _ _ _ => (R_at ok_H_dragShip rfl).trans e_gI,
  fun _ _ _ _ _ _ => (R_at ok_H_dragShip rfl).trans (e_ald rfl),
  fun _ _ _ _ _ _ _ => (R_at ok_H_dragShip rfl).trans e_gR,
  fun _ _ _ _ _ _ _ => (R_at ok_H_dragShip rfl).trans e_gI,
  fun _ _ _ _ _ _ _ => (R_at ok_H_dragShip rfl).trans e_bin,
  fun _ _ _ _ _ _ => (R_at ok_H_dragShip rfl).trans (e_ild rfl),
  fun _ _ _ _ _ _ _ => (R_at ok_H_dragShip rfl).trans e_ic,
  fun _ _ _ _ _ => (R_at ok_H_dragShip rfl).trans e_push,
  fun _ _ _ _ _ _ => (R_at ok_H_dragShip rfl).trans e_iret,
  fun _ _ _ _ _ => (R_at ok_H_dragShip rfl).trans (e_ald rfl),
  fun _ _ _ _ _ _ => (R_at ok_H_dragShip rfl).trans e_gR,
  fun _ _ _ _ _ _ => (R_at ok_H_dragShip rfl).trans (e_ild rfl),
  fun _ _ _ _ _ _ _ => (R_at ok_H_dragShip rfl).trans (e_ald rfl),
  fun _ _ _ _ _ _ _ _ => (R_at ok_H_dragShip rfl).trans e_gR,
  fun _ _ _ _ _ _ _ _ => (R_at ok_H_dragShip rfl).trans (e_ald rfl),
  fun _ _ _ _ _ _ _ _ _ => (R_at ok_H_dragShip rfl).trans e_gR,
  fun _ _ _ _ _ _ _ _ _ => (R_at ok_H_dragShip rfl).trans (e_ild rfl),
  fun _ _ _ _ x0 _ _ _ _ _ => (R_at ok_H_dragShip rfl).trans (e_cv [.int x0] rfl rfl rfl),
  fun _ _ _ _ _ _ _ _ _ => (R_at ok_H_dragShip rfl).trans (e_ild rfl),
  fun _ _ _ _ x0 x1 _ _ _ _ => (R_at ok_H_dragShip rfl).trans (e_cv [.int x1, .int x0] rfl rfl rfl),
  fun _ _ _ _ x0 x1 _ _ => (R_at ok_H_dragShip rfl).trans (e_cv [.int x1, .int x0] rfl rfl rfl),
  fun _ _ _ _ _ => (R_at ok_H_dragShip rfl).trans (e_ald rfl),
  fun _ _ _ _ _ _ => (R_at ok_H_dragShip rfl).trans e_gR,
  fun _ _ _ _ _ _ => (R_at ok_H_dragShip rfl).trans (e_dup rfl),
  fun _ _ _ _ _ _ _ => (R_at ok_H_dragShip rfl).trans e_gI,
  fun _ _ _ _ _ _ _ => (R_at ok_H_dragShip rfl).trans e_push,
  fun _ _ _ _ _ _ _ _ => (R_at ok_H_dragShip rfl).trans (e_ild rfl),
  fun _ _ _ _ _ _ _ _ _ => (R_at ok_H_dragShip rfl).trans e_bin,
  fun _ _ _ _ _ _ _ _ => (R_at ok_H_dragShip rfl).trans e_bin,
  fun _ _ _ _ _ _ _ => (R_at ok_H_dragShip rfl).trans e_pI,
  fun _ _ _ _ _ => (R_at ok_H_dragShip rfl).trans (e_ald rfl),
  fun _ _ _ _ _ _ => (R_at ok_H_dragShip rfl).trans e_gR,
  fun _ _ _ _ _ _ => (R_at ok_H_dragShip rfl).trans (e_dup rfl),
  fun _ _ _ _ _ _ _ => (R_at ok_H_dragShip rfl).trans e_gI,
  fun _ _ _ _ _ _ _ => (R_at ok_H_dragShip rfl).trans (e_ild rfl),
  fun _ _ _ _ _ _ _ _ => (R_at ok_H_dragShip rfl).trans e_bin,
  fun _ _ _ _ _ _ _ => (R_at ok_H_dragShip rfl).trans e_pI,
  fun _ _ _ _ _ => (R_at ok_H_dragShip rfl).trans (e_ald rfl),
  fun _ _ _ _ _ _ => (R_at ok_H_dragShip rfl).trans e_gR,
  fun _ _ _ _ _ _ => (R_at ok_H_dragShip rfl).trans (e_dup rfl),
  fun _ _ _ _ _ _ _ => (R_at ok_H_dragShip rfl).trans e_gI,
  fun _ _ _ _ _ _ _ => (R_at ok_H_dragShip rfl).trans (e_ild rfl),
  fun _ _ _ _ _ _ _ _ => (R_at ok_H_dragShip rfl).trans (e_ald rfl),
  fun _ _ _ _ _ _ _ _ _ => (R_at ok_H_dragShip rfl).trans e_gR,
  fun _ _ _ _ _ _ _ _ _ => (R_at ok_H_dragShip rfl).trans e_gI,
  fun _ _ _ _ x0 _ _ _ _ => (R_at ok_H_dragShip rfl).trans (e_cs [.int x0] rfl rfl rfl),
  fun _ _ _ _ x0 x1 _ _ _ => (R_at ok_H_dragShip rfl).trans (e_cs [.int x1, .int x0] rfl rfl rfl),
  fun _ _ _ _ _ _ _ _ => (R_at ok_H_dragShip rfl).trans e_bin,
  fun _ _ _ _ _ _ _ => (R_at ok_H_dragShip rfl).trans e_pI,
  fun _ _ _ _ _ => (R_at ok_H_dragShip rfl).trans (e_ald rfl),
  fun _ _ _ _ _ _ => (R_at ok_H_dragShip rfl).trans e_gI,
  fun _ _ _ _ _ _ => (R_at ok_H_dragShip rfl).trans (e_ald rfl),
  fun _ _ _ _ _ _ _ => (R_at ok_H_dragShip rfl).trans e_gR,
  fun _ _ _ _ _ _ _ => (R_at ok_H_dragShip rfl).trans e_gI,
  fun _ _ _ _ _ _ _ => (R_at ok_H_dragShip rfl).trans e_bin,
  fun _ _ _ _ _ _ => (R_at ok_H_dragShip rfl).trans e_iret⟩
set_option maxHeartbeats 4000000 in
theorem N_H_turnPlanks (d : Nat) (Q : Qt) : ∀ (x0 : Nat) (x1 : Int32) (τ : St), Cl (d + 1) m_H_turnPlanks [.ref x0, .int x1] τ Q = Ru M_H_turnPlanks d Q 0 [some (.ref x0), some (.int x1)] [] τ := fun _ _ _ => propext ⟨fun h => h.2, fun h => ⟨Nat.le_of_ble_eq_true rfl, h⟩⟩
set_option maxHeartbeats 4000000 in
theorem E_H_turnPlanks (d : Nat) (Q : Qt) :
    (∀ (a0 : Nat) (a1 : Int32) (τ : St), Ru M_H_turnPlanks d Q 0 [some (.ref a0), some (.int a1)] [] τ = Ru M_H_turnPlanks d Q 1 [some (.ref a0), some (.int a1)] [.ref a0] τ) ∧
    (∀ (a0 : Nat) (a1 : Int32) (x0 : Nat) (τ : St), Ru M_H_turnPlanks d Q 1 [some (.ref a0), some (.int a1)] [.ref x0] τ = (isA 11 x0 ∧ Ru M_H_turnPlanks d Q 4 [some (.ref a0), some (.int a1)] [.ref (rtab x0 2)] τ)) ∧
    (∀ (a0 : Nat) (a1 : Int32) (x0 : Nat) (τ : St), Ru M_H_turnPlanks d Q 4 [some (.ref a0), some (.int a1)] [.ref x0] τ = Ru M_H_turnPlanks d Q 5 [some (.ref a0), some (.int a1)] [.int a1, .ref x0] τ) ∧
    (∀ (a0 : Nat) (a1 : Int32) (x0 : Int32) (x1 : Nat) (τ : St), Ru M_H_turnPlanks d Q 5 [some (.ref a0), some (.int a1)] [.int x0, .ref x1] τ = (isA 0 x1 ∧ Cl d m_Ground_has [.ref x1, .int x0] τ (fun v τ' => Ru M_H_turnPlanks d Q 8 [some (.ref a0), some (.int a1)] (v.toList ++ []) τ'))) ∧
    (∀ (a0 : Nat) (a1 : Int32) (x0 : Int32) (τ : St), Ru M_H_turnPlanks d Q 8 [some (.ref a0), some (.int a1)] [.int x0] τ = ((¬ x0 = 0 → Ru M_H_turnPlanks d Q 13 [some (.ref a0), some (.int a1)] [] τ) ∧ (x0 = 0 → Ru M_H_turnPlanks d Q 11 [some (.ref a0), some (.int a1)] [] τ))) ∧
    (∀ (a0 : Nat) (a1 : Int32) (τ : St), Ru M_H_turnPlanks d Q 11 [some (.ref a0), some (.int a1)] [] τ = Ru M_H_turnPlanks d Q 12 [some (.ref a0), some (.int a1)] [.int (-1)] τ) ∧
    (∀ (a0 : Nat) (a1 : Int32) (x0 : Int32) (τ : St), Ru M_H_turnPlanks d Q 12 [some (.ref a0), some (.int a1)] [.int x0] τ = Q (some (.int x0)) τ) ∧
    (∀ (a0 : Nat) (a1 : Int32) (τ : St), Ru M_H_turnPlanks d Q 13 [some (.ref a0), some (.int a1)] [] τ = Ru M_H_turnPlanks d Q 14 [some (.ref a0), some (.int a1)] [.ref a0] τ) ∧
    (∀ (a0 : Nat) (a1 : Int32) (x0 : Nat) (τ : St), Ru M_H_turnPlanks d Q 14 [some (.ref a0), some (.int a1)] [.ref x0] τ = (isA 11 x0 ∧ Ru M_H_turnPlanks d Q 17 [some (.ref a0), some (.int a1)] [.ref (rtab x0 2)] τ)) ∧
    (∀ (a0 : Nat) (a1 : Int32) (x0 : Nat) (τ : St), Ru M_H_turnPlanks d Q 17 [some (.ref a0), some (.int a1)] [.ref x0] τ = Ru M_H_turnPlanks d Q 18 [some (.ref a0), some (.int a1)] [.int a1, .ref x0] τ) ∧
    (∀ (a0 : Nat) (a1 : Int32) (x0 : Int32) (x1 : Nat) (τ : St), Ru M_H_turnPlanks d Q 18 [some (.ref a0), some (.int a1)] [.int x0, .ref x1] τ = (isA 0 x1 ∧ Cl d m_Ground_kindOf [.ref x1, .int x0] τ (fun v τ' => Ru M_H_turnPlanks d Q 21 [some (.ref a0), some (.int a1)] (v.toList ++ []) τ'))) ∧
    (∀ (a0 : Nat) (a1 : Int32) (x0 : Int32) (τ : St), Ru M_H_turnPlanks d Q 21 [some (.ref a0), some (.int a1)] [.int x0] τ = ((x0 = 0 → Ru M_H_turnPlanks d Q 27 [some (.ref a0), some (.int a1)] [] τ) ∧ (¬ x0 = 0 → Ru M_H_turnPlanks d Q 24 [some (.ref a0), some (.int a1)] [] τ))) ∧
    (∀ (a0 : Nat) (a1 : Int32) (τ : St), Ru M_H_turnPlanks d Q 24 [some (.ref a0), some (.int a1)] [] τ = Ru M_H_turnPlanks d Q 26 [some (.ref a0), some (.int a1)] [.int (-2)] τ) ∧
    (∀ (a0 : Nat) (a1 : Int32) (x0 : Int32) (τ : St), Ru M_H_turnPlanks d Q 26 [some (.ref a0), some (.int a1)] [.int x0] τ = Q (some (.int x0)) τ) ∧
    (∀ (a0 : Nat) (a1 : Int32) (τ : St), Ru M_H_turnPlanks d Q 27 [some (.ref a0), some (.int a1)] [] τ = Ru M_H_turnPlanks d Q 28 [some (.ref a0), some (.int a1)] [.ref a0] τ) ∧
    (∀ (a0 : Nat) (a1 : Int32) (x0 : Nat) (τ : St), Ru M_H_turnPlanks d Q 28 [some (.ref a0), some (.int a1)] [.ref x0] τ = (isA 11 x0 ∧ Ru M_H_turnPlanks d Q 31 [some (.ref a0), some (.int a1)] [.ref (rtab x0 3)] τ)) ∧
    (∀ (a0 : Nat) (a1 : Int32) (x0 : Nat) (τ : St), Ru M_H_turnPlanks d Q 31 [some (.ref a0), some (.int a1)] [.ref x0] τ = Ru M_H_turnPlanks d Q 32 [some (.ref a0), some (.int a1)] [.ref x0, .ref x0] τ) ∧
    (∀ (a0 : Nat) (a1 : Int32) (x0 : Nat) (x1 : Nat) (τ : St), Ru M_H_turnPlanks d Q 32 [some (.ref a0), some (.int a1)] [.ref x0, .ref x1] τ = (isA 1 x0 ∧ Ru M_H_turnPlanks d Q 35 [some (.ref a0), some (.int a1)] [.long (τ.2 x0 3), .ref x1] τ)) ∧
    (∀ (a0 : Nat) (a1 : Int32) (x0 : Int64) (x1 : Nat) (τ : St), Ru M_H_turnPlanks d Q 35 [some (.ref a0), some (.int a1)] [.long x0, .ref x1] τ = Ru M_H_turnPlanks d Q 36 [some (.ref a0), some (.int a1)] [.long 1, .long x0, .ref x1] τ) ∧
    (∀ (a0 : Nat) (a1 : Int32) (x0 : Int64) (x1 : Int64) (x2 : Nat) (τ : St), Ru M_H_turnPlanks d Q 36 [some (.ref a0), some (.int a1)] [.long x0, .long x1, .ref x2] τ = Ru M_H_turnPlanks d Q 37 [some (.ref a0), some (.int a1)] [.int a1, .long x0, .long x1, .ref x2] τ) ∧
    (∀ (a0 : Nat) (a1 : Int32) (x0 : Int32) (x1 : Int64) (x2 : Int64) (x3 : Nat) (τ : St), Ru M_H_turnPlanks d Q 37 [some (.ref a0), some (.int a1)] [.int x0, .long x1, .long x2, .ref x3] τ = Ru M_H_turnPlanks d Q 38 [some (.ref a0), some (.int a1)] [.long (x1 <<< (x0.toInt64 &&& 63)), .long x2, .ref x3] τ) ∧
    (∀ (a0 : Nat) (a1 : Int32) (x0 : Int64) (x1 : Int64) (x2 : Nat) (τ : St), Ru M_H_turnPlanks d Q 38 [some (.ref a0), some (.int a1)] [.long x0, .long x1, .ref x2] τ = Ru M_H_turnPlanks d Q 39 [some (.ref a0), some (.int a1)] [.long (x1 ^^^ x0), .ref x2] τ) ∧
    (∀ (a0 : Nat) (a1 : Int32) (x0 : Int64) (x1 : Nat) (τ : St), Ru M_H_turnPlanks d Q 39 [some (.ref a0), some (.int a1)] [.long x0, .ref x1] τ = (isA 1 x1 ∧ Ru M_H_turnPlanks d Q 42 [some (.ref a0), some (.int a1)] [] (sL τ x1 3 x0))) ∧
    (∀ (a0 : Nat) (a1 : Int32) (τ : St), Ru M_H_turnPlanks d Q 42 [some (.ref a0), some (.int a1)] [] τ = Ru M_H_turnPlanks d Q 43 [some (.ref a0), some (.int a1)] [.ref a0] τ) ∧
    (∀ (a0 : Nat) (a1 : Int32) (x0 : Nat) (τ : St), Ru M_H_turnPlanks d Q 43 [some (.ref a0), some (.int a1)] [.ref x0] τ = (isA 11 x0 ∧ Ru M_H_turnPlanks d Q 46 [some (.ref a0), some (.int a1)] [.ref (rtab x0 3)] τ)) ∧
    (∀ (a0 : Nat) (a1 : Int32) (x0 : Nat) (τ : St), Ru M_H_turnPlanks d Q 46 [some (.ref a0), some (.int a1)] [.ref x0] τ = (isA 1 x0 ∧ Ru M_H_turnPlanks d Q 49 [some (.ref a0), some (.int a1)] [.long (τ.2 x0 3)] τ)) ∧
    (∀ (a0 : Nat) (a1 : Int32) (x0 : Int64) (τ : St), Ru M_H_turnPlanks d Q 49 [some (.ref a0), some (.int a1)] [.long x0] τ = Cl d m_bitsL [.long x0] τ (fun v τ' => Ru M_H_turnPlanks d Q 52 [some (.ref a0), some (.int a1)] (v.toList ++ []) τ')) ∧
    (∀ (a0 : Nat) (a1 : Int32) (x0 : Int32) (τ : St), Ru M_H_turnPlanks d Q 52 [some (.ref a0), some (.int a1)] [.int x0] τ = Q (some (.int x0)) τ) := ⟨
  fun _ _ _ => (R_at ok_H_turnPlanks rfl).trans (e_ald rfl),
  fun _ _ _ _ => (R_at ok_H_turnPlanks rfl).trans e_gR,
  fun _ _ _ _ => (R_at ok_H_turnPlanks rfl).trans (e_ild rfl),
  fun _ _ x0 _ _ => (R_at ok_H_turnPlanks rfl).trans (e_cv [.int x0] rfl rfl rfl),
  fun _ _ _ _ => (R_at ok_H_turnPlanks rfl).trans e_ifn,
  fun _ _ _ => (R_at ok_H_turnPlanks rfl).trans e_push,
  fun _ _ _ _ => (R_at ok_H_turnPlanks rfl).trans e_iret,
  fun _ _ _ => (R_at ok_H_turnPlanks rfl).trans (e_ald rfl),
  fun _ _ _ _ => (R_at ok_H_turnPlanks rfl).trans e_gR,
  fun _ _ _ _ => (R_at ok_H_turnPlanks rfl).trans (e_ild rfl),
  fun _ _ x0 _ _ => (R_at ok_H_turnPlanks rfl).trans (e_cv [.int x0] rfl rfl rfl),
  fun _ _ _ _ => (R_at ok_H_turnPlanks rfl).trans e_if,
  fun _ _ _ => (R_at ok_H_turnPlanks rfl).trans e_push,
  fun _ _ _ _ => (R_at ok_H_turnPlanks rfl).trans e_iret,
  fun _ _ _ => (R_at ok_H_turnPlanks rfl).trans (e_ald rfl),
  fun _ _ _ _ => (R_at ok_H_turnPlanks rfl).trans e_gR,
  fun _ _ _ _ => (R_at ok_H_turnPlanks rfl).trans (e_dup rfl),
  fun _ _ _ _ _ => (R_at ok_H_turnPlanks rfl).trans e_gL,
  fun _ _ _ _ _ => (R_at ok_H_turnPlanks rfl).trans e_push,
  fun _ _ _ _ _ _ => (R_at ok_H_turnPlanks rfl).trans (e_ild rfl),
  fun _ _ _ _ _ _ _ => (R_at ok_H_turnPlanks rfl).trans e_lsh,
  fun _ _ _ _ _ _ => (R_at ok_H_turnPlanks rfl).trans e_lbin,
  fun _ _ _ _ _ => (R_at ok_H_turnPlanks rfl).trans e_pL,
  fun _ _ _ => (R_at ok_H_turnPlanks rfl).trans (e_ald rfl),
  fun _ _ _ _ => (R_at ok_H_turnPlanks rfl).trans e_gR,
  fun _ _ _ _ => (R_at ok_H_turnPlanks rfl).trans e_gL,
  fun _ _ x0 _ => (R_at ok_H_turnPlanks rfl).trans (e_cs [.long x0] rfl rfl rfl),
  fun _ _ _ _ => (R_at ok_H_turnPlanks rfl).trans e_iret⟩
set_option maxHeartbeats 4000000 in
theorem N_H_letPass (d : Nat) (Q : Qt) : ∀ (x0 : Nat) (x1 : Int32) (x2 : Int32) (τ : St), Cl (d + 1) m_H_letPass [.ref x0, .int x1, .int x2] τ Q = Ru M_H_letPass d Q 0 [some (.ref x0), some (.int x1), some (.int x2), none] [] τ := fun _ _ _ _ => propext ⟨fun h => h.2, fun h => ⟨Nat.le_of_ble_eq_true rfl, h⟩⟩
set_option maxHeartbeats 4000000 in
theorem E_H_letPass (d : Nat) (Q : Qt) :
    (∀ (a0 : Nat) (a1 : Int32) (a2 : Int32) (τ : St), Ru M_H_letPass d Q 0 [some (.ref a0), some (.int a1), some (.int a2), none] [] τ = Ru M_H_letPass d Q 1 [some (.ref a0), some (.int a1), some (.int a2), none] [.int a1] τ) ∧
    (∀ (a0 : Nat) (a1 : Int32) (a2 : Int32) (x0 : Int32) (τ : St), Ru M_H_letPass d Q 1 [some (.ref a0), some (.int a1), some (.int a2), none] [.int x0] τ = Ru M_H_letPass d Q 2 [some (.ref a0), some (.int a1), some (.int a2), none] [.int 1, .int x0] τ) ∧
    (∀ (a0 : Nat) (a1 : Int32) (a2 : Int32) (x0 : Int32) (x1 : Int32) (τ : St), Ru M_H_letPass d Q 2 [some (.ref a0), some (.int a1), some (.int a2), none] [.int x0, .int x1] τ = ((x1 < x0 → Ru M_H_letPass d Q 10 [some (.ref a0), some (.int a1), some (.int a2), none] [] τ) ∧ (¬ x1 < x0 → Ru M_H_letPass d Q 5 [some (.ref a0), some (.int a1), some (.int a2), none] [] τ))) ∧
    (∀ (a0 : Nat) (a1 : Int32) (a2 : Int32) (τ : St), Ru M_H_letPass d Q 5 [some (.ref a0), some (.int a1), some (.int a2), none] [] τ = Ru M_H_letPass d Q 6 [some (.ref a0), some (.int a1), some (.int a2), none] [.int a1] τ) ∧
    (∀ (a0 : Nat) (a1 : Int32) (a2 : Int32) (x0 : Int32) (τ : St), Ru M_H_letPass d Q 6 [some (.ref a0), some (.int a1), some (.int a2), none] [.int x0] τ = Ru M_H_letPass d Q 7 [some (.ref a0), some (.int a1), some (.int a2), none] [.int a2, .int x0] τ) ∧
    (∀ (a0 : Nat) (a1 : Int32) (a2 : Int32) (x0 : Int32) (x1 : Int32) (τ : St), Ru M_H_letPass d Q 7 [some (.ref a0), some (.int a1), some (.int a2), none] [.int x0, .int x1] τ = ((x1 ≤ x0 → Ru M_H_letPass d Q 12 [some (.ref a0), some (.int a1), some (.int a2), none] [] τ) ∧ (¬ x1 ≤ x0 → Ru M_H_letPass d Q 10 [some (.ref a0), some (.int a1), some (.int a2), none] [] τ))) ∧
    (∀ (a0 : Nat) (a1 : Int32) (a2 : Int32) (τ : St), Ru M_H_letPass d Q 10 [some (.ref a0), some (.int a1), some (.int a2), none] [] τ = Ru M_H_letPass d Q 11 [some (.ref a0), some (.int a1), some (.int a2), none] [.int (-1)] τ) ∧
    (∀ (a0 : Nat) (a1 : Int32) (a2 : Int32) (x0 : Int32) (τ : St), Ru M_H_letPass d Q 11 [some (.ref a0), some (.int a1), some (.int a2), none] [.int x0] τ = Q (some (.int x0)) τ) ∧
    (∀ (a0 : Nat) (a1 : Int32) (a2 : Int32) (τ : St), Ru M_H_letPass d Q 12 [some (.ref a0), some (.int a1), some (.int a2), none] [] τ = Ru M_H_letPass d Q 13 [some (.ref a0), some (.int a1), some (.int a2), none] [.int 0] τ) ∧
    (∀ (a0 : Nat) (a1 : Int32) (a2 : Int32) (x0 : Int32) (τ : St), Ru M_H_letPass d Q 13 [some (.ref a0), some (.int a1), some (.int a2), none] [.int x0] τ = Rs M_H_letPass d Q 14 [some (.ref a0), some (.int a1), some (.int a2), some (.int x0)] [] τ) ∧
    (∀ (a0 : Nat) (a1 : Int32) (a2 : Int32) (a3 : Int32) (τ : St), Ru M_H_letPass d Q 14 [some (.ref a0), some (.int a1), some (.int a2), some (.int a3)] [] τ = Ru M_H_letPass d Q 15 [some (.ref a0), some (.int a1), some (.int a2), some (.int a3)] [.int a3] τ) ∧
    (∀ (a0 : Nat) (a1 : Int32) (a2 : Int32) (a3 : Int32) (x0 : Int32) (τ : St), Ru M_H_letPass d Q 15 [some (.ref a0), some (.int a1), some (.int a2), some (.int a3)] [.int x0] τ = Ru M_H_letPass d Q 16 [some (.ref a0), some (.int a1), some (.int a2), some (.int a3)] [.int a1, .int x0] τ) ∧
    (∀ (a0 : Nat) (a1 : Int32) (a2 : Int32) (a3 : Int32) (x0 : Int32) (x1 : Int32) (τ : St), Ru M_H_letPass d Q 16 [some (.ref a0), some (.int a1), some (.int a2), some (.int a3)] [.int x0, .int x1] τ = ((x0 ≤ x1 → Ru M_H_letPass d Q 36 [some (.ref a0), some (.int a1), some (.int a2), some (.int a3)] [] τ) ∧ (¬ x0 ≤ x1 → Ru M_H_letPass d Q 19 [some (.ref a0), some (.int a1), some (.int a2), some (.int a3)] [] τ))) ∧
    (∀ (a0 : Nat) (a1 : Int32) (a2 : Int32) (a3 : Int32) (τ : St), Ru M_H_letPass d Q 19 [some (.ref a0), some (.int a1), some (.int a2), some (.int a3)] [] τ = Ru M_H_letPass d Q 20 [some (.ref a0), some (.int a1), some (.int a2), some (.int a3)] [.ref a0] τ) ∧
    (∀ (a0 : Nat) (a1 : Int32) (a2 : Int32) (a3 : Int32) (x0 : Nat) (τ : St), Ru M_H_letPass d Q 20 [some (.ref a0), some (.int a1), some (.int a2), some (.int a3)] [.ref x0] τ = (isA 11 x0 ∧ Ru M_H_letPass d Q 23 [some (.ref a0), some (.int a1), some (.int a2), some (.int a3)] [.ref (rtab x0 3)] τ)) ∧
    (∀ (a0 : Nat) (a1 : Int32) (a2 : Int32) (a3 : Int32) (x0 : Nat) (τ : St), Ru M_H_letPass d Q 23 [some (.ref a0), some (.int a1), some (.int a2), some (.int a3)] [.ref x0] τ = Ru M_H_letPass d Q 24 [some (.ref a0), some (.int a1), some (.int a2), some (.int a3)] [.ref a0, .ref x0] τ) ∧
    (∀ (a0 : Nat) (a1 : Int32) (a2 : Int32) (a3 : Int32) (x0 : Nat) (x1 : Nat) (τ : St), Ru M_H_letPass d Q 24 [some (.ref a0), some (.int a1), some (.int a2), some (.int a3)] [.ref x0, .ref x1] τ = (isA 11 x0 ∧ Ru M_H_letPass d Q 27 [some (.ref a0), some (.int a1), some (.int a2), some (.int a3)] [.int (τ.1 x0 9), .ref x1] τ)) ∧
    (∀ (a0 : Nat) (a1 : Int32) (a2 : Int32) (a3 : Int32) (x0 : Int32) (x1 : Nat) (τ : St), Ru M_H_letPass d Q 27 [some (.ref a0), some (.int a1), some (.int a2), some (.int a3)] [.int x0, .ref x1] τ = (isA 1 x1 ∧ Cl d m_Moment_letHourPass [.ref x1, .int x0] τ (fun v τ' => Ru M_H_letPass d Q 30 [some (.ref a0), some (.int a1), some (.int a2), some (.int a3)] (v.toList ++ []) τ'))) ∧
    (∀ (a0 : Nat) (a1 : Int32) (a2 : Int32) (a3 : Int32) (τ : St), Ru M_H_letPass d Q 30 [some (.ref a0), some (.int a1), some (.int a2), some (.int a3)] [] τ = Ru M_H_letPass d Q 33 [some (.ref a0), some (.int a1), some (.int a2), some (.int (a3 + 1))] [] τ) ∧
    (∀ (a0 : Nat) (a1 : Int32) (a2 : Int32) (a3 : Int32) (τ : St), Ru M_H_letPass d Q 33 [some (.ref a0), some (.int a1), some (.int a2), some (.int a3)] [] τ = Rs M_H_letPass d Q 14 [some (.ref a0), some (.int a1), some (.int a2), some (.int a3)] [] τ) ∧
    (∀ (a0 : Nat) (a1 : Int32) (a2 : Int32) (a3 : Int32) (τ : St), Ru M_H_letPass d Q 36 [some (.ref a0), some (.int a1), some (.int a2), some (.int a3)] [] τ = Ru M_H_letPass d Q 38 [some (.ref a0), some (.int a1), some (.int a2), some (.int a3)] [.int 10] τ) ∧
    (∀ (a0 : Nat) (a1 : Int32) (a2 : Int32) (a3 : Int32) (x0 : Int32) (τ : St), Ru M_H_letPass d Q 38 [some (.ref a0), some (.int a1), some (.int a2), some (.int a3)] [.int x0] τ = Ru M_H_letPass d Q 39 [some (.ref a0), some (.int a1), some (.int a2), some (.int a3)] [.ref a0, .int x0] τ) ∧
    (∀ (a0 : Nat) (a1 : Int32) (a2 : Int32) (a3 : Int32) (x0 : Nat) (x1 : Int32) (τ : St), Ru M_H_letPass d Q 39 [some (.ref a0), some (.int a1), some (.int a2), some (.int a3)] [.ref x0, .int x1] τ = (isA 11 x0 ∧ Ru M_H_letPass d Q 42 [some (.ref a0), some (.int a1), some (.int a2), some (.int a3)] [.ref (rtab x0 3), .int x1] τ)) ∧
    (∀ (a0 : Nat) (a1 : Int32) (a2 : Int32) (a3 : Int32) (x0 : Nat) (x1 : Int32) (τ : St), Ru M_H_letPass d Q 42 [some (.ref a0), some (.int a1), some (.int a2), some (.int a3)] [.ref x0, .int x1] τ = (isA 1 x0 ∧ Ru M_H_letPass d Q 45 [some (.ref a0), some (.int a1), some (.int a2), some (.int a3)] [.int (τ.1 x0 5), .int x1] τ)) ∧
    (∀ (a0 : Nat) (a1 : Int32) (a2 : Int32) (a3 : Int32) (x0 : Int32) (x1 : Int32) (τ : St), Ru M_H_letPass d Q 45 [some (.ref a0), some (.int a1), some (.int a2), some (.int a3)] [.int x0, .int x1] τ = Ru M_H_letPass d Q 46 [some (.ref a0), some (.int a1), some (.int a2), some (.int a3)] [.int (x1 * x0)] τ) ∧
    (∀ (a0 : Nat) (a1 : Int32) (a2 : Int32) (a3 : Int32) (x0 : Int32) (τ : St), Ru M_H_letPass d Q 46 [some (.ref a0), some (.int a1), some (.int a2), some (.int a3)] [.int x0] τ = Ru M_H_letPass d Q 47 [some (.ref a0), some (.int a1), some (.int a2), some (.int a3)] [.ref a0, .int x0] τ) ∧
    (∀ (a0 : Nat) (a1 : Int32) (a2 : Int32) (a3 : Int32) (x0 : Nat) (x1 : Int32) (τ : St), Ru M_H_letPass d Q 47 [some (.ref a0), some (.int a1), some (.int a2), some (.int a3)] [.ref x0, .int x1] τ = (isA 11 x0 ∧ Ru M_H_letPass d Q 50 [some (.ref a0), some (.int a1), some (.int a2), some (.int a3)] [.ref (rtab x0 3), .int x1] τ)) ∧
    (∀ (a0 : Nat) (a1 : Int32) (a2 : Int32) (a3 : Int32) (x0 : Nat) (x1 : Int32) (τ : St), Ru M_H_letPass d Q 50 [some (.ref a0), some (.int a1), some (.int a2), some (.int a3)] [.ref x0, .int x1] τ = (isA 1 x0 ∧ Ru M_H_letPass d Q 53 [some (.ref a0), some (.int a1), some (.int a2), some (.int a3)] [.int (τ.1 x0 6), .int x1] τ)) ∧
    (∀ (a0 : Nat) (a1 : Int32) (a2 : Int32) (a3 : Int32) (x0 : Int32) (x1 : Int32) (τ : St), Ru M_H_letPass d Q 53 [some (.ref a0), some (.int a1), some (.int a2), some (.int a3)] [.int x0, .int x1] τ = Ru M_H_letPass d Q 54 [some (.ref a0), some (.int a1), some (.int a2), some (.int a3)] [.int (x1 + x0)] τ) ∧
    (∀ (a0 : Nat) (a1 : Int32) (a2 : Int32) (a3 : Int32) (x0 : Int32) (τ : St), Ru M_H_letPass d Q 54 [some (.ref a0), some (.int a1), some (.int a2), some (.int a3)] [.int x0] τ = Q (some (.int x0)) τ) := ⟨
  fun _ _ _ _ => (R_at ok_H_letPass rfl).trans (e_ild rfl),
  fun _ _ _ _ _ => (R_at ok_H_letPass rfl).trans e_push,
  fun _ _ _ _ _ _ => (R_at ok_H_letPass rfl).trans e_ic,
  fun _ _ _ _ => (R_at ok_H_letPass rfl).trans (e_ild rfl),
  fun _ _ _ _ _ => (R_at ok_H_letPass rfl).trans (e_ild rfl),
  fun _ _ _ _ _ _ => (R_at ok_H_letPass rfl).trans e_ic,
  fun _ _ _ _ => (R_at ok_H_letPass rfl).trans e_push,
  fun _ _ _ _ _ => (R_at ok_H_letPass rfl).trans e_iret,
  fun _ _ _ _ => (R_at ok_H_letPass rfl).trans e_push,
  fun _ _ _ _ _ => (R_at ok_H_letPass rfl).trans e_ist,
  fun _ _ _ _ _ => (R_at ok_H_letPass rfl).trans (e_ild rfl),
  fun _ _ _ _ _ _ => (R_at ok_H_letPass rfl).trans (e_ild rfl),
  fun _ _ _ _ _ _ _ => (R_at ok_H_letPass rfl).trans e_ic,
  fun _ _ _ _ _ => (R_at ok_H_letPass rfl).trans (e_ald rfl),
  fun _ _ _ _ _ _ => (R_at ok_H_letPass rfl).trans e_gR,
  fun _ _ _ _ _ _ => (R_at ok_H_letPass rfl).trans (e_ald rfl),
  fun _ _ _ _ _ _ _ => (R_at ok_H_letPass rfl).trans e_gI,
  fun _ _ _ _ x0 _ _ => (R_at ok_H_letPass rfl).trans (e_cv [.int x0] rfl rfl rfl),
  fun _ _ _ _ _ => (R_at ok_H_letPass rfl).trans (e_iinc rfl),
  fun _ _ _ _ _ => (R_at ok_H_letPass rfl).trans e_goto,
  fun _ _ _ _ _ => (R_at ok_H_letPass rfl).trans e_push,
  fun _ _ _ _ _ _ => (R_at ok_H_letPass rfl).trans (e_ald rfl),
  fun _ _ _ _ _ _ _ => (R_at ok_H_letPass rfl).trans e_gR,
  fun _ _ _ _ _ _ _ => (R_at ok_H_letPass rfl).trans e_gI,
  fun _ _ _ _ _ _ _ => (R_at ok_H_letPass rfl).trans e_bin,
  fun _ _ _ _ _ _ => (R_at ok_H_letPass rfl).trans (e_ald rfl),
  fun _ _ _ _ _ _ _ => (R_at ok_H_letPass rfl).trans e_gR,
  fun _ _ _ _ _ _ _ => (R_at ok_H_letPass rfl).trans e_gI,
  fun _ _ _ _ _ _ _ => (R_at ok_H_letPass rfl).trans e_bin,
  fun _ _ _ _ _ _ => (R_at ok_H_letPass rfl).trans e_iret⟩
set_option maxHeartbeats 4000000 in
theorem N_H_siege (d : Nat) (Q : Qt) : ∀ (x0 : Nat) (τ : St), Cl (d + 1) m_H_siege [.ref x0] τ Q = Ru M_H_siege d Q 0 [some (.ref x0), none, none, none] [] τ := fun _ _ => propext ⟨fun h => h.2, fun h => ⟨Nat.le_of_ble_eq_true rfl, h⟩⟩
set_option maxHeartbeats 4000000 in
theorem E_H_siege (d : Nat) (Q : Qt) :
    (∀ (a0 : Nat) (τ : St), Ru M_H_siege d Q 0 [some (.ref a0), none, none, none] [] τ = Ru M_H_siege d Q 1 [some (.ref a0), none, none, none] [.ref a0] τ) ∧
    (∀ (a0 : Nat) (x0 : Nat) (τ : St), Ru M_H_siege d Q 1 [some (.ref a0), none, none, none] [.ref x0] τ = (isA 11 x0 ∧ Cl d m_H_canReadActs [.ref x0] τ (fun v τ' => Ru M_H_siege d Q 4 [some (.ref a0), none, none, none] (v.toList ++ []) τ'))) ∧
    (∀ (a0 : Nat) (x0 : Int32) (τ : St), Ru M_H_siege d Q 4 [some (.ref a0), none, none, none] [.int x0] τ = ((¬ x0 = 0 → Ru M_H_siege d Q 26 [some (.ref a0), none, none, none] [] τ) ∧ (x0 = 0 → Ru M_H_siege d Q 7 [some (.ref a0), none, none, none] [] τ))) ∧
    (∀ (a0 : Nat) (τ : St), Ru M_H_siege d Q 7 [some (.ref a0), none, none, none] [] τ = Ru M_H_siege d Q 8 [some (.ref a0), none, none, none] [.int (-1)] τ) ∧
    (∀ (a0 : Nat) (x0 : Int32) (τ : St), Ru M_H_siege d Q 8 [some (.ref a0), none, none, none] [.int x0] τ = Ru M_H_siege d Q 9 [some (.ref a0), none, none, none] [.ref a0, .int x0] τ) ∧
    (∀ (a0 : Nat) (x0 : Nat) (x1 : Int32) (τ : St), Ru M_H_siege d Q 9 [some (.ref a0), none, none, none] [.ref x0, .int x1] τ = (isA 11 x0 ∧ Ru M_H_siege d Q 12 [some (.ref a0), none, none, none] [.ref (rtab x0 0), .int x1] τ)) ∧
    (∀ (a0 : Nat) (x0 : Nat) (x1 : Int32) (τ : St), Ru M_H_siege d Q 12 [some (.ref a0), none, none, none] [.ref x0, .int x1] τ = (isA 6 x0 ∧ Ru M_H_siege d Q 15 [some (.ref a0), none, none, none] [.int (τ.1 x0 2), .int x1] τ)) ∧
    (∀ (a0 : Nat) (x0 : Int32) (x1 : Int32) (τ : St), Ru M_H_siege d Q 15 [some (.ref a0), none, none, none] [.int x0, .int x1] τ = Ru M_H_siege d Q 16 [some (.ref a0), none, none, none] [.int (x1 - x0)] τ) ∧
    (∀ (a0 : Nat) (x0 : Int32) (τ : St), Ru M_H_siege d Q 16 [some (.ref a0), none, none, none] [.int x0] τ = Ru M_H_siege d Q 17 [some (.ref a0), some (.int x0), none, none] [] τ) ∧
    (∀ (a0 : Nat) (a1 : Int32) (τ : St), Ru M_H_siege d Q 17 [some (.ref a0), some (.int a1), none, none] [] τ = Ru M_H_siege d Q 18 [some (.ref a0), some (.int a1), none, none] [.ref a0] τ) ∧
    (∀ (a0 : Nat) (a1 : Int32) (x0 : Nat) (τ : St), Ru M_H_siege d Q 18 [some (.ref a0), some (.int a1), none, none] [.ref x0] τ = (isA 11 x0 ∧ Ru M_H_siege d Q 21 [some (.ref a0), some (.int a1), none, none] [.ref (rtab x0 0)] τ)) ∧
    (∀ (a0 : Nat) (a1 : Int32) (x0 : Nat) (τ : St), Ru M_H_siege d Q 21 [some (.ref a0), some (.int a1), none, none] [.ref x0] τ = (isA 6 x0 ∧ Cl d m_Text_empty [.ref x0] τ (fun v τ' => Ru M_H_siege d Q 24 [some (.ref a0), some (.int a1), none, none] (v.toList ++ []) τ'))) ∧
    (∀ (a0 : Nat) (a1 : Int32) (τ : St), Ru M_H_siege d Q 24 [some (.ref a0), some (.int a1), none, none] [] τ = Ru M_H_siege d Q 25 [some (.ref a0), some (.int a1), none, none] [.int a1] τ) ∧
    (∀ (a0 : Nat) (a1 : Int32) (x0 : Int32) (τ : St), Ru M_H_siege d Q 25 [some (.ref a0), some (.int a1), none, none] [.int x0] τ = Q (some (.int x0)) τ) ∧
    (∀ (a0 : Nat) (τ : St), Ru M_H_siege d Q 26 [some (.ref a0), none, none, none] [] τ = Ru M_H_siege d Q 27 [some (.ref a0), none, none, none] [.ref a0] τ) ∧
    (∀ (a0 : Nat) (x0 : Nat) (τ : St), Ru M_H_siege d Q 27 [some (.ref a0), none, none, none] [.ref x0] τ = (isA 11 x0 ∧ Ru M_H_siege d Q 30 [some (.ref a0), none, none, none] [.ref (rtab x0 4)] τ)) ∧
    (∀ (a0 : Nat) (x0 : Nat) (τ : St), Ru M_H_siege d Q 30 [some (.ref a0), none, none, none] [.ref x0] τ = Ru M_H_siege d Q 31 [some (.ref a0), none, none, none] [.ref a0, .ref x0] τ) ∧
    (∀ (a0 : Nat) (x0 : Nat) (x1 : Nat) (τ : St), Ru M_H_siege d Q 31 [some (.ref a0), none, none, none] [.ref x0, .ref x1] τ = (isA 11 x0 ∧ Ru M_H_siege d Q 34 [some (.ref a0), none, none, none] [.ref (rtab x0 3), .ref x1] τ)) ∧
    (∀ (a0 : Nat) (x0 : Nat) (x1 : Nat) (τ : St), Ru M_H_siege d Q 34 [some (.ref a0), none, none, none] [.ref x0, .ref x1] τ = (isA 1 x1 ∧ Cl d m_Moment_copy [.ref x1, .ref x0] τ (fun v τ' => Ru M_H_siege d Q 37 [some (.ref a0), none, none, none] (v.toList ++ []) τ'))) ∧
    (∀ (a0 : Nat) (τ : St), Ru M_H_siege d Q 37 [some (.ref a0), none, none, none] [] τ = Ru M_H_siege d Q 38 [some (.ref a0), none, none, none] [.ref a0] τ) ∧
    (∀ (a0 : Nat) (x0 : Nat) (τ : St), Ru M_H_siege d Q 38 [some (.ref a0), none, none, none] [.ref x0] τ = (isA 11 x0 ∧ Ru M_H_siege d Q 41 [some (.ref a0), none, none, none] [.ref (rtab x0 0)] τ)) ∧
    (∀ (a0 : Nat) (x0 : Nat) (τ : St), Ru M_H_siege d Q 41 [some (.ref a0), none, none, none] [.ref x0] τ = Ru M_H_siege d Q 43 [some (.ref a0), none, none, none] [.int 60, .ref x0] τ) ∧
    (∀ (a0 : Nat) (x0 : Int32) (x1 : Nat) (τ : St), Ru M_H_siege d Q 43 [some (.ref a0), none, none, none] [.int x0, .ref x1] τ = (isA 6 x1 ∧ Cl d m_Text_open [.ref x1, .int x0] τ (fun v τ' => Ru M_H_siege d Q 46 [some (.ref a0), none, none, none] (v.toList ++ []) τ'))) ∧
    (∀ (a0 : Nat) (τ : St), Ru M_H_siege d Q 46 [some (.ref a0), none, none, none] [] τ = Ru M_H_siege d Q 47 [some (.ref a0), none, none, none] [.int 0] τ) ∧
    (∀ (a0 : Nat) (x0 : Int32) (τ : St), Ru M_H_siege d Q 47 [some (.ref a0), none, none, none] [.int x0] τ = Ru M_H_siege d Q 48 [some (.ref a0), some (.int x0), none, none] [] τ) ∧
    (∀ (a0 : Nat) (a1 : Int32) (τ : St), Ru M_H_siege d Q 48 [some (.ref a0), some (.int a1), none, none] [] τ = Ru M_H_siege d Q 49 [some (.ref a0), some (.int a1), none, none] [.int 0] τ) ∧
    (∀ (a0 : Nat) (a1 : Int32) (x0 : Int32) (τ : St), Ru M_H_siege d Q 49 [some (.ref a0), some (.int a1), none, none] [.int x0] τ = Ru M_H_siege d Q 50 [some (.ref a0), some (.int a1), some (.int x0), none] [] τ) ∧
    (∀ (a0 : Nat) (a1 : Int32) (a2 : Int32) (τ : St), Ru M_H_siege d Q 50 [some (.ref a0), some (.int a1), some (.int a2), none] [] τ = Ru M_H_siege d Q 51 [some (.ref a0), some (.int a1), some (.int a2), none] [.int 0] τ) ∧
    (∀ (a0 : Nat) (a1 : Int32) (a2 : Int32) (x0 : Int32) (τ : St), Ru M_H_siege d Q 51 [some (.ref a0), some (.int a1), some (.int a2), none] [.int x0] τ = Rs M_H_siege d Q 52 [some (.ref a0), some (.int a1), some (.int a2), some (.int x0)] [] τ) ∧
    (∀ (a0 : Nat) (a1 : Int32) (a2 : Int32) (a3 : Int32) (τ : St), Ru M_H_siege d Q 52 [some (.ref a0), some (.int a1), some (.int a2), some (.int a3)] [] τ = Ru M_H_siege d Q 53 [some (.ref a0), some (.int a1), some (.int a2), some (.int a3)] [.int a3] τ) ∧
    (∀ (a0 : Nat) (a1 : Int32) (a2 : Int32) (a3 : Int32) (x0 : Int32) (τ : St), Ru M_H_siege d Q 53 [some (.ref a0), some (.int a1), some (.int a2), some (.int a3)] [.int x0] τ = Ru M_H_siege d Q 55 [some (.ref a0), some (.int a1), some (.int a2), some (.int a3)] [.int 60, .int x0] τ) ∧
    (∀ (a0 : Nat) (a1 : Int32) (a2 : Int32) (a3 : Int32) (x0 : Int32) (x1 : Int32) (τ : St), Ru M_H_siege d Q 55 [some (.ref a0), some (.int a1), some (.int a2), some (.int a3)] [.int x0, .int x1] τ = ((x0 ≤ x1 → Rs M_H_siege d Q 103 [some (.ref a0), some (.int a1), some (.int a2), some (.int a3)] [] τ) ∧ (¬ x0 ≤ x1 → Ru M_H_siege d Q 58 [some (.ref a0), some (.int a1), some (.int a2), some (.int a3)] [] τ))) ∧
    (∀ (a0 : Nat) (a1 : Int32) (a2 : Int32) (a3 : Int32) (τ : St), Ru M_H_siege d Q 58 [some (.ref a0), some (.int a1), some (.int a2), some (.int a3)] [] τ = Ru M_H_siege d Q 59 [some (.ref a0), some (.int a1), some (.int a2), some (.int a3)] [.int a2] τ) ∧
    (∀ (a0 : Nat) (a1 : Int32) (a2 : Int32) (a3 : Int32) (x0 : Int32) (τ : St), Ru M_H_siege d Q 59 [some (.ref a0), some (.int a1), some (.int a2), some (.int a3)] [.int x0] τ = ((¬ x0 = 0 → Rs M_H_siege d Q 103 [some (.ref a0), some (.int a1), some (.int a2), some (.int a3)] [] τ) ∧ (x0 = 0 → Ru M_H_siege d Q 62 [some (.ref a0), some (.int a1), some (.int a2), some (.int a3)] [] τ))) ∧
    (∀ (a0 : Nat) (a1 : Int32) (a2 : Int32) (a3 : Int32) (τ : St), Ru M_H_siege d Q 62 [some (.ref a0), some (.int a1), some (.int a2), some (.int a3)] [] τ = Ru M_H_siege d Q 63 [some (.ref a0), some (.int a1), some (.int a2), some (.int a3)] [.ref a0] τ) ∧
    (∀ (a0 : Nat) (a1 : Int32) (a2 : Int32) (a3 : Int32) (x0 : Nat) (τ : St), Ru M_H_siege d Q 63 [some (.ref a0), some (.int a1), some (.int a2), some (.int a3)] [.ref x0] τ = (isA 11 x0 ∧ Ru M_H_siege d Q 66 [some (.ref a0), some (.int a1), some (.int a2), some (.int a3)] [.ref (rtab x0 0)] τ)) ∧
    (∀ (a0 : Nat) (a1 : Int32) (a2 : Int32) (a3 : Int32) (x0 : Nat) (τ : St), Ru M_H_siege d Q 66 [some (.ref a0), some (.int a1), some (.int a2), some (.int a3)] [.ref x0] τ = (isA 6 x0 ∧ Cl d m_Text_finished [.ref x0] τ (fun v τ' => Ru M_H_siege d Q 69 [some (.ref a0), some (.int a1), some (.int a2), some (.int a3)] (v.toList ++ []) τ'))) ∧
    (∀ (a0 : Nat) (a1 : Int32) (a2 : Int32) (a3 : Int32) (x0 : Int32) (τ : St), Ru M_H_siege d Q 69 [some (.ref a0), some (.int a1), some (.int a2), some (.int a3)] [.int x0] τ = ((¬ x0 = 0 → Rs M_H_siege d Q 103 [some (.ref a0), some (.int a1), some (.int a2), some (.int a3)] [] τ) ∧ (x0 = 0 → Ru M_H_siege d Q 72 [some (.ref a0), some (.int a1), some (.int a2), some (.int a3)] [] τ))) ∧
    (∀ (a0 : Nat) (a1 : Int32) (a2 : Int32) (a3 : Int32) (τ : St), Ru M_H_siege d Q 72 [some (.ref a0), some (.int a1), some (.int a2), some (.int a3)] [] τ = Ru M_H_siege d Q 73 [some (.ref a0), some (.int a1), some (.int a2), some (.int a3)] [.ref a0] τ) ∧
    (∀ (a0 : Nat) (a1 : Int32) (a2 : Int32) (a3 : Int32) (x0 : Nat) (τ : St), Ru M_H_siege d Q 73 [some (.ref a0), some (.int a1), some (.int a2), some (.int a3)] [.ref x0] τ = (isA 11 x0 ∧ Cl d m_H_doAct [.ref x0] τ (fun v τ' => Ru M_H_siege d Q 76 [some (.ref a0), some (.int a1), some (.int a2), some (.int a3)] (v.toList ++ []) τ'))) ∧
    (∀ (a0 : Nat) (a1 : Int32) (a2 : Int32) (a3 : Int32) (x0 : Int32) (τ : St), Ru M_H_siege d Q 76 [some (.ref a0), some (.int a1), some (.int a2), some (.int a3)] [.int x0] τ = ((0 ≤ x0 → Ru M_H_siege d Q 83 [some (.ref a0), some (.int a1), some (.int a2), some (.int a3)] [] τ) ∧ (¬ 0 ≤ x0 → Ru M_H_siege d Q 79 [some (.ref a0), some (.int a1), some (.int a2), some (.int a3)] [] τ))) ∧
    (∀ (a0 : Nat) (a1 : Int32) (a2 : Int32) (a3 : Int32) (τ : St), Ru M_H_siege d Q 79 [some (.ref a0), some (.int a1), some (.int a2), some (.int a3)] [] τ = Ru M_H_siege d Q 80 [some (.ref a0), some (.int a1), some (.int a2), some (.int a3)] [.int 1] τ) ∧
    (∀ (a0 : Nat) (a1 : Int32) (a2 : Int32) (a3 : Int32) (x0 : Int32) (τ : St), Ru M_H_siege d Q 80 [some (.ref a0), some (.int a1), some (.int a2), some (.int a3)] [.int x0] τ = Ru M_H_siege d Q 84 [some (.ref a0), some (.int a1), some (.int a2), some (.int a3)] [.int x0] τ) ∧
    (∀ (a0 : Nat) (a1 : Int32) (a2 : Int32) (a3 : Int32) (τ : St), Ru M_H_siege d Q 83 [some (.ref a0), some (.int a1), some (.int a2), some (.int a3)] [] τ = Ru M_H_siege d Q 84 [some (.ref a0), some (.int a1), some (.int a2), some (.int a3)] [.int 0] τ) ∧
    (∀ (a0 : Nat) (a1 : Int32) (a2 : Int32) (a3 : Int32) (x0 : Int32) (τ : St), Ru M_H_siege d Q 84 [some (.ref a0), some (.int a1), some (.int a2), some (.int a3)] [.int x0] τ = Ru M_H_siege d Q 85 [some (.ref a0), some (.int a1), some (.int x0), some (.int a3)] [] τ) ∧
    (∀ (a0 : Nat) (a1 : Int32) (a2 : Int32) (a3 : Int32) (τ : St), Ru M_H_siege d Q 85 [some (.ref a0), some (.int a1), some (.int a2), some (.int a3)] [] τ = Ru M_H_siege d Q 86 [some (.ref a0), some (.int a1), some (.int a2), some (.int a3)] [.int a1] τ) ∧
    (∀ (a0 : Nat) (a1 : Int32) (a2 : Int32) (a3 : Int32) (x0 : Int32) (τ : St), Ru M_H_siege d Q 86 [some (.ref a0), some (.int a1), some (.int a2), some (.int a3)] [.int x0] τ = Ru M_H_siege d Q 87 [some (.ref a0), some (.int a1), some (.int a2), some (.int a3)] [.int a2, .int x0] τ) ∧
    (∀ (a0 : Nat) (a1 : Int32) (a2 : Int32) (a3 : Int32) (x0 : Int32) (x1 : Int32) (τ : St), Ru M_H_siege d Q 87 [some (.ref a0), some (.int a1), some (.int a2), some (.int a3)] [.int x0, .int x1] τ = ((x0 = 0 → Ru M_H_siege d Q 94 [some (.ref a0), some (.int a1), some (.int a2), some (.int a3)] [.int x1] τ) ∧ (¬ x0 = 0 → Ru M_H_siege d Q 90 [some (.ref a0), some (.int a1), some (.int a2), some (.int a3)] [.int x1] τ))) ∧
    (∀ (a0 : Nat) (a1 : Int32) (a2 : Int32) (a3 : Int32) (x0 : Int32) (τ : St), Ru M_H_siege d Q 90 [some (.ref a0), some (.int a1), some (.int a2), some (.int a3)] [.int x0] τ = Ru M_H_siege d Q 91 [some (.ref a0), some (.int a1), some (.int a2), some (.int a3)] [.int 0, .int x0] τ) ∧
    (∀ (a0 : Nat) (a1 : Int32) (a2 : Int32) (a3 : Int32) (x0 : Int32) (x1 : Int32) (τ : St), Ru M_H_siege d Q 91 [some (.ref a0), some (.int a1), some (.int a2), some (.int a3)] [.int x0, .int x1] τ = Ru M_H_siege d Q 95 [some (.ref a0), some (.int a1), some (.int a2), some (.int a3)] [.int x0, .int x1] τ) ∧
    (∀ (a0 : Nat) (a1 : Int32) (a2 : Int32) (a3 : Int32) (x0 : Int32) (τ : St), Ru M_H_siege d Q 94 [some (.ref a0), some (.int a1), some (.int a2), some (.int a3)] [.int x0] τ = Ru M_H_siege d Q 95 [some (.ref a0), some (.int a1), some (.int a2), some (.int a3)] [.int 1, .int x0] τ) ∧
    (∀ (a0 : Nat) (a1 : Int32) (a2 : Int32) (a3 : Int32) (x0 : Int32) (x1 : Int32) (τ : St), Ru M_H_siege d Q 95 [some (.ref a0), some (.int a1), some (.int a2), some (.int a3)] [.int x0, .int x1] τ = Ru M_H_siege d Q 96 [some (.ref a0), some (.int a1), some (.int a2), some (.int a3)] [.int (x1 + x0)] τ) ∧
    (∀ (a0 : Nat) (a1 : Int32) (a2 : Int32) (a3 : Int32) (x0 : Int32) (τ : St), Ru M_H_siege d Q 96 [some (.ref a0), some (.int a1), some (.int a2), some (.int a3)] [.int x0] τ = Ru M_H_siege d Q 97 [some (.ref a0), some (.int x0), some (.int a2), some (.int a3)] [] τ) ∧
    (∀ (a0 : Nat) (a1 : Int32) (a2 : Int32) (a3 : Int32) (τ : St), Ru M_H_siege d Q 97 [some (.ref a0), some (.int a1), some (.int a2), some (.int a3)] [] τ = Ru M_H_siege d Q 100 [some (.ref a0), some (.int a1), some (.int a2), some (.int (a3 + 1))] [] τ) ∧
    (∀ (a0 : Nat) (a1 : Int32) (a2 : Int32) (a3 : Int32) (τ : St), Ru M_H_siege d Q 100 [some (.ref a0), some (.int a1), some (.int a2), some (.int a3)] [] τ = Rs M_H_siege d Q 52 [some (.ref a0), some (.int a1), some (.int a2), some (.int a3)] [] τ) ∧
    (∀ (a0 : Nat) (a1 : Int32) (a2 : Int32) (a3 : Int32) (τ : St), Ru M_H_siege d Q 103 [some (.ref a0), some (.int a1), some (.int a2), some (.int a3)] [] τ = Ru M_H_siege d Q 104 [some (.ref a0), some (.int a1), some (.int a2), some (.int a3)] [.ref a0] τ) ∧
    (∀ (a0 : Nat) (a1 : Int32) (a2 : Int32) (a3 : Int32) (x0 : Nat) (τ : St), Ru M_H_siege d Q 104 [some (.ref a0), some (.int a1), some (.int a2), some (.int a3)] [.ref x0] τ = (isA 11 x0 ∧ Ru M_H_siege d Q 107 [some (.ref a0), some (.int a1), some (.int a2), some (.int a3)] [.ref (rtab x0 0)] τ)) ∧
    (∀ (a0 : Nat) (a1 : Int32) (a2 : Int32) (a3 : Int32) (x0 : Nat) (τ : St), Ru M_H_siege d Q 107 [some (.ref a0), some (.int a1), some (.int a2), some (.int a3)] [.ref x0] τ = (isA 6 x0 ∧ Cl d m_Text_empty [.ref x0] τ (fun v τ' => Ru M_H_siege d Q 110 [some (.ref a0), some (.int a1), some (.int a2), some (.int a3)] (v.toList ++ []) τ'))) ∧
    (∀ (a0 : Nat) (a1 : Int32) (a2 : Int32) (a3 : Int32) (τ : St), Ru M_H_siege d Q 110 [some (.ref a0), some (.int a1), some (.int a2), some (.int a3)] [] τ = Ru M_H_siege d Q 111 [some (.ref a0), some (.int a1), some (.int a2), some (.int a3)] [.int a1] τ) ∧
    (∀ (a0 : Nat) (a1 : Int32) (a2 : Int32) (a3 : Int32) (x0 : Int32) (τ : St), Ru M_H_siege d Q 111 [some (.ref a0), some (.int a1), some (.int a2), some (.int a3)] [.int x0] τ = ((x0 ≤ 0 → Ru M_H_siege d Q 125 [some (.ref a0), some (.int a1), some (.int a2), some (.int a3)] [] τ) ∧ (¬ x0 ≤ 0 → Ru M_H_siege d Q 114 [some (.ref a0), some (.int a1), some (.int a2), some (.int a3)] [] τ))) ∧
    (∀ (a0 : Nat) (a1 : Int32) (a2 : Int32) (a3 : Int32) (τ : St), Ru M_H_siege d Q 114 [some (.ref a0), some (.int a1), some (.int a2), some (.int a3)] [] τ = Ru M_H_siege d Q 115 [some (.ref a0), some (.int a1), some (.int a2), some (.int a3)] [.ref a0] τ) ∧
    (∀ (a0 : Nat) (a1 : Int32) (a2 : Int32) (a3 : Int32) (x0 : Nat) (τ : St), Ru M_H_siege d Q 115 [some (.ref a0), some (.int a1), some (.int a2), some (.int a3)] [.ref x0] τ = (isA 11 x0 ∧ Ru M_H_siege d Q 118 [some (.ref a0), some (.int a1), some (.int a2), some (.int a3)] [.ref (rtab x0 5)] τ)) ∧
    (∀ (a0 : Nat) (a1 : Int32) (a2 : Int32) (a3 : Int32) (x0 : Nat) (τ : St), Ru M_H_siege d Q 118 [some (.ref a0), some (.int a1), some (.int a2), some (.int a3)] [.ref x0] τ = Ru M_H_siege d Q 119 [some (.ref a0), some (.int a1), some (.int a2), some (.int a3)] [.ref a0, .ref x0] τ) ∧
    (∀ (a0 : Nat) (a1 : Int32) (a2 : Int32) (a3 : Int32) (x0 : Nat) (x1 : Nat) (τ : St), Ru M_H_siege d Q 119 [some (.ref a0), some (.int a1), some (.int a2), some (.int a3)] [.ref x0, .ref x1] τ = (isA 11 x0 ∧ Ru M_H_siege d Q 122 [some (.ref a0), some (.int a1), some (.int a2), some (.int a3)] [.ref (rtab x0 4), .ref x1] τ)) ∧
    (∀ (a0 : Nat) (a1 : Int32) (a2 : Int32) (a3 : Int32) (x0 : Nat) (x1 : Nat) (τ : St), Ru M_H_siege d Q 122 [some (.ref a0), some (.int a1), some (.int a2), some (.int a3)] [.ref x0, .ref x1] τ = (isA 2 x1 ∧ Cl d m_Past_add [.ref x1, .ref x0] τ (fun v τ' => Ru M_H_siege d Q 125 [some (.ref a0), some (.int a1), some (.int a2), some (.int a3)] (v.toList ++ []) τ'))) ∧
    (∀ (a0 : Nat) (a1 : Int32) (a2 : Int32) (a3 : Int32) (τ : St), Ru M_H_siege d Q 125 [some (.ref a0), some (.int a1), some (.int a2), some (.int a3)] [] τ = Ru M_H_siege d Q 126 [some (.ref a0), some (.int a1), some (.int a2), some (.int a3)] [.ref a0] τ) ∧
    (∀ (a0 : Nat) (a1 : Int32) (a2 : Int32) (a3 : Int32) (x0 : Nat) (τ : St), Ru M_H_siege d Q 126 [some (.ref a0), some (.int a1), some (.int a2), some (.int a3)] [.ref x0] τ = (isA 11 x0 ∧ Ru M_H_siege d Q 129 [some (.ref a0), some (.int a1), some (.int a2), some (.int a3)] [.ref (rtab x0 1)] τ)) ∧
    (∀ (a0 : Nat) (a1 : Int32) (a2 : Int32) (a3 : Int32) (x0 : Nat) (τ : St), Ru M_H_siege d Q 129 [some (.ref a0), some (.int a1), some (.int a2), some (.int a3)] [.ref x0] τ = Ru M_H_siege d Q 130 [some (.ref a0), some (.int a1), some (.int a2), some (.int a3)] [.int a2, .ref x0] τ) ∧
    (∀ (a0 : Nat) (a1 : Int32) (a2 : Int32) (a3 : Int32) (x0 : Int32) (x1 : Nat) (τ : St), Ru M_H_siege d Q 130 [some (.ref a0), some (.int a1), some (.int a2), some (.int a3)] [.int x0, .ref x1] τ = ((x0 = 0 → Ru M_H_siege d Q 137 [some (.ref a0), some (.int a1), some (.int a2), some (.int a3)] [.ref x1] τ) ∧ (¬ x0 = 0 → Ru M_H_siege d Q 133 [some (.ref a0), some (.int a1), some (.int a2), some (.int a3)] [.ref x1] τ))) ∧
    (∀ (a0 : Nat) (a1 : Int32) (a2 : Int32) (a3 : Int32) (x0 : Nat) (τ : St), Ru M_H_siege d Q 133 [some (.ref a0), some (.int a1), some (.int a2), some (.int a3)] [.ref x0] τ = Ru M_H_siege d Q 134 [some (.ref a0), some (.int a1), some (.int a2), some (.int a3)] [.long 1, .ref x0] τ) ∧
    (∀ (a0 : Nat) (a1 : Int32) (a2 : Int32) (a3 : Int32) (x0 : Int64) (x1 : Nat) (τ : St), Ru M_H_siege d Q 134 [some (.ref a0), some (.int a1), some (.int a2), some (.int a3)] [.long x0, .ref x1] τ = Ru M_H_siege d Q 138 [some (.ref a0), some (.int a1), some (.int a2), some (.int a3)] [.long x0, .ref x1] τ) ∧
    (∀ (a0 : Nat) (a1 : Int32) (a2 : Int32) (a3 : Int32) (x0 : Nat) (τ : St), Ru M_H_siege d Q 137 [some (.ref a0), some (.int a1), some (.int a2), some (.int a3)] [.ref x0] τ = Ru M_H_siege d Q 138 [some (.ref a0), some (.int a1), some (.int a2), some (.int a3)] [.long 0, .ref x0] τ) ∧
    (∀ (a0 : Nat) (a1 : Int32) (a2 : Int32) (a3 : Int32) (x0 : Int64) (x1 : Nat) (τ : St), Ru M_H_siege d Q 138 [some (.ref a0), some (.int a1), some (.int a2), some (.int a3)] [.long x0, .ref x1] τ = Ru M_H_siege d Q 139 [some (.ref a0), some (.int a1), some (.int a2), some (.int a3)] [.ref a0, .long x0, .ref x1] τ) ∧
    (∀ (a0 : Nat) (a1 : Int32) (a2 : Int32) (a3 : Int32) (x0 : Nat) (x1 : Int64) (x2 : Nat) (τ : St), Ru M_H_siege d Q 139 [some (.ref a0), some (.int a1), some (.int a2), some (.int a3)] [.ref x0, .long x1, .ref x2] τ = (isA 11 x0 ∧ Cl d m_H_shipsOver [.ref x0] τ (fun v τ' => Ru M_H_siege d Q 142 [some (.ref a0), some (.int a1), some (.int a2), some (.int a3)] (v.toList ++ [.long x1, .ref x2]) τ'))) ∧
    (∀ (a0 : Nat) (a1 : Int32) (a2 : Int32) (a3 : Int32) (x0 : Int32) (x1 : Int64) (x2 : Nat) (τ : St), Ru M_H_siege d Q 142 [some (.ref a0), some (.int a1), some (.int a2), some (.int a3)] [.int x0, .long x1, .ref x2] τ = Cl d m_bitsI [.int x0] τ (fun v τ' => Ru M_H_siege d Q 145 [some (.ref a0), some (.int a1), some (.int a2), some (.int a3)] (v.toList ++ [.long x1, .ref x2]) τ')) ∧
    (∀ (a0 : Nat) (a1 : Int32) (a2 : Int32) (a3 : Int32) (x0 : Int32) (x1 : Int64) (x2 : Nat) (τ : St), Ru M_H_siege d Q 145 [some (.ref a0), some (.int a1), some (.int a2), some (.int a3)] [.int x0, .long x1, .ref x2] τ = Ru M_H_siege d Q 146 [some (.ref a0), some (.int a1), some (.int a2), some (.int a3)] [.long x0.toInt64, .long x1, .ref x2] τ) ∧
    (∀ (a0 : Nat) (a1 : Int32) (a2 : Int32) (a3 : Int32) (x0 : Int64) (x1 : Int64) (x2 : Nat) (τ : St), Ru M_H_siege d Q 146 [some (.ref a0), some (.int a1), some (.int a2), some (.int a3)] [.long x0, .long x1, .ref x2] τ = (isA 4 x2 ∧ Cl d m_Row_both [.ref x2, .long x1, .long x0] τ (fun v τ' => Ru M_H_siege d Q 149 [some (.ref a0), some (.int a1), some (.int a2), some (.int a3)] (v.toList ++ []) τ'))) ∧
    (∀ (a0 : Nat) (a1 : Int32) (a2 : Int32) (a3 : Int32) (τ : St), Ru M_H_siege d Q 149 [some (.ref a0), some (.int a1), some (.int a2), some (.int a3)] [] τ = Ru M_H_siege d Q 150 [some (.ref a0), some (.int a1), some (.int a2), some (.int a3)] [.int a1] τ) ∧
    (∀ (a0 : Nat) (a1 : Int32) (a2 : Int32) (a3 : Int32) (x0 : Int32) (τ : St), Ru M_H_siege d Q 150 [some (.ref a0), some (.int a1), some (.int a2), some (.int a3)] [.int x0] τ = Q (some (.int x0)) τ) := ⟨
  fun _ _ => (R_at ok_H_siege rfl).trans (e_ald rfl),
  fun _ _ _ => (R_at ok_H_siege rfl).trans (e_cv [] rfl rfl rfl),
  fun _ _ _ => (R_at ok_H_siege rfl).trans e_ifn,
  fun _ _ => (R_at ok_H_siege rfl).trans e_push,
  fun _ _ _ => (R_at ok_H_siege rfl).trans (e_ald rfl),
  fun _ _ _ _ => (R_at ok_H_siege rfl).trans e_gR,
  fun _ _ _ _ => (R_at ok_H_siege rfl).trans e_gI,
  fun _ _ _ _ => (R_at ok_H_siege rfl).trans e_bin,
  fun _ _ _ => (R_at ok_H_siege rfl).trans e_ist,
  fun _ _ _ => (R_at ok_H_siege rfl).trans (e_ald rfl),
  fun _ _ _ _ => (R_at ok_H_siege rfl).trans e_gR,
  fun _ _ _ _ => (R_at ok_H_siege rfl).trans (e_cv [] rfl rfl rfl),
  fun _ _ _ => (R_at ok_H_siege rfl).trans (e_ild rfl),
  fun _ _ _ _ => (R_at ok_H_siege rfl).trans e_iret,
  fun _ _ => (R_at ok_H_siege rfl).trans (e_ald rfl),
  fun _ _ _ => (R_at ok_H_siege rfl).trans e_gR,
  fun _ _ _ => (R_at ok_H_siege rfl).trans (e_ald rfl),
  fun _ _ _ _ => (R_at ok_H_siege rfl).trans e_gR,
  fun _ x0 _ _ => (R_at ok_H_siege rfl).trans (e_cv [.ref x0] rfl rfl rfl),
  fun _ _ => (R_at ok_H_siege rfl).trans (e_ald rfl),
  fun _ _ _ => (R_at ok_H_siege rfl).trans e_gR,
  fun _ _ _ => (R_at ok_H_siege rfl).trans e_push,
  fun _ x0 _ _ => (R_at ok_H_siege rfl).trans (e_cv [.int x0] rfl rfl rfl),
  fun _ _ => (R_at ok_H_siege rfl).trans e_push,
  fun _ _ _ => (R_at ok_H_siege rfl).trans e_ist,
  fun _ _ _ => (R_at ok_H_siege rfl).trans e_push,
  fun _ _ _ _ => (R_at ok_H_siege rfl).trans e_ist,
  fun _ _ _ _ => (R_at ok_H_siege rfl).trans e_push,
  fun _ _ _ _ _ => (R_at ok_H_siege rfl).trans e_ist,
  fun _ _ _ _ _ => (R_at ok_H_siege rfl).trans (e_ild rfl),
  fun _ _ _ _ _ _ => (R_at ok_H_siege rfl).trans e_push,
  fun _ _ _ _ _ _ _ => (R_at ok_H_siege rfl).trans e_ic,
  fun _ _ _ _ _ => (R_at ok_H_siege rfl).trans (e_ild rfl),
  fun _ _ _ _ _ _ => (R_at ok_H_siege rfl).trans e_ifn,
  fun _ _ _ _ _ => (R_at ok_H_siege rfl).trans (e_ald rfl),
  fun _ _ _ _ _ _ => (R_at ok_H_siege rfl).trans e_gR,
  fun _ _ _ _ _ _ => (R_at ok_H_siege rfl).trans (e_cv [] rfl rfl rfl),
  fun _ _ _ _ _ _ => (R_at ok_H_siege rfl).trans e_ifn,
  fun _ _ _ _ _ => (R_at ok_H_siege rfl).trans (e_ald rfl),
  fun _ _ _ _ _ _ => (R_at ok_H_siege rfl).trans (e_cv [] rfl rfl rfl),
  fun _ _ _ _ _ _ => (R_at ok_H_siege rfl).trans e_if,
  fun _ _ _ _ _ => (R_at ok_H_siege rfl).trans e_push,
  fun _ _ _ _ _ _ => (R_at ok_H_siege rfl).trans e_goto,
  fun _ _ _ _ _ => (R_at ok_H_siege rfl).trans e_push,
  fun _ _ _ _ _ _ => (R_at ok_H_siege rfl).trans e_ist,
  fun _ _ _ _ _ => (R_at ok_H_siege rfl).trans (e_ild rfl),
  fun _ _ _ _ _ _ => (R_at ok_H_siege rfl).trans (e_ild rfl),
  fun _ _ _ _ _ _ _ => (R_at ok_H_siege rfl).trans e_if,
  fun _ _ _ _ _ _ => (R_at ok_H_siege rfl).trans e_push,
  fun _ _ _ _ _ _ _ => (R_at ok_H_siege rfl).trans e_goto,
  fun _ _ _ _ _ _ => (R_at ok_H_siege rfl).trans e_push,
  fun _ _ _ _ _ _ _ => (R_at ok_H_siege rfl).trans e_bin,
  fun _ _ _ _ _ _ => (R_at ok_H_siege rfl).trans e_ist,
  fun _ _ _ _ _ => (R_at ok_H_siege rfl).trans (e_iinc rfl),
  fun _ _ _ _ _ => (R_at ok_H_siege rfl).trans e_goto,
  fun _ _ _ _ _ => (R_at ok_H_siege rfl).trans (e_ald rfl),
  fun _ _ _ _ _ _ => (R_at ok_H_siege rfl).trans e_gR,
  fun _ _ _ _ _ _ => (R_at ok_H_siege rfl).trans (e_cv [] rfl rfl rfl),
  fun _ _ _ _ _ => (R_at ok_H_siege rfl).trans (e_ild rfl),
  fun _ _ _ _ _ _ => (R_at ok_H_siege rfl).trans e_if,
  fun _ _ _ _ _ => (R_at ok_H_siege rfl).trans (e_ald rfl),
  fun _ _ _ _ _ _ => (R_at ok_H_siege rfl).trans e_gR,
  fun _ _ _ _ _ _ => (R_at ok_H_siege rfl).trans (e_ald rfl),
  fun _ _ _ _ _ _ _ => (R_at ok_H_siege rfl).trans e_gR,
  fun _ _ _ _ x0 _ _ => (R_at ok_H_siege rfl).trans (e_cv [.ref x0] rfl rfl rfl),
  fun _ _ _ _ _ => (R_at ok_H_siege rfl).trans (e_ald rfl),
  fun _ _ _ _ _ _ => (R_at ok_H_siege rfl).trans e_gR,
  fun _ _ _ _ _ _ => (R_at ok_H_siege rfl).trans (e_ild rfl),
  fun _ _ _ _ _ _ _ => (R_at ok_H_siege rfl).trans e_if,
  fun _ _ _ _ _ _ => (R_at ok_H_siege rfl).trans e_push,
  fun _ _ _ _ _ _ _ => (R_at ok_H_siege rfl).trans e_goto,
  fun _ _ _ _ _ _ => (R_at ok_H_siege rfl).trans e_push,
  fun _ _ _ _ _ _ _ => (R_at ok_H_siege rfl).trans (e_ald rfl),
  fun _ _ _ _ _ _ _ _ => (R_at ok_H_siege rfl).trans (e_cv [] rfl rfl rfl),
  fun _ _ _ _ x0 _ _ _ => (R_at ok_H_siege rfl).trans (e_cs [.int x0] rfl rfl rfl),
  fun _ _ _ _ _ _ _ _ => (R_at ok_H_siege rfl).trans e_il,
  fun _ _ _ _ x0 x1 _ _ => (R_at ok_H_siege rfl).trans (e_cv [.long x1, .long x0] rfl rfl rfl),
  fun _ _ _ _ _ => (R_at ok_H_siege rfl).trans (e_ild rfl),
  fun _ _ _ _ _ _ => (R_at ok_H_siege rfl).trans e_iret⟩
set_option maxHeartbeats 4000000 in
theorem N_H_canReadActs (d : Nat) (Q : Qt) : ∀ (x0 : Nat) (τ : St), Cl (d + 1) m_H_canReadActs [.ref x0] τ Q = Ru M_H_canReadActs d Q 0 [some (.ref x0), none, none] [] τ := fun _ _ => propext ⟨fun h => h.2, fun h => ⟨Nat.le_of_ble_eq_true rfl, h⟩⟩
set_option maxHeartbeats 4000000 in
theorem E_H_canReadActs (d : Nat) (Q : Qt) :
    (∀ (a0 : Nat) (τ : St), Ru M_H_canReadActs d Q 0 [some (.ref a0), none, none] [] τ = Ru M_H_canReadActs d Q 1 [some (.ref a0), none, none] [.ref a0] τ) ∧
    (∀ (a0 : Nat) (x0 : Nat) (τ : St), Ru M_H_canReadActs d Q 1 [some (.ref a0), none, none] [.ref x0] τ = (isA 11 x0 ∧ Ru M_H_canReadActs d Q 4 [some (.ref a0), none, none] [.ref (rtab x0 0)] τ)) ∧
    (∀ (a0 : Nat) (x0 : Nat) (τ : St), Ru M_H_canReadActs d Q 4 [some (.ref a0), none, none] [.ref x0] τ = Ru M_H_canReadActs d Q 6 [some (.ref a0), none, none] [.int 60, .ref x0] τ) ∧
    (∀ (a0 : Nat) (x0 : Int32) (x1 : Nat) (τ : St), Ru M_H_canReadActs d Q 6 [some (.ref a0), none, none] [.int x0, .ref x1] τ = (isA 6 x1 ∧ Cl d m_Text_open [.ref x1, .int x0] τ (fun v τ' => Ru M_H_canReadActs d Q 9 [some (.ref a0), none, none] (v.toList ++ []) τ'))) ∧
    (∀ (a0 : Nat) (τ : St), Ru M_H_canReadActs d Q 9 [some (.ref a0), none, none] [] τ = Ru M_H_canReadActs d Q 10 [some (.ref a0), none, none] [.int 0] τ) ∧
    (∀ (a0 : Nat) (x0 : Int32) (τ : St), Ru M_H_canReadActs d Q 10 [some (.ref a0), none, none] [.int x0] τ = Rs M_H_canReadActs d Q 11 [some (.ref a0), some (.int x0), none] [] τ) ∧
    (∀ (a0 : Nat) (a1 : Int32) (a2 : Option Value) (τ : St), Ru M_H_canReadActs d Q 11 [some (.ref a0), some (.int a1), a2] [] τ = Ru M_H_canReadActs d Q 12 [some (.ref a0), some (.int a1), a2] [.int a1] τ) ∧
    (∀ (a0 : Nat) (a1 : Int32) (a2 : Option Value) (x0 : Int32) (τ : St), Ru M_H_canReadActs d Q 12 [some (.ref a0), some (.int a1), a2] [.int x0] τ = Ru M_H_canReadActs d Q 14 [some (.ref a0), some (.int a1), a2] [.int 60, .int x0] τ) ∧
    (∀ (a0 : Nat) (a1 : Int32) (a2 : Option Value) (x0 : Int32) (x1 : Int32) (τ : St), Ru M_H_canReadActs d Q 14 [some (.ref a0), some (.int a1), a2] [.int x0, .int x1] τ = ((x0 ≤ x1 → Ru M_H_canReadActs d Q 153 [some (.ref a0), some (.int a1), a2] [] τ) ∧ (¬ x0 ≤ x1 → Ru M_H_canReadActs d Q 17 [some (.ref a0), some (.int a1), a2] [] τ))) ∧
    (∀ (a0 : Nat) (a1 : Int32) (a2 : Option Value) (τ : St), Ru M_H_canReadActs d Q 17 [some (.ref a0), some (.int a1), a2] [] τ = Ru M_H_canReadActs d Q 18 [some (.ref a0), some (.int a1), a2] [.ref a0] τ) ∧
    (∀ (a0 : Nat) (a1 : Int32) (a2 : Option Value) (x0 : Nat) (τ : St), Ru M_H_canReadActs d Q 18 [some (.ref a0), some (.int a1), a2] [.ref x0] τ = (isA 11 x0 ∧ Ru M_H_canReadActs d Q 21 [some (.ref a0), some (.int a1), a2] [.ref (rtab x0 0)] τ)) ∧
    (∀ (a0 : Nat) (a1 : Int32) (a2 : Option Value) (x0 : Nat) (τ : St), Ru M_H_canReadActs d Q 21 [some (.ref a0), some (.int a1), a2] [.ref x0] τ = (isA 6 x0 ∧ Cl d m_Text_finished [.ref x0] τ (fun v τ' => Ru M_H_canReadActs d Q 24 [some (.ref a0), some (.int a1), a2] (v.toList ++ []) τ'))) ∧
    (∀ (a0 : Nat) (a1 : Int32) (a2 : Option Value) (x0 : Int32) (τ : St), Ru M_H_canReadActs d Q 24 [some (.ref a0), some (.int a1), a2] [.int x0] τ = ((¬ x0 = 0 → Ru M_H_canReadActs d Q 153 [some (.ref a0), some (.int a1), a2] [] τ) ∧ (x0 = 0 → Ru M_H_canReadActs d Q 27 [some (.ref a0), some (.int a1), a2] [] τ))) ∧
    (∀ (a0 : Nat) (a1 : Int32) (a2 : Option Value) (τ : St), Ru M_H_canReadActs d Q 27 [some (.ref a0), some (.int a1), a2] [] τ = Ru M_H_canReadActs d Q 28 [some (.ref a0), some (.int a1), a2] [.int 0] τ) ∧
    (∀ (a0 : Nat) (a1 : Int32) (a2 : Option Value) (x0 : Int32) (τ : St), Ru M_H_canReadActs d Q 28 [some (.ref a0), some (.int a1), a2] [.int x0] τ = Ru M_H_canReadActs d Q 29 [some (.ref a0), some (.int a1), some (.int x0)] [] τ) ∧
    (∀ (a0 : Nat) (a1 : Int32) (a2 : Int32) (τ : St), Ru M_H_canReadActs d Q 29 [some (.ref a0), some (.int a1), some (.int a2)] [] τ = Ru M_H_canReadActs d Q 30 [some (.ref a0), some (.int a1), some (.int a2)] [.ref a0] τ) ∧
    (∀ (a0 : Nat) (a1 : Int32) (a2 : Int32) (x0 : Nat) (τ : St), Ru M_H_canReadActs d Q 30 [some (.ref a0), some (.int a1), some (.int a2)] [.ref x0] τ = (isA 11 x0 ∧ Ru M_H_canReadActs d Q 33 [some (.ref a0), some (.int a1), some (.int a2)] [.ref (rtab x0 0)] τ)) ∧
    (∀ (a0 : Nat) (a1 : Int32) (a2 : Int32) (x0 : Nat) (τ : St), Ru M_H_canReadActs d Q 33 [some (.ref a0), some (.int a1), some (.int a2)] [.ref x0] τ = Ru M_H_canReadActs d Q 35 [some (.ref a0), some (.int a1), some (.int a2)] [.int 100, .ref x0] τ) ∧
    (∀ (a0 : Nat) (a1 : Int32) (a2 : Int32) (x0 : Int32) (x1 : Nat) (τ : St), Ru M_H_canReadActs d Q 35 [some (.ref a0), some (.int a1), some (.int a2)] [.int x0, .ref x1] τ = (isA 6 x1 ∧ Cl d m_Text_takeSign [.ref x1, .int x0] τ (fun v τ' => Ru M_H_canReadActs d Q 38 [some (.ref a0), some (.int a1), some (.int a2)] (v.toList ++ []) τ'))) ∧
    (∀ (a0 : Nat) (a1 : Int32) (a2 : Int32) (x0 : Int32) (τ : St), Ru M_H_canReadActs d Q 38 [some (.ref a0), some (.int a1), some (.int a2)] [.int x0] τ = ((x0 = 0 → Ru M_H_canReadActs d Q 77 [some (.ref a0), some (.int a1), some (.int a2)] [] τ) ∧ (¬ x0 = 0 → Ru M_H_canReadActs d Q 41 [some (.ref a0), some (.int a1), some (.int a2)] [] τ))) ∧
    (∀ (a0 : Nat) (a1 : Int32) (a2 : Int32) (τ : St), Ru M_H_canReadActs d Q 41 [some (.ref a0), some (.int a1), some (.int a2)] [] τ = Ru M_H_canReadActs d Q 42 [some (.ref a0), some (.int a1), some (.int a2)] [.ref a0] τ) ∧
    (∀ (a0 : Nat) (a1 : Int32) (a2 : Int32) (x0 : Nat) (τ : St), Ru M_H_canReadActs d Q 42 [some (.ref a0), some (.int a1), some (.int a2)] [.ref x0] τ = (isA 11 x0 ∧ Ru M_H_canReadActs d Q 45 [some (.ref a0), some (.int a1), some (.int a2)] [.ref (rtab x0 0)] τ)) ∧
    (∀ (a0 : Nat) (a1 : Int32) (a2 : Int32) (x0 : Nat) (τ : St), Ru M_H_canReadActs d Q 45 [some (.ref a0), some (.int a1), some (.int a2)] [.ref x0] τ = Ru M_H_canReadActs d Q 46 [some (.ref a0), some (.int a1), some (.int a2)] [.int 0, .ref x0] τ) ∧
    (∀ (a0 : Nat) (a1 : Int32) (a2 : Int32) (x0 : Int32) (x1 : Nat) (τ : St), Ru M_H_canReadActs d Q 46 [some (.ref a0), some (.int a1), some (.int a2)] [.int x0, .ref x1] τ = Ru M_H_canReadActs d Q 48 [some (.ref a0), some (.int a1), some (.int a2)] [.int 9, .int x0, .ref x1] τ) ∧
    (∀ (a0 : Nat) (a1 : Int32) (a2 : Int32) (x0 : Int32) (x1 : Int32) (x2 : Nat) (τ : St), Ru M_H_canReadActs d Q 48 [some (.ref a0), some (.int a1), some (.int a2)] [.int x0, .int x1, .ref x2] τ = (isA 6 x2 ∧ Cl d m_Text_takeDigit [.ref x2, .int x1, .int x0] τ (fun v τ' => Ru M_H_canReadActs d Q 51 [some (.ref a0), some (.int a1), some (.int a2)] (v.toList ++ []) τ'))) ∧
    (∀ (a0 : Nat) (a1 : Int32) (a2 : Int32) (x0 : Int32) (τ : St), Ru M_H_canReadActs d Q 51 [some (.ref a0), some (.int a1), some (.int a2)] [.int x0] τ = Ru M_H_canReadActs d Q 52 [some (.ref a0), some (.int a1), some (.int a2)] [.int (-1), .int x0] τ) ∧
    (∀ (a0 : Nat) (a1 : Int32) (a2 : Int32) (x0 : Int32) (x1 : Int32) (τ : St), Ru M_H_canReadActs d Q 52 [some (.ref a0), some (.int a1), some (.int a2)] [.int x0, .int x1] τ = ((x1 = x0 → Ru M_H_canReadActs d Q 72 [some (.ref a0), some (.int a1), some (.int a2)] [] τ) ∧ (¬ x1 = x0 → Ru M_H_canReadActs d Q 55 [some (.ref a0), some (.int a1), some (.int a2)] [] τ))) ∧
    (∀ (a0 : Nat) (a1 : Int32) (a2 : Int32) (τ : St), Ru M_H_canReadActs d Q 55 [some (.ref a0), some (.int a1), some (.int a2)] [] τ = Ru M_H_canReadActs d Q 56 [some (.ref a0), some (.int a1), some (.int a2)] [.ref a0] τ) ∧
    (∀ (a0 : Nat) (a1 : Int32) (a2 : Int32) (x0 : Nat) (τ : St), Ru M_H_canReadActs d Q 56 [some (.ref a0), some (.int a1), some (.int a2)] [.ref x0] τ = (isA 11 x0 ∧ Ru M_H_canReadActs d Q 59 [some (.ref a0), some (.int a1), some (.int a2)] [.ref (rtab x0 0)] τ)) ∧
    (∀ (a0 : Nat) (a1 : Int32) (a2 : Int32) (x0 : Nat) (τ : St), Ru M_H_canReadActs d Q 59 [some (.ref a0), some (.int a1), some (.int a2)] [.ref x0] τ = Ru M_H_canReadActs d Q 60 [some (.ref a0), some (.int a1), some (.int a2)] [.int 0, .ref x0] τ) ∧
    (∀ (a0 : Nat) (a1 : Int32) (a2 : Int32) (x0 : Int32) (x1 : Nat) (τ : St), Ru M_H_canReadActs d Q 60 [some (.ref a0), some (.int a1), some (.int a2)] [.int x0, .ref x1] τ = Ru M_H_canReadActs d Q 61 [some (.ref a0), some (.int a1), some (.int a2)] [.int 3, .int x0, .ref x1] τ) ∧
    (∀ (a0 : Nat) (a1 : Int32) (a2 : Int32) (x0 : Int32) (x1 : Int32) (x2 : Nat) (τ : St), Ru M_H_canReadActs d Q 61 [some (.ref a0), some (.int a1), some (.int a2)] [.int x0, .int x1, .ref x2] τ = (isA 6 x2 ∧ Cl d m_Text_takeDigit [.ref x2, .int x1, .int x0] τ (fun v τ' => Ru M_H_canReadActs d Q 64 [some (.ref a0), some (.int a1), some (.int a2)] (v.toList ++ []) τ'))) ∧
    (∀ (a0 : Nat) (a1 : Int32) (a2 : Int32) (x0 : Int32) (τ : St), Ru M_H_canReadActs d Q 64 [some (.ref a0), some (.int a1), some (.int a2)] [.int x0] τ = Ru M_H_canReadActs d Q 65 [some (.ref a0), some (.int a1), some (.int a2)] [.int (-1), .int x0] τ) ∧
    (∀ (a0 : Nat) (a1 : Int32) (a2 : Int32) (x0 : Int32) (x1 : Int32) (τ : St), Ru M_H_canReadActs d Q 65 [some (.ref a0), some (.int a1), some (.int a2)] [.int x0, .int x1] τ = ((x1 = x0 → Ru M_H_canReadActs d Q 72 [some (.ref a0), some (.int a1), some (.int a2)] [] τ) ∧ (¬ x1 = x0 → Ru M_H_canReadActs d Q 68 [some (.ref a0), some (.int a1), some (.int a2)] [] τ))) ∧
    (∀ (a0 : Nat) (a1 : Int32) (a2 : Int32) (τ : St), Ru M_H_canReadActs d Q 68 [some (.ref a0), some (.int a1), some (.int a2)] [] τ = Ru M_H_canReadActs d Q 69 [some (.ref a0), some (.int a1), some (.int a2)] [.int 1] τ) ∧
    (∀ (a0 : Nat) (a1 : Int32) (a2 : Int32) (x0 : Int32) (τ : St), Ru M_H_canReadActs d Q 69 [some (.ref a0), some (.int a1), some (.int a2)] [.int x0] τ = Ru M_H_canReadActs d Q 73 [some (.ref a0), some (.int a1), some (.int a2)] [.int x0] τ) ∧
    (∀ (a0 : Nat) (a1 : Int32) (a2 : Int32) (τ : St), Ru M_H_canReadActs d Q 72 [some (.ref a0), some (.int a1), some (.int a2)] [] τ = Ru M_H_canReadActs d Q 73 [some (.ref a0), some (.int a1), some (.int a2)] [.int 0] τ) ∧
    (∀ (a0 : Nat) (a1 : Int32) (a2 : Int32) (x0 : Int32) (τ : St), Ru M_H_canReadActs d Q 73 [some (.ref a0), some (.int a1), some (.int a2)] [.int x0] τ = Ru M_H_canReadActs d Q 74 [some (.ref a0), some (.int a1), some (.int x0)] [] τ) ∧
    (∀ (a0 : Nat) (a1 : Int32) (a2 : Int32) (τ : St), Ru M_H_canReadActs d Q 74 [some (.ref a0), some (.int a1), some (.int a2)] [] τ = Ru M_H_canReadActs d Q 141 [some (.ref a0), some (.int a1), some (.int a2)] [] τ) ∧
    (∀ (a0 : Nat) (a1 : Int32) (a2 : Int32) (τ : St), Ru M_H_canReadActs d Q 77 [some (.ref a0), some (.int a1), some (.int a2)] [] τ = Ru M_H_canReadActs d Q 78 [some (.ref a0), some (.int a1), some (.int a2)] [.ref a0] τ) ∧
    (∀ (a0 : Nat) (a1 : Int32) (a2 : Int32) (x0 : Nat) (τ : St), Ru M_H_canReadActs d Q 78 [some (.ref a0), some (.int a1), some (.int a2)] [.ref x0] τ = (isA 11 x0 ∧ Ru M_H_canReadActs d Q 81 [some (.ref a0), some (.int a1), some (.int a2)] [.ref (rtab x0 0)] τ)) ∧
    (∀ (a0 : Nat) (a1 : Int32) (a2 : Int32) (x0 : Nat) (τ : St), Ru M_H_canReadActs d Q 81 [some (.ref a0), some (.int a1), some (.int a2)] [.ref x0] τ = Ru M_H_canReadActs d Q 83 [some (.ref a0), some (.int a1), some (.int a2)] [.int 112, .ref x0] τ) ∧
    (∀ (a0 : Nat) (a1 : Int32) (a2 : Int32) (x0 : Int32) (x1 : Nat) (τ : St), Ru M_H_canReadActs d Q 83 [some (.ref a0), some (.int a1), some (.int a2)] [.int x0, .ref x1] τ = (isA 6 x1 ∧ Cl d m_Text_takeSign [.ref x1, .int x0] τ (fun v τ' => Ru M_H_canReadActs d Q 86 [some (.ref a0), some (.int a1), some (.int a2)] (v.toList ++ []) τ'))) ∧
    (∀ (a0 : Nat) (a1 : Int32) (a2 : Int32) (x0 : Int32) (τ : St), Ru M_H_canReadActs d Q 86 [some (.ref a0), some (.int a1), some (.int a2)] [.int x0] τ = ((x0 = 0 → Ru M_H_canReadActs d Q 109 [some (.ref a0), some (.int a1), some (.int a2)] [] τ) ∧ (¬ x0 = 0 → Ru M_H_canReadActs d Q 89 [some (.ref a0), some (.int a1), some (.int a2)] [] τ))) ∧
    (∀ (a0 : Nat) (a1 : Int32) (a2 : Int32) (τ : St), Ru M_H_canReadActs d Q 89 [some (.ref a0), some (.int a1), some (.int a2)] [] τ = Ru M_H_canReadActs d Q 90 [some (.ref a0), some (.int a1), some (.int a2)] [.ref a0] τ) ∧
    (∀ (a0 : Nat) (a1 : Int32) (a2 : Int32) (x0 : Nat) (τ : St), Ru M_H_canReadActs d Q 90 [some (.ref a0), some (.int a1), some (.int a2)] [.ref x0] τ = (isA 11 x0 ∧ Ru M_H_canReadActs d Q 93 [some (.ref a0), some (.int a1), some (.int a2)] [.ref (rtab x0 0)] τ)) ∧
    (∀ (a0 : Nat) (a1 : Int32) (a2 : Int32) (x0 : Nat) (τ : St), Ru M_H_canReadActs d Q 93 [some (.ref a0), some (.int a1), some (.int a2)] [.ref x0] τ = (isA 6 x0 ∧ Cl d m_Text_takeTwoDigits [.ref x0] τ (fun v τ' => Ru M_H_canReadActs d Q 96 [some (.ref a0), some (.int a1), some (.int a2)] (v.toList ++ []) τ'))) ∧
    (∀ (a0 : Nat) (a1 : Int32) (a2 : Int32) (x0 : Int32) (τ : St), Ru M_H_canReadActs d Q 96 [some (.ref a0), some (.int a1), some (.int a2)] [.int x0] τ = Ru M_H_canReadActs d Q 97 [some (.ref a0), some (.int a1), some (.int a2)] [.int (-1), .int x0] τ) ∧
    (∀ (a0 : Nat) (a1 : Int32) (a2 : Int32) (x0 : Int32) (x1 : Int32) (τ : St), Ru M_H_canReadActs d Q 97 [some (.ref a0), some (.int a1), some (.int a2)] [.int x0, .int x1] τ = ((x1 = x0 → Ru M_H_canReadActs d Q 104 [some (.ref a0), some (.int a1), some (.int a2)] [] τ) ∧ (¬ x1 = x0 → Ru M_H_canReadActs d Q 100 [some (.ref a0), some (.int a1), some (.int a2)] [] τ))) ∧
    (∀ (a0 : Nat) (a1 : Int32) (a2 : Int32) (τ : St), Ru M_H_canReadActs d Q 100 [some (.ref a0), some (.int a1), some (.int a2)] [] τ = Ru M_H_canReadActs d Q 101 [some (.ref a0), some (.int a1), some (.int a2)] [.int 1] τ) ∧
    (∀ (a0 : Nat) (a1 : Int32) (a2 : Int32) (x0 : Int32) (τ : St), Ru M_H_canReadActs d Q 101 [some (.ref a0), some (.int a1), some (.int a2)] [.int x0] τ = Ru M_H_canReadActs d Q 105 [some (.ref a0), some (.int a1), some (.int a2)] [.int x0] τ) ∧
    (∀ (a0 : Nat) (a1 : Int32) (a2 : Int32) (τ : St), Ru M_H_canReadActs d Q 104 [some (.ref a0), some (.int a1), some (.int a2)] [] τ = Ru M_H_canReadActs d Q 105 [some (.ref a0), some (.int a1), some (.int a2)] [.int 0] τ) ∧
    (∀ (a0 : Nat) (a1 : Int32) (a2 : Int32) (x0 : Int32) (τ : St), Ru M_H_canReadActs d Q 105 [some (.ref a0), some (.int a1), some (.int a2)] [.int x0] τ = Ru M_H_canReadActs d Q 106 [some (.ref a0), some (.int a1), some (.int x0)] [] τ) ∧
    (∀ (a0 : Nat) (a1 : Int32) (a2 : Int32) (τ : St), Ru M_H_canReadActs d Q 106 [some (.ref a0), some (.int a1), some (.int a2)] [] τ = Ru M_H_canReadActs d Q 141 [some (.ref a0), some (.int a1), some (.int a2)] [] τ) ∧
    (∀ (a0 : Nat) (a1 : Int32) (a2 : Int32) (τ : St), Ru M_H_canReadActs d Q 109 [some (.ref a0), some (.int a1), some (.int a2)] [] τ = Ru M_H_canReadActs d Q 110 [some (.ref a0), some (.int a1), some (.int a2)] [.ref a0] τ) ∧
    (∀ (a0 : Nat) (a1 : Int32) (a2 : Int32) (x0 : Nat) (τ : St), Ru M_H_canReadActs d Q 110 [some (.ref a0), some (.int a1), some (.int a2)] [.ref x0] τ = (isA 11 x0 ∧ Ru M_H_canReadActs d Q 113 [some (.ref a0), some (.int a1), some (.int a2)] [.ref (rtab x0 0)] τ)) ∧
    (∀ (a0 : Nat) (a1 : Int32) (a2 : Int32) (x0 : Nat) (τ : St), Ru M_H_canReadActs d Q 113 [some (.ref a0), some (.int a1), some (.int a2)] [.ref x0] τ = Ru M_H_canReadActs d Q 115 [some (.ref a0), some (.int a1), some (.int a2)] [.int 104, .ref x0] τ) ∧
    (∀ (a0 : Nat) (a1 : Int32) (a2 : Int32) (x0 : Int32) (x1 : Nat) (τ : St), Ru M_H_canReadActs d Q 115 [some (.ref a0), some (.int a1), some (.int a2)] [.int x0, .ref x1] τ = (isA 6 x1 ∧ Cl d m_Text_takeSign [.ref x1, .int x0] τ (fun v τ' => Ru M_H_canReadActs d Q 118 [some (.ref a0), some (.int a1), some (.int a2)] (v.toList ++ []) τ'))) ∧
    (∀ (a0 : Nat) (a1 : Int32) (a2 : Int32) (x0 : Int32) (τ : St), Ru M_H_canReadActs d Q 118 [some (.ref a0), some (.int a1), some (.int a2)] [.int x0] τ = ((x0 = 0 → Ru M_H_canReadActs d Q 141 [some (.ref a0), some (.int a1), some (.int a2)] [] τ) ∧ (¬ x0 = 0 → Ru M_H_canReadActs d Q 121 [some (.ref a0), some (.int a1), some (.int a2)] [] τ))) ∧
    (∀ (a0 : Nat) (a1 : Int32) (a2 : Int32) (τ : St), Ru M_H_canReadActs d Q 121 [some (.ref a0), some (.int a1), some (.int a2)] [] τ = Ru M_H_canReadActs d Q 122 [some (.ref a0), some (.int a1), some (.int a2)] [.ref a0] τ) ∧
    (∀ (a0 : Nat) (a1 : Int32) (a2 : Int32) (x0 : Nat) (τ : St), Ru M_H_canReadActs d Q 122 [some (.ref a0), some (.int a1), some (.int a2)] [.ref x0] τ = (isA 11 x0 ∧ Ru M_H_canReadActs d Q 125 [some (.ref a0), some (.int a1), some (.int a2)] [.ref (rtab x0 0)] τ)) ∧
    (∀ (a0 : Nat) (a1 : Int32) (a2 : Int32) (x0 : Nat) (τ : St), Ru M_H_canReadActs d Q 125 [some (.ref a0), some (.int a1), some (.int a2)] [.ref x0] τ = Ru M_H_canReadActs d Q 126 [some (.ref a0), some (.int a1), some (.int a2)] [.int 1, .ref x0] τ) ∧
    (∀ (a0 : Nat) (a1 : Int32) (a2 : Int32) (x0 : Int32) (x1 : Nat) (τ : St), Ru M_H_canReadActs d Q 126 [some (.ref a0), some (.int a1), some (.int a2)] [.int x0, .ref x1] τ = Ru M_H_canReadActs d Q 128 [some (.ref a0), some (.int a1), some (.int a2)] [.int 9, .int x0, .ref x1] τ) ∧
    (∀ (a0 : Nat) (a1 : Int32) (a2 : Int32) (x0 : Int32) (x1 : Int32) (x2 : Nat) (τ : St), Ru M_H_canReadActs d Q 128 [some (.ref a0), some (.int a1), some (.int a2)] [.int x0, .int x1, .ref x2] τ = (isA 6 x2 ∧ Cl d m_Text_takeDigit [.ref x2, .int x1, .int x0] τ (fun v τ' => Ru M_H_canReadActs d Q 131 [some (.ref a0), some (.int a1), some (.int a2)] (v.toList ++ []) τ'))) ∧
    (∀ (a0 : Nat) (a1 : Int32) (a2 : Int32) (x0 : Int32) (τ : St), Ru M_H_canReadActs d Q 131 [some (.ref a0), some (.int a1), some (.int a2)] [.int x0] τ = Ru M_H_canReadActs d Q 132 [some (.ref a0), some (.int a1), some (.int a2)] [.int (-1), .int x0] τ) ∧
    (∀ (a0 : Nat) (a1 : Int32) (a2 : Int32) (x0 : Int32) (x1 : Int32) (τ : St), Ru M_H_canReadActs d Q 132 [some (.ref a0), some (.int a1), some (.int a2)] [.int x0, .int x1] τ = ((x1 = x0 → Ru M_H_canReadActs d Q 139 [some (.ref a0), some (.int a1), some (.int a2)] [] τ) ∧ (¬ x1 = x0 → Ru M_H_canReadActs d Q 135 [some (.ref a0), some (.int a1), some (.int a2)] [] τ))) ∧
    (∀ (a0 : Nat) (a1 : Int32) (a2 : Int32) (τ : St), Ru M_H_canReadActs d Q 135 [some (.ref a0), some (.int a1), some (.int a2)] [] τ = Ru M_H_canReadActs d Q 136 [some (.ref a0), some (.int a1), some (.int a2)] [.int 1] τ) ∧
    (∀ (a0 : Nat) (a1 : Int32) (a2 : Int32) (x0 : Int32) (τ : St), Ru M_H_canReadActs d Q 136 [some (.ref a0), some (.int a1), some (.int a2)] [.int x0] τ = Ru M_H_canReadActs d Q 140 [some (.ref a0), some (.int a1), some (.int a2)] [.int x0] τ) ∧
    (∀ (a0 : Nat) (a1 : Int32) (a2 : Int32) (τ : St), Ru M_H_canReadActs d Q 139 [some (.ref a0), some (.int a1), some (.int a2)] [] τ = Ru M_H_canReadActs d Q 140 [some (.ref a0), some (.int a1), some (.int a2)] [.int 0] τ) ∧
    (∀ (a0 : Nat) (a1 : Int32) (a2 : Int32) (x0 : Int32) (τ : St), Ru M_H_canReadActs d Q 140 [some (.ref a0), some (.int a1), some (.int a2)] [.int x0] τ = Ru M_H_canReadActs d Q 141 [some (.ref a0), some (.int a1), some (.int x0)] [] τ) ∧
    (∀ (a0 : Nat) (a1 : Int32) (a2 : Int32) (τ : St), Ru M_H_canReadActs d Q 141 [some (.ref a0), some (.int a1), some (.int a2)] [] τ = Ru M_H_canReadActs d Q 142 [some (.ref a0), some (.int a1), some (.int a2)] [.int a2] τ) ∧
    (∀ (a0 : Nat) (a1 : Int32) (a2 : Int32) (x0 : Int32) (τ : St), Ru M_H_canReadActs d Q 142 [some (.ref a0), some (.int a1), some (.int a2)] [.int x0] τ = ((¬ x0 = 0 → Ru M_H_canReadActs d Q 147 [some (.ref a0), some (.int a1), some (.int a2)] [] τ) ∧ (x0 = 0 → Ru M_H_canReadActs d Q 145 [some (.ref a0), some (.int a1), some (.int a2)] [] τ))) ∧
    (∀ (a0 : Nat) (a1 : Int32) (a2 : Int32) (τ : St), Ru M_H_canReadActs d Q 145 [some (.ref a0), some (.int a1), some (.int a2)] [] τ = Ru M_H_canReadActs d Q 146 [some (.ref a0), some (.int a1), some (.int a2)] [.int 0] τ) ∧
    (∀ (a0 : Nat) (a1 : Int32) (a2 : Int32) (x0 : Int32) (τ : St), Ru M_H_canReadActs d Q 146 [some (.ref a0), some (.int a1), some (.int a2)] [.int x0] τ = ((x0 = 0 ∨ x0 = 1) ∧ Q (some (.int x0)) τ)) ∧
    (∀ (a0 : Nat) (a1 : Int32) (a2 : Int32) (τ : St), Ru M_H_canReadActs d Q 147 [some (.ref a0), some (.int a1), some (.int a2)] [] τ = Ru M_H_canReadActs d Q 150 [some (.ref a0), some (.int (a1 + 1)), some (.int a2)] [] τ) ∧
    (∀ (a0 : Nat) (a1 : Int32) (a2 : Int32) (τ : St), Ru M_H_canReadActs d Q 150 [some (.ref a0), some (.int a1), some (.int a2)] [] τ = Rs M_H_canReadActs d Q 11 [some (.ref a0), some (.int a1), some (.int a2)] [] τ) ∧
    (∀ (a0 : Nat) (a1 : Int32) (a2 : Option Value) (τ : St), Ru M_H_canReadActs d Q 153 [some (.ref a0), some (.int a1), a2] [] τ = Ru M_H_canReadActs d Q 154 [some (.ref a0), some (.int a1), a2] [.ref a0] τ) ∧
    (∀ (a0 : Nat) (a1 : Int32) (a2 : Option Value) (x0 : Nat) (τ : St), Ru M_H_canReadActs d Q 154 [some (.ref a0), some (.int a1), a2] [.ref x0] τ = (isA 11 x0 ∧ Ru M_H_canReadActs d Q 157 [some (.ref a0), some (.int a1), a2] [.ref (rtab x0 0)] τ)) ∧
    (∀ (a0 : Nat) (a1 : Int32) (a2 : Option Value) (x0 : Nat) (τ : St), Ru M_H_canReadActs d Q 157 [some (.ref a0), some (.int a1), a2] [.ref x0] τ = (isA 6 x0 ∧ Cl d m_Text_finished [.ref x0] τ (fun v τ' => Ru M_H_canReadActs d Q 160 [some (.ref a0), some (.int a1), a2] (v.toList ++ []) τ'))) ∧
    (∀ (a0 : Nat) (a1 : Int32) (a2 : Option Value) (x0 : Int32) (τ : St), Ru M_H_canReadActs d Q 160 [some (.ref a0), some (.int a1), a2] [.int x0] τ = ((x0 = 0 ∨ x0 = 1) ∧ Q (some (.int x0)) τ)) := ⟨
  fun _ _ => (R_at ok_H_canReadActs rfl).trans (e_ald rfl),
  fun _ _ _ => (R_at ok_H_canReadActs rfl).trans e_gR,
  fun _ _ _ => (R_at ok_H_canReadActs rfl).trans e_push,
  fun _ x0 _ _ => (R_at ok_H_canReadActs rfl).trans (e_cv [.int x0] rfl rfl rfl),
  fun _ _ => (R_at ok_H_canReadActs rfl).trans e_push,
  fun _ _ _ => (R_at ok_H_canReadActs rfl).trans e_ist,
  fun _ _ _ _ => (R_at ok_H_canReadActs rfl).trans (e_ild rfl),
  fun _ _ _ _ _ => (R_at ok_H_canReadActs rfl).trans e_push,
  fun _ _ _ _ _ _ => (R_at ok_H_canReadActs rfl).trans e_ic,
  fun _ _ _ _ => (R_at ok_H_canReadActs rfl).trans (e_ald rfl),
  fun _ _ _ _ _ => (R_at ok_H_canReadActs rfl).trans e_gR,
  fun _ _ _ _ _ => (R_at ok_H_canReadActs rfl).trans (e_cv [] rfl rfl rfl),
  fun _ _ _ _ _ => (R_at ok_H_canReadActs rfl).trans e_ifn,
  fun _ _ _ _ => (R_at ok_H_canReadActs rfl).trans e_push,
  fun _ _ _ _ _ => (R_at ok_H_canReadActs rfl).trans e_ist,
  fun _ _ _ _ => (R_at ok_H_canReadActs rfl).trans (e_ald rfl),
  fun _ _ _ _ _ => (R_at ok_H_canReadActs rfl).trans e_gR,
  fun _ _ _ _ _ => (R_at ok_H_canReadActs rfl).trans e_push,
  fun _ _ _ x0 _ _ => (R_at ok_H_canReadActs rfl).trans (e_cv [.int x0] rfl rfl rfl),
  fun _ _ _ _ _ => (R_at ok_H_canReadActs rfl).trans e_if,
  fun _ _ _ _ => (R_at ok_H_canReadActs rfl).trans (e_ald rfl),
  fun _ _ _ _ _ => (R_at ok_H_canReadActs rfl).trans e_gR,
  fun _ _ _ _ _ => (R_at ok_H_canReadActs rfl).trans e_push,
  fun _ _ _ _ _ _ => (R_at ok_H_canReadActs rfl).trans e_push,
  fun _ _ _ x0 x1 _ _ => (R_at ok_H_canReadActs rfl).trans (e_cv [.int x1, .int x0] rfl rfl rfl),
  fun _ _ _ _ _ => (R_at ok_H_canReadActs rfl).trans e_push,
  fun _ _ _ _ _ _ => (R_at ok_H_canReadActs rfl).trans e_ic,
  fun _ _ _ _ => (R_at ok_H_canReadActs rfl).trans (e_ald rfl),
  fun _ _ _ _ _ => (R_at ok_H_canReadActs rfl).trans e_gR,
  fun _ _ _ _ _ => (R_at ok_H_canReadActs rfl).trans e_push,
  fun _ _ _ _ _ _ => (R_at ok_H_canReadActs rfl).trans e_push,
  fun _ _ _ x0 x1 _ _ => (R_at ok_H_canReadActs rfl).trans (e_cv [.int x1, .int x0] rfl rfl rfl),
  fun _ _ _ _ _ => (R_at ok_H_canReadActs rfl).trans e_push,
  fun _ _ _ _ _ _ => (R_at ok_H_canReadActs rfl).trans e_ic,
  fun _ _ _ _ => (R_at ok_H_canReadActs rfl).trans e_push,
  fun _ _ _ _ _ => (R_at ok_H_canReadActs rfl).trans e_goto,
  fun _ _ _ _ => (R_at ok_H_canReadActs rfl).trans e_push,
  fun _ _ _ _ _ => (R_at ok_H_canReadActs rfl).trans e_ist,
  fun _ _ _ _ => (R_at ok_H_canReadActs rfl).trans e_goto,
  fun _ _ _ _ => (R_at ok_H_canReadActs rfl).trans (e_ald rfl),
  fun _ _ _ _ _ => (R_at ok_H_canReadActs rfl).trans e_gR,
  fun _ _ _ _ _ => (R_at ok_H_canReadActs rfl).trans e_push,
  fun _ _ _ x0 _ _ => (R_at ok_H_canReadActs rfl).trans (e_cv [.int x0] rfl rfl rfl),
  fun _ _ _ _ _ => (R_at ok_H_canReadActs rfl).trans e_if,
  fun _ _ _ _ => (R_at ok_H_canReadActs rfl).trans (e_ald rfl),
  fun _ _ _ _ _ => (R_at ok_H_canReadActs rfl).trans e_gR,
  fun _ _ _ _ _ => (R_at ok_H_canReadActs rfl).trans (e_cv [] rfl rfl rfl),
  fun _ _ _ _ _ => (R_at ok_H_canReadActs rfl).trans e_push,
  fun _ _ _ _ _ _ => (R_at ok_H_canReadActs rfl).trans e_ic,
  fun _ _ _ _ => (R_at ok_H_canReadActs rfl).trans e_push,
  fun _ _ _ _ _ => (R_at ok_H_canReadActs rfl).trans e_goto,
  fun _ _ _ _ => (R_at ok_H_canReadActs rfl).trans e_push,
  fun _ _ _ _ _ => (R_at ok_H_canReadActs rfl).trans e_ist,
  fun _ _ _ _ => (R_at ok_H_canReadActs rfl).trans e_goto,
  fun _ _ _ _ => (R_at ok_H_canReadActs rfl).trans (e_ald rfl),
  fun _ _ _ _ _ => (R_at ok_H_canReadActs rfl).trans e_gR,
  fun _ _ _ _ _ => (R_at ok_H_canReadActs rfl).trans e_push,
  fun _ _ _ x0 _ _ => (R_at ok_H_canReadActs rfl).trans (e_cv [.int x0] rfl rfl rfl),
  fun _ _ _ _ _ => (R_at ok_H_canReadActs rfl).trans e_if,
  fun _ _ _ _ => (R_at ok_H_canReadActs rfl).trans (e_ald rfl),
  fun _ _ _ _ _ => (R_at ok_H_canReadActs rfl).trans e_gR,
  fun _ _ _ _ _ => (R_at ok_H_canReadActs rfl).trans e_push,
  fun _ _ _ _ _ _ => (R_at ok_H_canReadActs rfl).trans e_push,
  fun _ _ _ x0 x1 _ _ => (R_at ok_H_canReadActs rfl).trans (e_cv [.int x1, .int x0] rfl rfl rfl),
  fun _ _ _ _ _ => (R_at ok_H_canReadActs rfl).trans e_push,
  fun _ _ _ _ _ _ => (R_at ok_H_canReadActs rfl).trans e_ic,
  fun _ _ _ _ => (R_at ok_H_canReadActs rfl).trans e_push,
  fun _ _ _ _ _ => (R_at ok_H_canReadActs rfl).trans e_goto,
  fun _ _ _ _ => (R_at ok_H_canReadActs rfl).trans e_push,
  fun _ _ _ _ _ => (R_at ok_H_canReadActs rfl).trans e_ist,
  fun _ _ _ _ => (R_at ok_H_canReadActs rfl).trans (e_ild rfl),
  fun _ _ _ _ _ => (R_at ok_H_canReadActs rfl).trans e_ifn,
  fun _ _ _ _ => (R_at ok_H_canReadActs rfl).trans e_push,
  fun _ _ _ _ _ => (R_at ok_H_canReadActs rfl).trans e_zret,
  fun _ _ _ _ => (R_at ok_H_canReadActs rfl).trans (e_iinc rfl),
  fun _ _ _ _ => (R_at ok_H_canReadActs rfl).trans e_goto,
  fun _ _ _ _ => (R_at ok_H_canReadActs rfl).trans (e_ald rfl),
  fun _ _ _ _ _ => (R_at ok_H_canReadActs rfl).trans e_gR,
  fun _ _ _ _ _ => (R_at ok_H_canReadActs rfl).trans (e_cv [] rfl rfl rfl),
  fun _ _ _ _ _ => (R_at ok_H_canReadActs rfl).trans e_zret⟩
set_option maxHeartbeats 4000000 in
theorem N_H_doAct (d : Nat) (Q : Qt) : ∀ (x0 : Nat) (τ : St), Cl (d + 1) m_H_doAct [.ref x0] τ Q = Ru M_H_doAct d Q 0 [some (.ref x0), none] [] τ := fun _ _ => propext ⟨fun h => h.2, fun h => ⟨Nat.le_of_ble_eq_true rfl, h⟩⟩
set_option maxHeartbeats 4000000 in
theorem E_H_doAct (d : Nat) (Q : Qt) :
    (∀ (a0 : Nat) (τ : St), Ru M_H_doAct d Q 0 [some (.ref a0), none] [] τ = Ru M_H_doAct d Q 1 [some (.ref a0), none] [.ref a0] τ) ∧
    (∀ (a0 : Nat) (x0 : Nat) (τ : St), Ru M_H_doAct d Q 1 [some (.ref a0), none] [.ref x0] τ = (isA 11 x0 ∧ Ru M_H_doAct d Q 4 [some (.ref a0), none] [.ref (rtab x0 0)] τ)) ∧
    (∀ (a0 : Nat) (x0 : Nat) (τ : St), Ru M_H_doAct d Q 4 [some (.ref a0), none] [.ref x0] τ = Ru M_H_doAct d Q 6 [some (.ref a0), none] [.int 100, .ref x0] τ) ∧
    (∀ (a0 : Nat) (x0 : Int32) (x1 : Nat) (τ : St), Ru M_H_doAct d Q 6 [some (.ref a0), none] [.int x0, .ref x1] τ = (isA 6 x1 ∧ Cl d m_Text_takeSign [.ref x1, .int x0] τ (fun v τ' => Ru M_H_doAct d Q 9 [some (.ref a0), none] (v.toList ++ []) τ'))) ∧
    (∀ (a0 : Nat) (x0 : Int32) (τ : St), Ru M_H_doAct d Q 9 [some (.ref a0), none] [.int x0] τ = ((x0 = 0 → Ru M_H_doAct d Q 39 [some (.ref a0), none] [] τ) ∧ (¬ x0 = 0 → Ru M_H_doAct d Q 12 [some (.ref a0), none] [] τ))) ∧
    (∀ (a0 : Nat) (τ : St), Ru M_H_doAct d Q 12 [some (.ref a0), none] [] τ = Ru M_H_doAct d Q 13 [some (.ref a0), none] [.ref a0] τ) ∧
    (∀ (a0 : Nat) (x0 : Nat) (τ : St), Ru M_H_doAct d Q 13 [some (.ref a0), none] [.ref x0] τ = (isA 11 x0 ∧ Ru M_H_doAct d Q 16 [some (.ref a0), none] [.ref (rtab x0 0)] τ)) ∧
    (∀ (a0 : Nat) (x0 : Nat) (τ : St), Ru M_H_doAct d Q 16 [some (.ref a0), none] [.ref x0] τ = Ru M_H_doAct d Q 17 [some (.ref a0), none] [.int 0, .ref x0] τ) ∧
    (∀ (a0 : Nat) (x0 : Int32) (x1 : Nat) (τ : St), Ru M_H_doAct d Q 17 [some (.ref a0), none] [.int x0, .ref x1] τ = Ru M_H_doAct d Q 19 [some (.ref a0), none] [.int 9, .int x0, .ref x1] τ) ∧
    (∀ (a0 : Nat) (x0 : Int32) (x1 : Int32) (x2 : Nat) (τ : St), Ru M_H_doAct d Q 19 [some (.ref a0), none] [.int x0, .int x1, .ref x2] τ = (isA 6 x2 ∧ Cl d m_Text_takeDigit [.ref x2, .int x1, .int x0] τ (fun v τ' => Ru M_H_doAct d Q 22 [some (.ref a0), none] (v.toList ++ []) τ'))) ∧
    (∀ (a0 : Nat) (x0 : Int32) (τ : St), Ru M_H_doAct d Q 22 [some (.ref a0), none] [.int x0] τ = Ru M_H_doAct d Q 23 [some (.ref a0), some (.int x0)] [] τ) ∧
    (∀ (a0 : Nat) (a1 : Int32) (τ : St), Ru M_H_doAct d Q 23 [some (.ref a0), some (.int a1)] [] τ = Ru M_H_doAct d Q 24 [some (.ref a0), some (.int a1)] [.ref a0] τ) ∧
    (∀ (a0 : Nat) (a1 : Int32) (x0 : Nat) (τ : St), Ru M_H_doAct d Q 24 [some (.ref a0), some (.int a1)] [.ref x0] τ = Ru M_H_doAct d Q 25 [some (.ref a0), some (.int a1)] [.int a1, .ref x0] τ) ∧
    (∀ (a0 : Nat) (a1 : Int32) (x0 : Int32) (x1 : Nat) (τ : St), Ru M_H_doAct d Q 25 [some (.ref a0), some (.int a1)] [.int x0, .ref x1] τ = Ru M_H_doAct d Q 26 [some (.ref a0), some (.int a1)] [.ref a0, .int x0, .ref x1] τ) ∧
    (∀ (a0 : Nat) (a1 : Int32) (x0 : Nat) (x1 : Int32) (x2 : Nat) (τ : St), Ru M_H_doAct d Q 26 [some (.ref a0), some (.int a1)] [.ref x0, .int x1, .ref x2] τ = (isA 11 x0 ∧ Ru M_H_doAct d Q 29 [some (.ref a0), some (.int a1)] [.ref (rtab x0 0), .int x1, .ref x2] τ)) ∧
    (∀ (a0 : Nat) (a1 : Int32) (x0 : Nat) (x1 : Int32) (x2 : Nat) (τ : St), Ru M_H_doAct d Q 29 [some (.ref a0), some (.int a1)] [.ref x0, .int x1, .ref x2] τ = Ru M_H_doAct d Q 30 [some (.ref a0), some (.int a1)] [.int 0, .ref x0, .int x1, .ref x2] τ) ∧
    (∀ (a0 : Nat) (a1 : Int32) (x0 : Int32) (x1 : Nat) (x2 : Int32) (x3 : Nat) (τ : St), Ru M_H_doAct d Q 30 [some (.ref a0), some (.int a1)] [.int x0, .ref x1, .int x2, .ref x3] τ = Ru M_H_doAct d Q 32 [some (.ref a0), some (.int a1)] [.int 9, .int x0, .ref x1, .int x2, .ref x3] τ) ∧
    (∀ (a0 : Nat) (a1 : Int32) (x0 : Int32) (x1 : Int32) (x2 : Nat) (x3 : Int32) (x4 : Nat) (τ : St), Ru M_H_doAct d Q 32 [some (.ref a0), some (.int a1)] [.int x0, .int x1, .ref x2, .int x3, .ref x4] τ = (isA 6 x2 ∧ Cl d m_Text_takeDigit [.ref x2, .int x1, .int x0] τ (fun v τ' => Ru M_H_doAct d Q 35 [some (.ref a0), some (.int a1)] (v.toList ++ [.int x3, .ref x4]) τ'))) ∧
    (∀ (a0 : Nat) (a1 : Int32) (x0 : Int32) (x1 : Int32) (x2 : Nat) (τ : St), Ru M_H_doAct d Q 35 [some (.ref a0), some (.int a1)] [.int x0, .int x1, .ref x2] τ = (isA 11 x2 ∧ Cl d m_H_dragShip [.ref x2, .int x1, .int x0] τ (fun v τ' => Ru M_H_doAct d Q 38 [some (.ref a0), some (.int a1)] (v.toList ++ []) τ'))) ∧
    (∀ (a0 : Nat) (a1 : Int32) (x0 : Int32) (τ : St), Ru M_H_doAct d Q 38 [some (.ref a0), some (.int a1)] [.int x0] τ = Q (some (.int x0)) τ) ∧
    (∀ (a0 : Nat) (τ : St), Ru M_H_doAct d Q 39 [some (.ref a0), none] [] τ = Ru M_H_doAct d Q 40 [some (.ref a0), none] [.ref a0] τ) ∧
    (∀ (a0 : Nat) (x0 : Nat) (τ : St), Ru M_H_doAct d Q 40 [some (.ref a0), none] [.ref x0] τ = (isA 11 x0 ∧ Ru M_H_doAct d Q 43 [some (.ref a0), none] [.ref (rtab x0 0)] τ)) ∧
    (∀ (a0 : Nat) (x0 : Nat) (τ : St), Ru M_H_doAct d Q 43 [some (.ref a0), none] [.ref x0] τ = Ru M_H_doAct d Q 45 [some (.ref a0), none] [.int 112, .ref x0] τ) ∧
    (∀ (a0 : Nat) (x0 : Int32) (x1 : Nat) (τ : St), Ru M_H_doAct d Q 45 [some (.ref a0), none] [.int x0, .ref x1] τ = (isA 6 x1 ∧ Cl d m_Text_takeSign [.ref x1, .int x0] τ (fun v τ' => Ru M_H_doAct d Q 48 [some (.ref a0), none] (v.toList ++ []) τ'))) ∧
    (∀ (a0 : Nat) (x0 : Int32) (τ : St), Ru M_H_doAct d Q 48 [some (.ref a0), none] [.int x0] τ = ((x0 = 0 → Ru M_H_doAct d Q 63 [some (.ref a0), none] [] τ) ∧ (¬ x0 = 0 → Ru M_H_doAct d Q 51 [some (.ref a0), none] [] τ))) ∧
    (∀ (a0 : Nat) (τ : St), Ru M_H_doAct d Q 51 [some (.ref a0), none] [] τ = Ru M_H_doAct d Q 52 [some (.ref a0), none] [.ref a0] τ) ∧
    (∀ (a0 : Nat) (x0 : Nat) (τ : St), Ru M_H_doAct d Q 52 [some (.ref a0), none] [.ref x0] τ = Ru M_H_doAct d Q 53 [some (.ref a0), none] [.ref a0, .ref x0] τ) ∧
    (∀ (a0 : Nat) (x0 : Nat) (x1 : Nat) (τ : St), Ru M_H_doAct d Q 53 [some (.ref a0), none] [.ref x0, .ref x1] τ = (isA 11 x0 ∧ Ru M_H_doAct d Q 56 [some (.ref a0), none] [.ref (rtab x0 0), .ref x1] τ)) ∧
    (∀ (a0 : Nat) (x0 : Nat) (x1 : Nat) (τ : St), Ru M_H_doAct d Q 56 [some (.ref a0), none] [.ref x0, .ref x1] τ = (isA 6 x0 ∧ Cl d m_Text_takeTwoDigits [.ref x0] τ (fun v τ' => Ru M_H_doAct d Q 59 [some (.ref a0), none] (v.toList ++ [.ref x1]) τ'))) ∧
    (∀ (a0 : Nat) (x0 : Int32) (x1 : Nat) (τ : St), Ru M_H_doAct d Q 59 [some (.ref a0), none] [.int x0, .ref x1] τ = (isA 11 x1 ∧ Cl d m_H_turnPlanks [.ref x1, .int x0] τ (fun v τ' => Ru M_H_doAct d Q 62 [some (.ref a0), none] (v.toList ++ []) τ'))) ∧
    (∀ (a0 : Nat) (x0 : Int32) (τ : St), Ru M_H_doAct d Q 62 [some (.ref a0), none] [.int x0] τ = Q (some (.int x0)) τ) ∧
    (∀ (a0 : Nat) (τ : St), Ru M_H_doAct d Q 63 [some (.ref a0), none] [] τ = Ru M_H_doAct d Q 64 [some (.ref a0), none] [.ref a0] τ) ∧
    (∀ (a0 : Nat) (x0 : Nat) (τ : St), Ru M_H_doAct d Q 64 [some (.ref a0), none] [.ref x0] τ = (isA 11 x0 ∧ Ru M_H_doAct d Q 67 [some (.ref a0), none] [.ref (rtab x0 0)] τ)) ∧
    (∀ (a0 : Nat) (x0 : Nat) (τ : St), Ru M_H_doAct d Q 67 [some (.ref a0), none] [.ref x0] τ = Ru M_H_doAct d Q 69 [some (.ref a0), none] [.int 104, .ref x0] τ) ∧
    (∀ (a0 : Nat) (x0 : Int32) (x1 : Nat) (τ : St), Ru M_H_doAct d Q 69 [some (.ref a0), none] [.int x0, .ref x1] τ = (isA 6 x1 ∧ Cl d m_Text_takeSign [.ref x1, .int x0] τ (fun v τ' => Ru M_H_doAct d Q 72 [some (.ref a0), none] (v.toList ++ []) τ'))) ∧
    (∀ (a0 : Nat) (x0 : Int32) (τ : St), Ru M_H_doAct d Q 72 [some (.ref a0), none] [.int x0] τ = ((x0 = 0 → Ru M_H_doAct d Q 92 [some (.ref a0), none] [] τ) ∧ (¬ x0 = 0 → Ru M_H_doAct d Q 75 [some (.ref a0), none] [] τ))) ∧
    (∀ (a0 : Nat) (τ : St), Ru M_H_doAct d Q 75 [some (.ref a0), none] [] τ = Ru M_H_doAct d Q 76 [some (.ref a0), none] [.ref a0] τ) ∧
    (∀ (a0 : Nat) (x0 : Nat) (τ : St), Ru M_H_doAct d Q 76 [some (.ref a0), none] [.ref x0] τ = Ru M_H_doAct d Q 77 [some (.ref a0), none] [.ref a0, .ref x0] τ) ∧
    (∀ (a0 : Nat) (x0 : Nat) (x1 : Nat) (τ : St), Ru M_H_doAct d Q 77 [some (.ref a0), none] [.ref x0, .ref x1] τ = (isA 11 x0 ∧ Ru M_H_doAct d Q 80 [some (.ref a0), none] [.ref (rtab x0 0), .ref x1] τ)) ∧
    (∀ (a0 : Nat) (x0 : Nat) (x1 : Nat) (τ : St), Ru M_H_doAct d Q 80 [some (.ref a0), none] [.ref x0, .ref x1] τ = Ru M_H_doAct d Q 81 [some (.ref a0), none] [.int 0, .ref x0, .ref x1] τ) ∧
    (∀ (a0 : Nat) (x0 : Int32) (x1 : Nat) (x2 : Nat) (τ : St), Ru M_H_doAct d Q 81 [some (.ref a0), none] [.int x0, .ref x1, .ref x2] τ = Ru M_H_doAct d Q 83 [some (.ref a0), none] [.int 9, .int x0, .ref x1, .ref x2] τ) ∧
    (∀ (a0 : Nat) (x0 : Int32) (x1 : Int32) (x2 : Nat) (x3 : Nat) (τ : St), Ru M_H_doAct d Q 83 [some (.ref a0), none] [.int x0, .int x1, .ref x2, .ref x3] τ = (isA 6 x2 ∧ Cl d m_Text_takeDigit [.ref x2, .int x1, .int x0] τ (fun v τ' => Ru M_H_doAct d Q 86 [some (.ref a0), none] (v.toList ++ [.ref x3]) τ'))) ∧
    (∀ (a0 : Nat) (x0 : Int32) (x1 : Nat) (τ : St), Ru M_H_doAct d Q 86 [some (.ref a0), none] [.int x0, .ref x1] τ = Ru M_H_doAct d Q 88 [some (.ref a0), none] [.int 9, .int x0, .ref x1] τ) ∧
    (∀ (a0 : Nat) (x0 : Int32) (x1 : Int32) (x2 : Nat) (τ : St), Ru M_H_doAct d Q 88 [some (.ref a0), none] [.int x0, .int x1, .ref x2] τ = (isA 11 x2 ∧ Cl d m_H_letPass [.ref x2, .int x1, .int x0] τ (fun v τ' => Ru M_H_doAct d Q 91 [some (.ref a0), none] (v.toList ++ []) τ'))) ∧
    (∀ (a0 : Nat) (x0 : Int32) (τ : St), Ru M_H_doAct d Q 91 [some (.ref a0), none] [.int x0] τ = Q (some (.int x0)) τ) ∧
    (∀ (a0 : Nat) (τ : St), Ru M_H_doAct d Q 92 [some (.ref a0), none] [] τ = Ru M_H_doAct d Q 93 [some (.ref a0), none] [.int (-1)] τ) ∧
    (∀ (a0 : Nat) (x0 : Int32) (τ : St), Ru M_H_doAct d Q 93 [some (.ref a0), none] [.int x0] τ = Q (some (.int x0)) τ) := ⟨
  fun _ _ => (R_at ok_H_doAct rfl).trans (e_ald rfl),
  fun _ _ _ => (R_at ok_H_doAct rfl).trans e_gR,
  fun _ _ _ => (R_at ok_H_doAct rfl).trans e_push,
  fun _ x0 _ _ => (R_at ok_H_doAct rfl).trans (e_cv [.int x0] rfl rfl rfl),
  fun _ _ _ => (R_at ok_H_doAct rfl).trans e_if,
  fun _ _ => (R_at ok_H_doAct rfl).trans (e_ald rfl),
  fun _ _ _ => (R_at ok_H_doAct rfl).trans e_gR,
  fun _ _ _ => (R_at ok_H_doAct rfl).trans e_push,
  fun _ _ _ _ => (R_at ok_H_doAct rfl).trans e_push,
  fun _ x0 x1 _ _ => (R_at ok_H_doAct rfl).trans (e_cv [.int x1, .int x0] rfl rfl rfl),
  fun _ _ _ => (R_at ok_H_doAct rfl).trans e_ist,
  fun _ _ _ => (R_at ok_H_doAct rfl).trans (e_ald rfl),
  fun _ _ _ _ => (R_at ok_H_doAct rfl).trans (e_ild rfl),
  fun _ _ _ _ _ => (R_at ok_H_doAct rfl).trans (e_ald rfl),
  fun _ _ _ _ _ _ => (R_at ok_H_doAct rfl).trans e_gR,
  fun _ _ _ _ _ _ => (R_at ok_H_doAct rfl).trans e_push,
  fun _ _ _ _ _ _ _ => (R_at ok_H_doAct rfl).trans e_push,
  fun _ _ x0 x1 _ _ _ _ => (R_at ok_H_doAct rfl).trans (e_cv [.int x1, .int x0] rfl rfl rfl),
  fun _ _ x0 x1 _ _ => (R_at ok_H_doAct rfl).trans (e_cv [.int x1, .int x0] rfl rfl rfl),
  fun _ _ _ _ => (R_at ok_H_doAct rfl).trans e_iret,
  fun _ _ => (R_at ok_H_doAct rfl).trans (e_ald rfl),
  fun _ _ _ => (R_at ok_H_doAct rfl).trans e_gR,
  fun _ _ _ => (R_at ok_H_doAct rfl).trans e_push,
  fun _ x0 _ _ => (R_at ok_H_doAct rfl).trans (e_cv [.int x0] rfl rfl rfl),
  fun _ _ _ => (R_at ok_H_doAct rfl).trans e_if,
  fun _ _ => (R_at ok_H_doAct rfl).trans (e_ald rfl),
  fun _ _ _ => (R_at ok_H_doAct rfl).trans (e_ald rfl),
  fun _ _ _ _ => (R_at ok_H_doAct rfl).trans e_gR,
  fun _ _ _ _ => (R_at ok_H_doAct rfl).trans (e_cv [] rfl rfl rfl),
  fun _ x0 _ _ => (R_at ok_H_doAct rfl).trans (e_cv [.int x0] rfl rfl rfl),
  fun _ _ _ => (R_at ok_H_doAct rfl).trans e_iret,
  fun _ _ => (R_at ok_H_doAct rfl).trans (e_ald rfl),
  fun _ _ _ => (R_at ok_H_doAct rfl).trans e_gR,
  fun _ _ _ => (R_at ok_H_doAct rfl).trans e_push,
  fun _ x0 _ _ => (R_at ok_H_doAct rfl).trans (e_cv [.int x0] rfl rfl rfl),
  fun _ _ _ => (R_at ok_H_doAct rfl).trans e_if,
  fun _ _ => (R_at ok_H_doAct rfl).trans (e_ald rfl),
  fun _ _ _ => (R_at ok_H_doAct rfl).trans (e_ald rfl),
  fun _ _ _ _ => (R_at ok_H_doAct rfl).trans e_gR,
  fun _ _ _ _ => (R_at ok_H_doAct rfl).trans e_push,
  fun _ _ _ _ _ => (R_at ok_H_doAct rfl).trans e_push,
  fun _ x0 x1 _ _ _ => (R_at ok_H_doAct rfl).trans (e_cv [.int x1, .int x0] rfl rfl rfl),
  fun _ _ _ _ => (R_at ok_H_doAct rfl).trans e_push,
  fun _ x0 x1 _ _ => (R_at ok_H_doAct rfl).trans (e_cv [.int x1, .int x0] rfl rfl rfl),
  fun _ _ _ => (R_at ok_H_doAct rfl).trans e_iret,
  fun _ _ => (R_at ok_H_doAct rfl).trans e_push,
  fun _ _ _ => (R_at ok_H_doAct rfl).trans e_iret⟩
set_option maxHeartbeats 4000000 in
theorem N_H_undo (d : Nat) (Q : Qt) : ∀ (x0 : Nat) (τ : St), Cl (d + 1) m_H_undo [.ref x0] τ Q = Ru M_H_undo d Q 0 [some (.ref x0)] [] τ := fun _ _ => propext ⟨fun h => h.2, fun h => ⟨Nat.le_of_ble_eq_true rfl, h⟩⟩
set_option maxHeartbeats 4000000 in
theorem E_H_undo (d : Nat) (Q : Qt) :
    (∀ (a0 : Nat) (τ : St), Ru M_H_undo d Q 0 [some (.ref a0)] [] τ = Ru M_H_undo d Q 1 [some (.ref a0)] [.ref a0] τ) ∧
    (∀ (a0 : Nat) (x0 : Nat) (τ : St), Ru M_H_undo d Q 1 [some (.ref a0)] [.ref x0] τ = (isA 11 x0 ∧ Ru M_H_undo d Q 4 [some (.ref a0)] [.ref (rtab x0 5)] τ)) ∧
    (∀ (a0 : Nat) (x0 : Nat) (τ : St), Ru M_H_undo d Q 4 [some (.ref a0)] [.ref x0] τ = Ru M_H_undo d Q 5 [some (.ref a0)] [.ref a0, .ref x0] τ) ∧
    (∀ (a0 : Nat) (x0 : Nat) (x1 : Nat) (τ : St), Ru M_H_undo d Q 5 [some (.ref a0)] [.ref x0, .ref x1] τ = (isA 11 x0 ∧ Ru M_H_undo d Q 8 [some (.ref a0)] [.ref (rtab x0 3), .ref x1] τ)) ∧
    (∀ (a0 : Nat) (x0 : Nat) (x1 : Nat) (τ : St), Ru M_H_undo d Q 8 [some (.ref a0)] [.ref x0, .ref x1] τ = (isA 2 x1 ∧ Cl d m_Past_stepBack [.ref x1, .ref x0] τ (fun v τ' => Ru M_H_undo d Q 11 [some (.ref a0)] (v.toList ++ []) τ'))) ∧
    (∀ (a0 : Nat) (x0 : Int32) (τ : St), Ru M_H_undo d Q 11 [some (.ref a0)] [.int x0] τ = ((x0 = 0 → Ru M_H_undo d Q 24 [some (.ref a0)] [] τ) ∧ (¬ x0 = 0 → Ru M_H_undo d Q 14 [some (.ref a0)] [] τ))) ∧
    (∀ (a0 : Nat) (τ : St), Ru M_H_undo d Q 14 [some (.ref a0)] [] τ = Ru M_H_undo d Q 15 [some (.ref a0)] [.ref a0] τ) ∧
    (∀ (a0 : Nat) (x0 : Nat) (τ : St), Ru M_H_undo d Q 15 [some (.ref a0)] [.ref x0] τ = (isA 11 x0 ∧ Ru M_H_undo d Q 18 [some (.ref a0)] [.ref (rtab x0 5)] τ)) ∧
    (∀ (a0 : Nat) (x0 : Nat) (τ : St), Ru M_H_undo d Q 18 [some (.ref a0)] [.ref x0] τ = (isA 2 x0 ∧ Ru M_H_undo d Q 21 [some (.ref a0)] [.int (τ.1 x0 2)] τ)) ∧
    (∀ (a0 : Nat) (x0 : Int32) (τ : St), Ru M_H_undo d Q 21 [some (.ref a0)] [.int x0] τ = Ru M_H_undo d Q 25 [some (.ref a0)] [.int x0] τ) ∧
    (∀ (a0 : Nat) (τ : St), Ru M_H_undo d Q 24 [some (.ref a0)] [] τ = Ru M_H_undo d Q 25 [some (.ref a0)] [.int (-1)] τ) ∧
    (∀ (a0 : Nat) (x0 : Int32) (τ : St), Ru M_H_undo d Q 25 [some (.ref a0)] [.int x0] τ = Q (some (.int x0)) τ) := ⟨
  fun _ _ => (R_at ok_H_undo rfl).trans (e_ald rfl),
  fun _ _ _ => (R_at ok_H_undo rfl).trans e_gR,
  fun _ _ _ => (R_at ok_H_undo rfl).trans (e_ald rfl),
  fun _ _ _ _ => (R_at ok_H_undo rfl).trans e_gR,
  fun _ x0 _ _ => (R_at ok_H_undo rfl).trans (e_cv [.ref x0] rfl rfl rfl),
  fun _ _ _ => (R_at ok_H_undo rfl).trans e_if,
  fun _ _ => (R_at ok_H_undo rfl).trans (e_ald rfl),
  fun _ _ _ => (R_at ok_H_undo rfl).trans e_gR,
  fun _ _ _ => (R_at ok_H_undo rfl).trans e_gI,
  fun _ _ _ => (R_at ok_H_undo rfl).trans e_goto,
  fun _ _ => (R_at ok_H_undo rfl).trans e_push,
  fun _ _ _ => (R_at ok_H_undo rfl).trans e_iret⟩
set_option maxHeartbeats 4000000 in
theorem N_H_way (d : Nat) (Q : Qt) : ∀ (x0 : Nat) (x1 : Int32) (x2 : Int32) (x3 : Int32) (τ : St), Cl (d + 1) m_H_way [.ref x0, .int x1, .int x2, .int x3] τ Q = Ru M_H_way d Q 0 [some (.ref x0), some (.int x1), some (.int x2), some (.int x3), none, none] [] τ := fun _ _ _ _ _ => propext ⟨fun h => h.2, fun h => ⟨Nat.le_of_ble_eq_true rfl, h⟩⟩
set_option maxHeartbeats 4000000 in
theorem E_H_way (d : Nat) (Q : Qt) :
    (∀ (a0 : Nat) (a1 : Int32) (a2 : Int32) (a3 : Int32) (τ : St), Ru M_H_way d Q 0 [some (.ref a0), some (.int a1), some (.int a2), some (.int a3), none, none] [] τ = Ru M_H_way d Q 1 [some (.ref a0), some (.int a1), some (.int a2), some (.int a3), none, none] [.ref a0] τ) ∧
    (∀ (a0 : Nat) (a1 : Int32) (a2 : Int32) (a3 : Int32) (x0 : Nat) (τ : St), Ru M_H_way d Q 1 [some (.ref a0), some (.int a1), some (.int a2), some (.int a3), none, none] [.ref x0] τ = Ru M_H_way d Q 2 [some (.ref a0), some (.int a1), some (.int a2), some (.int a3), none, none] [.int a1, .ref x0] τ) ∧
    (∀ (a0 : Nat) (a1 : Int32) (a2 : Int32) (a3 : Int32) (x0 : Int32) (x1 : Nat) (τ : St), Ru M_H_way d Q 2 [some (.ref a0), some (.int a1), some (.int a2), some (.int a3), none, none] [.int x0, .ref x1] τ = Ru M_H_way d Q 3 [some (.ref a0), some (.int a1), some (.int a2), some (.int a3), none, none] [.int a2, .int x0, .ref x1] τ) ∧
    (∀ (a0 : Nat) (a1 : Int32) (a2 : Int32) (a3 : Int32) (x0 : Int32) (x1 : Int32) (x2 : Nat) (τ : St), Ru M_H_way d Q 3 [some (.ref a0), some (.int a1), some (.int a2), some (.int a3), none, none] [.int x0, .int x1, .ref x2] τ = Ru M_H_way d Q 4 [some (.ref a0), some (.int a1), some (.int a2), some (.int a3), none, none] [.int a3, .int x0, .int x1, .ref x2] τ) ∧
    (∀ (a0 : Nat) (a1 : Int32) (a2 : Int32) (a3 : Int32) (x0 : Int32) (x1 : Int32) (x2 : Int32) (x3 : Nat) (τ : St), Ru M_H_way d Q 4 [some (.ref a0), some (.int a1), some (.int a2), some (.int a3), none, none] [.int x0, .int x1, .int x2, .ref x3] τ = (isA 11 x3 ∧ Cl d m_H_whyNoWay [.ref x3, .int x2, .int x1, .int x0] τ (fun v τ' => Ru M_H_way d Q 7 [some (.ref a0), some (.int a1), some (.int a2), some (.int a3), none, none] (v.toList ++ []) τ'))) ∧
    (∀ (a0 : Nat) (a1 : Int32) (a2 : Int32) (a3 : Int32) (x0 : Int32) (τ : St), Ru M_H_way d Q 7 [some (.ref a0), some (.int a1), some (.int a2), some (.int a3), none, none] [.int x0] τ = Ru M_H_way d Q 9 [some (.ref a0), some (.int a1), some (.int a2), some (.int a3), some (.int x0), none] [] τ) ∧
    (∀ (a0 : Nat) (a1 : Int32) (a2 : Int32) (a3 : Int32) (a4 : Int32) (τ : St), Ru M_H_way d Q 9 [some (.ref a0), some (.int a1), some (.int a2), some (.int a3), some (.int a4), none] [] τ = Ru M_H_way d Q 11 [some (.ref a0), some (.int a1), some (.int a2), some (.int a3), some (.int a4), none] [.int a4] τ) ∧
    (∀ (a0 : Nat) (a1 : Int32) (a2 : Int32) (a3 : Int32) (a4 : Int32) (x0 : Int32) (τ : St), Ru M_H_way d Q 11 [some (.ref a0), some (.int a1), some (.int a2), some (.int a3), some (.int a4), none] [.int x0] τ = ((x0 = 0 → Ru M_H_way d Q 17 [some (.ref a0), some (.int a1), some (.int a2), some (.int a3), some (.int a4), none] [] τ) ∧ (¬ x0 = 0 → Ru M_H_way d Q 14 [some (.ref a0), some (.int a1), some (.int a2), some (.int a3), some (.int a4), none] [] τ))) ∧
    (∀ (a0 : Nat) (a1 : Int32) (a2 : Int32) (a3 : Int32) (a4 : Int32) (τ : St), Ru M_H_way d Q 14 [some (.ref a0), some (.int a1), some (.int a2), some (.int a3), some (.int a4), none] [] τ = Ru M_H_way d Q 16 [some (.ref a0), some (.int a1), some (.int a2), some (.int a3), some (.int a4), none] [.int a4] τ) ∧
    (∀ (a0 : Nat) (a1 : Int32) (a2 : Int32) (a3 : Int32) (a4 : Int32) (x0 : Int32) (τ : St), Ru M_H_way d Q 16 [some (.ref a0), some (.int a1), some (.int a2), some (.int a3), some (.int a4), none] [.int x0] τ = Q (some (.int x0)) τ) ∧
    (∀ (a0 : Nat) (a1 : Int32) (a2 : Int32) (a3 : Int32) (a4 : Int32) (τ : St), Ru M_H_way d Q 17 [some (.ref a0), some (.int a1), some (.int a2), some (.int a3), some (.int a4), none] [] τ = Ru M_H_way d Q 18 [some (.ref a0), some (.int a1), some (.int a2), some (.int a3), some (.int a4), none] [.ref a0] τ) ∧
    (∀ (a0 : Nat) (a1 : Int32) (a2 : Int32) (a3 : Int32) (a4 : Int32) (x0 : Nat) (τ : St), Ru M_H_way d Q 18 [some (.ref a0), some (.int a1), some (.int a2), some (.int a3), some (.int a4), none] [.ref x0] τ = Ru M_H_way d Q 19 [some (.ref a0), some (.int a1), some (.int a2), some (.int a3), some (.int a4), none] [.int a1, .ref x0] τ) ∧
    (∀ (a0 : Nat) (a1 : Int32) (a2 : Int32) (a3 : Int32) (a4 : Int32) (x0 : Int32) (x1 : Nat) (τ : St), Ru M_H_way d Q 19 [some (.ref a0), some (.int a1), some (.int a2), some (.int a3), some (.int a4), none] [.int x0, .ref x1] τ = (isA 11 x1 ∧ Cl d m_H_startWays [.ref x1, .int x0] τ (fun v τ' => Ru M_H_way d Q 22 [some (.ref a0), some (.int a1), some (.int a2), some (.int a3), some (.int a4), none] (v.toList ++ []) τ'))) ∧
    (∀ (a0 : Nat) (a1 : Int32) (a2 : Int32) (a3 : Int32) (a4 : Int32) (τ : St), Ru M_H_way d Q 22 [some (.ref a0), some (.int a1), some (.int a2), some (.int a3), some (.int a4), none] [] τ = Ru M_H_way d Q 23 [some (.ref a0), some (.int a1), some (.int a2), some (.int a3), some (.int a4), none] [.ref a0] τ) ∧
    (∀ (a0 : Nat) (a1 : Int32) (a2 : Int32) (a3 : Int32) (a4 : Int32) (x0 : Nat) (τ : St), Ru M_H_way d Q 23 [some (.ref a0), some (.int a1), some (.int a2), some (.int a3), some (.int a4), none] [.ref x0] τ = (isA 11 x0 ∧ Ru M_H_way d Q 26 [some (.ref a0), some (.int a1), some (.int a2), some (.int a3), some (.int a4), none] [.ref (rtab x0 12)] τ)) ∧
    (∀ (a0 : Nat) (a1 : Int32) (a2 : Int32) (a3 : Int32) (a4 : Int32) (x0 : Nat) (τ : St), Ru M_H_way d Q 26 [some (.ref a0), some (.int a1), some (.int a2), some (.int a3), some (.int a4), none] [.ref x0] τ = Ru M_H_way d Q 27 [some (.ref a0), some (.int a1), some (.int a2), some (.int a3), some (.int a4), none] [.long 1, .ref x0] τ) ∧
    (∀ (a0 : Nat) (a1 : Int32) (a2 : Int32) (a3 : Int32) (a4 : Int32) (x0 : Int64) (x1 : Nat) (τ : St), Ru M_H_way d Q 27 [some (.ref a0), some (.int a1), some (.int a2), some (.int a3), some (.int a4), none] [.long x0, .ref x1] τ = Ru M_H_way d Q 28 [some (.ref a0), some (.int a1), some (.int a2), some (.int a3), some (.int a4), none] [.int a2, .long x0, .ref x1] τ) ∧
    (∀ (a0 : Nat) (a1 : Int32) (a2 : Int32) (a3 : Int32) (a4 : Int32) (x0 : Int32) (x1 : Int64) (x2 : Nat) (τ : St), Ru M_H_way d Q 28 [some (.ref a0), some (.int a1), some (.int a2), some (.int a3), some (.int a4), none] [.int x0, .long x1, .ref x2] τ = Ru M_H_way d Q 29 [some (.ref a0), some (.int a1), some (.int a2), some (.int a3), some (.int a4), none] [.long (x1 <<< (x0.toInt64 &&& 63)), .ref x2] τ) ∧
    (∀ (a0 : Nat) (a1 : Int32) (a2 : Int32) (a3 : Int32) (a4 : Int32) (x0 : Int64) (x1 : Nat) (τ : St), Ru M_H_way d Q 29 [some (.ref a0), some (.int a1), some (.int a2), some (.int a3), some (.int a4), none] [.long x0, .ref x1] τ = Ru M_H_way d Q 30 [some (.ref a0), some (.int a1), some (.int a2), some (.int a3), some (.int a4), none] [.long 1, .long x0, .ref x1] τ) ∧
    (∀ (a0 : Nat) (a1 : Int32) (a2 : Int32) (a3 : Int32) (a4 : Int32) (x0 : Int64) (x1 : Int64) (x2 : Nat) (τ : St), Ru M_H_way d Q 30 [some (.ref a0), some (.int a1), some (.int a2), some (.int a3), some (.int a4), none] [.long x0, .long x1, .ref x2] τ = Ru M_H_way d Q 31 [some (.ref a0), some (.int a1), some (.int a2), some (.int a3), some (.int a4), none] [.int a3, .long x0, .long x1, .ref x2] τ) ∧
    (∀ (a0 : Nat) (a1 : Int32) (a2 : Int32) (a3 : Int32) (a4 : Int32) (x0 : Int32) (x1 : Int64) (x2 : Int64) (x3 : Nat) (τ : St), Ru M_H_way d Q 31 [some (.ref a0), some (.int a1), some (.int a2), some (.int a3), some (.int a4), none] [.int x0, .long x1, .long x2, .ref x3] τ = Ru M_H_way d Q 32 [some (.ref a0), some (.int a1), some (.int a2), some (.int a3), some (.int a4), none] [.long (x1 <<< (x0.toInt64 &&& 63)), .long x2, .ref x3] τ) ∧
    (∀ (a0 : Nat) (a1 : Int32) (a2 : Int32) (a3 : Int32) (a4 : Int32) (x0 : Int64) (x1 : Int64) (x2 : Nat) (τ : St), Ru M_H_way d Q 32 [some (.ref a0), some (.int a1), some (.int a2), some (.int a3), some (.int a4), none] [.long x0, .long x1, .ref x2] τ = (isA 10 x2 ∧ Cl d m_Ways_leastMost [.ref x2, .long x1, .long x0] τ (fun v τ' => Ru M_H_way d Q 35 [some (.ref a0), some (.int a1), some (.int a2), some (.int a3), some (.int a4), none] (v.toList ++ []) τ'))) ∧
    (∀ (a0 : Nat) (a1 : Int32) (a2 : Int32) (a3 : Int32) (a4 : Int32) (x0 : Int32) (τ : St), Ru M_H_way d Q 35 [some (.ref a0), some (.int a1), some (.int a2), some (.int a3), some (.int a4), none] [.int x0] τ = Ru M_H_way d Q 37 [some (.ref a0), some (.int a1), some (.int a2), some (.int a3), some (.int a4), some (.int x0)] [] τ) ∧
    (∀ (a0 : Nat) (a1 : Int32) (a2 : Int32) (a3 : Int32) (a4 : Int32) (a5 : Int32) (τ : St), Ru M_H_way d Q 37 [some (.ref a0), some (.int a1), some (.int a2), some (.int a3), some (.int a4), some (.int a5)] [] τ = Ru M_H_way d Q 39 [some (.ref a0), some (.int a1), some (.int a2), some (.int a3), some (.int a4), some (.int a5)] [.int a5] τ) ∧
    (∀ (a0 : Nat) (a1 : Int32) (a2 : Int32) (a3 : Int32) (a4 : Int32) (a5 : Int32) (x0 : Int32) (τ : St), Ru M_H_way d Q 39 [some (.ref a0), some (.int a1), some (.int a2), some (.int a3), some (.int a4), some (.int a5)] [.int x0] τ = Ru M_H_way d Q 40 [some (.ref a0), some (.int a1), some (.int a2), some (.int a3), some (.int a4), some (.int a5)] [.int (-1), .int x0] τ) ∧
    (∀ (a0 : Nat) (a1 : Int32) (a2 : Int32) (a3 : Int32) (a4 : Int32) (a5 : Int32) (x0 : Int32) (x1 : Int32) (τ : St), Ru M_H_way d Q 40 [some (.ref a0), some (.int a1), some (.int a2), some (.int a3), some (.int a4), some (.int a5)] [.int x0, .int x1] τ = ((¬ x1 = x0 → Ru M_H_way d Q 46 [some (.ref a0), some (.int a1), some (.int a2), some (.int a3), some (.int a4), some (.int a5)] [] τ) ∧ (x1 = x0 → Ru M_H_way d Q 43 [some (.ref a0), some (.int a1), some (.int a2), some (.int a3), some (.int a4), some (.int a5)] [] τ))) ∧
    (∀ (a0 : Nat) (a1 : Int32) (a2 : Int32) (a3 : Int32) (a4 : Int32) (a5 : Int32) (τ : St), Ru M_H_way d Q 43 [some (.ref a0), some (.int a1), some (.int a2), some (.int a3), some (.int a4), some (.int a5)] [] τ = Ru M_H_way d Q 45 [some (.ref a0), some (.int a1), some (.int a2), some (.int a3), some (.int a4), some (.int a5)] [.int (-2)] τ) ∧
    (∀ (a0 : Nat) (a1 : Int32) (a2 : Int32) (a3 : Int32) (a4 : Int32) (a5 : Int32) (x0 : Int32) (τ : St), Ru M_H_way d Q 45 [some (.ref a0), some (.int a1), some (.int a2), some (.int a3), some (.int a4), some (.int a5)] [.int x0] τ = Q (some (.int x0)) τ) ∧
    (∀ (a0 : Nat) (a1 : Int32) (a2 : Int32) (a3 : Int32) (a4 : Int32) (a5 : Int32) (τ : St), Ru M_H_way d Q 46 [some (.ref a0), some (.int a1), some (.int a2), some (.int a3), some (.int a4), some (.int a5)] [] τ = Ru M_H_way d Q 47 [some (.ref a0), some (.int a1), some (.int a2), some (.int a3), some (.int a4), some (.int a5)] [.ref a0] τ) ∧
    (∀ (a0 : Nat) (a1 : Int32) (a2 : Int32) (a3 : Int32) (a4 : Int32) (a5 : Int32) (x0 : Nat) (τ : St), Ru M_H_way d Q 47 [some (.ref a0), some (.int a1), some (.int a2), some (.int a3), some (.int a4), some (.int a5)] [.ref x0] τ = (isA 11 x0 ∧ Ru M_H_way d Q 50 [some (.ref a0), some (.int a1), some (.int a2), some (.int a3), some (.int a4), some (.int a5)] [.ref (rtab x0 12)] τ)) ∧
    (∀ (a0 : Nat) (a1 : Int32) (a2 : Int32) (a3 : Int32) (a4 : Int32) (a5 : Int32) (x0 : Nat) (τ : St), Ru M_H_way d Q 50 [some (.ref a0), some (.int a1), some (.int a2), some (.int a3), some (.int a4), some (.int a5)] [.ref x0] τ = Ru M_H_way d Q 51 [some (.ref a0), some (.int a1), some (.int a2), some (.int a3), some (.int a4), some (.int a5)] [.int a3, .ref x0] τ) ∧
    (∀ (a0 : Nat) (a1 : Int32) (a2 : Int32) (a3 : Int32) (a4 : Int32) (a5 : Int32) (x0 : Int32) (x1 : Nat) (τ : St), Ru M_H_way d Q 51 [some (.ref a0), some (.int a1), some (.int a2), some (.int a3), some (.int a4), some (.int a5)] [.int x0, .ref x1] τ = Ru M_H_way d Q 53 [some (.ref a0), some (.int a1), some (.int a2), some (.int a3), some (.int a4), some (.int a5)] [.int a5, .int x0, .ref x1] τ) ∧
    (∀ (a0 : Nat) (a1 : Int32) (a2 : Int32) (a3 : Int32) (a4 : Int32) (a5 : Int32) (x0 : Int32) (x1 : Int32) (x2 : Nat) (τ : St), Ru M_H_way d Q 53 [some (.ref a0), some (.int a1), some (.int a2), some (.int a3), some (.int a4), some (.int a5)] [.int x0, .int x1, .ref x2] τ = Ru M_H_way d Q 54 [some (.ref a0), some (.int a1), some (.int a2), some (.int a3), some (.int a4), some (.int a5)] [.int 0, .int x0, .int x1, .ref x2] τ) ∧
    (∀ (a0 : Nat) (a1 : Int32) (a2 : Int32) (a3 : Int32) (a4 : Int32) (a5 : Int32) (x0 : Int32) (x1 : Int32) (x2 : Int32) (x3 : Nat) (τ : St), Ru M_H_way d Q 54 [some (.ref a0), some (.int a1), some (.int a2), some (.int a3), some (.int a4), some (.int a5)] [.int x0, .int x1, .int x2, .ref x3] τ = (isA 10 x3 ∧ Cl d m_Ways_measure [.ref x3, .int x2, .int x1, .int x0] τ (fun v τ' => Ru M_H_way d Q 57 [some (.ref a0), some (.int a1), some (.int a2), some (.int a3), some (.int a4), some (.int a5)] (v.toList ++ []) τ'))) ∧
    (∀ (a0 : Nat) (a1 : Int32) (a2 : Int32) (a3 : Int32) (a4 : Int32) (a5 : Int32) (τ : St), Ru M_H_way d Q 57 [some (.ref a0), some (.int a1), some (.int a2), some (.int a3), some (.int a4), some (.int a5)] [] τ = Ru M_H_way d Q 58 [some (.ref a0), some (.int a1), some (.int a2), some (.int a3), some (.int a4), some (.int a5)] [.ref a0] τ) ∧
    (∀ (a0 : Nat) (a1 : Int32) (a2 : Int32) (a3 : Int32) (a4 : Int32) (a5 : Int32) (x0 : Nat) (τ : St), Ru M_H_way d Q 58 [some (.ref a0), some (.int a1), some (.int a2), some (.int a3), some (.int a4), some (.int a5)] [.ref x0] τ = (isA 11 x0 ∧ Ru M_H_way d Q 61 [some (.ref a0), some (.int a1), some (.int a2), some (.int a3), some (.int a4), some (.int a5)] [.ref (rtab x0 12)] τ)) ∧
    (∀ (a0 : Nat) (a1 : Int32) (a2 : Int32) (a3 : Int32) (a4 : Int32) (a5 : Int32) (x0 : Nat) (τ : St), Ru M_H_way d Q 61 [some (.ref a0), some (.int a1), some (.int a2), some (.int a3), some (.int a4), some (.int a5)] [.ref x0] τ = Ru M_H_way d Q 62 [some (.ref a0), some (.int a1), some (.int a2), some (.int a3), some (.int a4), some (.int a5)] [.int a2, .ref x0] τ) ∧
    (∀ (a0 : Nat) (a1 : Int32) (a2 : Int32) (a3 : Int32) (a4 : Int32) (a5 : Int32) (x0 : Int32) (x1 : Nat) (τ : St), Ru M_H_way d Q 62 [some (.ref a0), some (.int a1), some (.int a2), some (.int a3), some (.int a4), some (.int a5)] [.int x0, .ref x1] τ = Ru M_H_way d Q 64 [some (.ref a0), some (.int a1), some (.int a2), some (.int a3), some (.int a4), some (.int a5)] [.int a5, .int x0, .ref x1] τ) ∧
    (∀ (a0 : Nat) (a1 : Int32) (a2 : Int32) (a3 : Int32) (a4 : Int32) (a5 : Int32) (x0 : Int32) (x1 : Int32) (x2 : Nat) (τ : St), Ru M_H_way d Q 64 [some (.ref a0), some (.int a1), some (.int a2), some (.int a3), some (.int a4), some (.int a5)] [.int x0, .int x1, .ref x2] τ = Ru M_H_way d Q 65 [some (.ref a0), some (.int a1), some (.int a2), some (.int a3), some (.int a4), some (.int a5)] [.int 0, .int x0, .int x1, .ref x2] τ) ∧
    (∀ (a0 : Nat) (a1 : Int32) (a2 : Int32) (a3 : Int32) (a4 : Int32) (a5 : Int32) (x0 : Int32) (x1 : Int32) (x2 : Int32) (x3 : Nat) (τ : St), Ru M_H_way d Q 65 [some (.ref a0), some (.int a1), some (.int a2), some (.int a3), some (.int a4), some (.int a5)] [.int x0, .int x1, .int x2, .ref x3] τ = Ru M_H_way d Q 66 [some (.ref a0), some (.int a1), some (.int a2), some (.int a3), some (.int a4), some (.int a5)] [.ref a0, .int x0, .int x1, .int x2, .ref x3] τ) ∧
    (∀ (a0 : Nat) (a1 : Int32) (a2 : Int32) (a3 : Int32) (a4 : Int32) (a5 : Int32) (x0 : Nat) (x1 : Int32) (x2 : Int32) (x3 : Int32) (x4 : Nat) (τ : St), Ru M_H_way d Q 66 [some (.ref a0), some (.int a1), some (.int a2), some (.int a3), some (.int a4), some (.int a5)] [.ref x0, .int x1, .int x2, .int x3, .ref x4] τ = (isA 11 x0 ∧ Ru M_H_way d Q 69 [some (.ref a0), some (.int a1), some (.int a2), some (.int a3), some (.int a4), some (.int a5)] [.ref (rtab x0 1), .int x1, .int x2, .int x3, .ref x4] τ)) ∧
    (∀ (a0 : Nat) (a1 : Int32) (a2 : Int32) (a3 : Int32) (a4 : Int32) (a5 : Int32) (x0 : Nat) (x1 : Int32) (x2 : Int32) (x3 : Int32) (x4 : Nat) (τ : St), Ru M_H_way d Q 69 [some (.ref a0), some (.int a1), some (.int a2), some (.int a3), some (.int a4), some (.int a5)] [.ref x0, .int x1, .int x2, .int x3, .ref x4] τ = (isA 10 x4 ∧ Cl d m_Ways_tell [.ref x4, .int x3, .int x2, .int x1, .ref x0] τ (fun v τ' => Ru M_H_way d Q 72 [some (.ref a0), some (.int a1), some (.int a2), some (.int a3), some (.int a4), some (.int a5)] (v.toList ++ []) τ'))) ∧
    (∀ (a0 : Nat) (a1 : Int32) (a2 : Int32) (a3 : Int32) (a4 : Int32) (a5 : Int32) (τ : St), Ru M_H_way d Q 72 [some (.ref a0), some (.int a1), some (.int a2), some (.int a3), some (.int a4), some (.int a5)] [] τ = Ru M_H_way d Q 74 [some (.ref a0), some (.int a1), some (.int a2), some (.int a3), some (.int a4), some (.int a5)] [.int a5] τ) ∧
    (∀ (a0 : Nat) (a1 : Int32) (a2 : Int32) (a3 : Int32) (a4 : Int32) (a5 : Int32) (x0 : Int32) (τ : St), Ru M_H_way d Q 74 [some (.ref a0), some (.int a1), some (.int a2), some (.int a3), some (.int a4), some (.int a5)] [.int x0] τ = Q (some (.int x0)) τ) := ⟨
  fun _ _ _ _ _ => (R_at ok_H_way rfl).trans (e_ald rfl),
  fun _ _ _ _ _ _ => (R_at ok_H_way rfl).trans (e_ild rfl),
  fun _ _ _ _ _ _ _ => (R_at ok_H_way rfl).trans (e_ild rfl),
  fun _ _ _ _ _ _ _ _ => (R_at ok_H_way rfl).trans (e_ild rfl),
  fun _ _ _ _ x0 x1 x2 _ _ => (R_at ok_H_way rfl).trans (e_cv [.int x2, .int x1, .int x0] rfl rfl rfl),
  fun _ _ _ _ _ _ => (R_at ok_H_way rfl).trans e_ist,
  fun _ _ _ _ _ _ => (R_at ok_H_way rfl).trans (e_ild rfl),
  fun _ _ _ _ _ _ _ => (R_at ok_H_way rfl).trans e_if,
  fun _ _ _ _ _ _ => (R_at ok_H_way rfl).trans (e_ild rfl),
  fun _ _ _ _ _ _ _ => (R_at ok_H_way rfl).trans e_iret,
  fun _ _ _ _ _ _ => (R_at ok_H_way rfl).trans (e_ald rfl),
  fun _ _ _ _ _ _ _ => (R_at ok_H_way rfl).trans (e_ild rfl),
  fun _ _ _ _ _ x0 _ _ => (R_at ok_H_way rfl).trans (e_cv [.int x0] rfl rfl rfl),
  fun _ _ _ _ _ _ => (R_at ok_H_way rfl).trans (e_ald rfl),
  fun _ _ _ _ _ _ _ => (R_at ok_H_way rfl).trans e_gR,
  fun _ _ _ _ _ _ _ => (R_at ok_H_way rfl).trans e_push,
  fun _ _ _ _ _ _ _ _ => (R_at ok_H_way rfl).trans (e_ild rfl),
  fun _ _ _ _ _ _ _ _ _ => (R_at ok_H_way rfl).trans e_lsh,
  fun _ _ _ _ _ _ _ _ => (R_at ok_H_way rfl).trans e_push,
  fun _ _ _ _ _ _ _ _ _ => (R_at ok_H_way rfl).trans (e_ild rfl),
  fun _ _ _ _ _ _ _ _ _ _ => (R_at ok_H_way rfl).trans e_lsh,
  fun _ _ _ _ _ x0 x1 _ _ => (R_at ok_H_way rfl).trans (e_cv [.long x1, .long x0] rfl rfl rfl),
  fun _ _ _ _ _ _ _ => (R_at ok_H_way rfl).trans e_ist,
  fun _ _ _ _ _ _ _ => (R_at ok_H_way rfl).trans (e_ild rfl),
  fun _ _ _ _ _ _ _ _ => (R_at ok_H_way rfl).trans e_push,
  fun _ _ _ _ _ _ _ _ _ => (R_at ok_H_way rfl).trans e_icn,
  fun _ _ _ _ _ _ _ => (R_at ok_H_way rfl).trans e_push,
  fun _ _ _ _ _ _ _ _ => (R_at ok_H_way rfl).trans e_iret,
  fun _ _ _ _ _ _ _ => (R_at ok_H_way rfl).trans (e_ald rfl),
  fun _ _ _ _ _ _ _ _ => (R_at ok_H_way rfl).trans e_gR,
  fun _ _ _ _ _ _ _ _ => (R_at ok_H_way rfl).trans (e_ild rfl),
  fun _ _ _ _ _ _ _ _ _ => (R_at ok_H_way rfl).trans (e_ild rfl),
  fun _ _ _ _ _ _ _ _ _ _ => (R_at ok_H_way rfl).trans e_push,
  fun _ _ _ _ _ _ x0 x1 x2 _ _ => (R_at ok_H_way rfl).trans (e_cv [.int x2, .int x1, .int x0] rfl rfl rfl),
  fun _ _ _ _ _ _ _ => (R_at ok_H_way rfl).trans (e_ald rfl),
  fun _ _ _ _ _ _ _ _ => (R_at ok_H_way rfl).trans e_gR,
  fun _ _ _ _ _ _ _ _ => (R_at ok_H_way rfl).trans (e_ild rfl),
  fun _ _ _ _ _ _ _ _ _ => (R_at ok_H_way rfl).trans (e_ild rfl),
  fun _ _ _ _ _ _ _ _ _ _ => (R_at ok_H_way rfl).trans e_push,
  fun _ _ _ _ _ _ _ _ _ _ _ => (R_at ok_H_way rfl).trans (e_ald rfl),
  fun _ _ _ _ _ _ _ _ _ _ _ _ => (R_at ok_H_way rfl).trans e_gR,
  fun _ _ _ _ _ _ x0 x1 x2 x3 _ _ => (R_at ok_H_way rfl).trans (e_cv [.int x3, .int x2, .int x1, .ref x0] rfl rfl rfl),
  fun _ _ _ _ _ _ _ => (R_at ok_H_way rfl).trans (e_ild rfl),
  fun _ _ _ _ _ _ _ _ => (R_at ok_H_way rfl).trans e_iret⟩
set_option maxHeartbeats 4000000 in
theorem N_H_easy (d : Nat) (Q : Qt) : ∀ (x0 : Nat) (x1 : Int32) (x2 : Int32) (x3 : Int32) (τ : St), Cl (d + 1) m_H_easy [.ref x0, .int x1, .int x2, .int x3] τ Q = Ru M_H_easy d Q 0 [some (.ref x0), some (.int x1), some (.int x2), some (.int x3), none, none] [] τ := fun _ _ _ _ _ => propext ⟨fun h => h.2, fun h => ⟨Nat.le_of_ble_eq_true rfl, h⟩⟩
set_option maxHeartbeats 4000000 in
theorem E_H_easy (d : Nat) (Q : Qt) :
    (∀ (a0 : Nat) (a1 : Int32) (a2 : Int32) (a3 : Int32) (τ : St), Ru M_H_easy d Q 0 [some (.ref a0), some (.int a1), some (.int a2), some (.int a3), none, none] [] τ = Ru M_H_easy d Q 1 [some (.ref a0), some (.int a1), some (.int a2), some (.int a3), none, none] [.ref a0] τ) ∧
    (∀ (a0 : Nat) (a1 : Int32) (a2 : Int32) (a3 : Int32) (x0 : Nat) (τ : St), Ru M_H_easy d Q 1 [some (.ref a0), some (.int a1), some (.int a2), some (.int a3), none, none] [.ref x0] τ = Ru M_H_easy d Q 2 [some (.ref a0), some (.int a1), some (.int a2), some (.int a3), none, none] [.int a1, .ref x0] τ) ∧
    (∀ (a0 : Nat) (a1 : Int32) (a2 : Int32) (a3 : Int32) (x0 : Int32) (x1 : Nat) (τ : St), Ru M_H_easy d Q 2 [some (.ref a0), some (.int a1), some (.int a2), some (.int a3), none, none] [.int x0, .ref x1] τ = Ru M_H_easy d Q 3 [some (.ref a0), some (.int a1), some (.int a2), some (.int a3), none, none] [.int a2, .int x0, .ref x1] τ) ∧
    (∀ (a0 : Nat) (a1 : Int32) (a2 : Int32) (a3 : Int32) (x0 : Int32) (x1 : Int32) (x2 : Nat) (τ : St), Ru M_H_easy d Q 3 [some (.ref a0), some (.int a1), some (.int a2), some (.int a3), none, none] [.int x0, .int x1, .ref x2] τ = Ru M_H_easy d Q 4 [some (.ref a0), some (.int a1), some (.int a2), some (.int a3), none, none] [.int a3, .int x0, .int x1, .ref x2] τ) ∧
    (∀ (a0 : Nat) (a1 : Int32) (a2 : Int32) (a3 : Int32) (x0 : Int32) (x1 : Int32) (x2 : Int32) (x3 : Nat) (τ : St), Ru M_H_easy d Q 4 [some (.ref a0), some (.int a1), some (.int a2), some (.int a3), none, none] [.int x0, .int x1, .int x2, .ref x3] τ = (isA 11 x3 ∧ Cl d m_H_whyNoWay [.ref x3, .int x2, .int x1, .int x0] τ (fun v τ' => Ru M_H_easy d Q 7 [some (.ref a0), some (.int a1), some (.int a2), some (.int a3), none, none] (v.toList ++ []) τ'))) ∧
    (∀ (a0 : Nat) (a1 : Int32) (a2 : Int32) (a3 : Int32) (x0 : Int32) (τ : St), Ru M_H_easy d Q 7 [some (.ref a0), some (.int a1), some (.int a2), some (.int a3), none, none] [.int x0] τ = Ru M_H_easy d Q 9 [some (.ref a0), some (.int a1), some (.int a2), some (.int a3), some (.int x0), none] [] τ) ∧
    (∀ (a0 : Nat) (a1 : Int32) (a2 : Int32) (a3 : Int32) (a4 : Int32) (τ : St), Ru M_H_easy d Q 9 [some (.ref a0), some (.int a1), some (.int a2), some (.int a3), some (.int a4), none] [] τ = Ru M_H_easy d Q 11 [some (.ref a0), some (.int a1), some (.int a2), some (.int a3), some (.int a4), none] [.int a4] τ) ∧
    (∀ (a0 : Nat) (a1 : Int32) (a2 : Int32) (a3 : Int32) (a4 : Int32) (x0 : Int32) (τ : St), Ru M_H_easy d Q 11 [some (.ref a0), some (.int a1), some (.int a2), some (.int a3), some (.int a4), none] [.int x0] τ = ((x0 = 0 → Ru M_H_easy d Q 17 [some (.ref a0), some (.int a1), some (.int a2), some (.int a3), some (.int a4), none] [] τ) ∧ (¬ x0 = 0 → Ru M_H_easy d Q 14 [some (.ref a0), some (.int a1), some (.int a2), some (.int a3), some (.int a4), none] [] τ))) ∧
    (∀ (a0 : Nat) (a1 : Int32) (a2 : Int32) (a3 : Int32) (a4 : Int32) (τ : St), Ru M_H_easy d Q 14 [some (.ref a0), some (.int a1), some (.int a2), some (.int a3), some (.int a4), none] [] τ = Ru M_H_easy d Q 16 [some (.ref a0), some (.int a1), some (.int a2), some (.int a3), some (.int a4), none] [.int a4] τ) ∧
    (∀ (a0 : Nat) (a1 : Int32) (a2 : Int32) (a3 : Int32) (a4 : Int32) (x0 : Int32) (τ : St), Ru M_H_easy d Q 16 [some (.ref a0), some (.int a1), some (.int a2), some (.int a3), some (.int a4), none] [.int x0] τ = Q (some (.int x0)) τ) ∧
    (∀ (a0 : Nat) (a1 : Int32) (a2 : Int32) (a3 : Int32) (a4 : Int32) (τ : St), Ru M_H_easy d Q 17 [some (.ref a0), some (.int a1), some (.int a2), some (.int a3), some (.int a4), none] [] τ = Ru M_H_easy d Q 18 [some (.ref a0), some (.int a1), some (.int a2), some (.int a3), some (.int a4), none] [.ref a0] τ) ∧
    (∀ (a0 : Nat) (a1 : Int32) (a2 : Int32) (a3 : Int32) (a4 : Int32) (x0 : Nat) (τ : St), Ru M_H_easy d Q 18 [some (.ref a0), some (.int a1), some (.int a2), some (.int a3), some (.int a4), none] [.ref x0] τ = Ru M_H_easy d Q 19 [some (.ref a0), some (.int a1), some (.int a2), some (.int a3), some (.int a4), none] [.int a1, .ref x0] τ) ∧
    (∀ (a0 : Nat) (a1 : Int32) (a2 : Int32) (a3 : Int32) (a4 : Int32) (x0 : Int32) (x1 : Nat) (τ : St), Ru M_H_easy d Q 19 [some (.ref a0), some (.int a1), some (.int a2), some (.int a3), some (.int a4), none] [.int x0, .ref x1] τ = (isA 11 x1 ∧ Cl d m_H_startWays [.ref x1, .int x0] τ (fun v τ' => Ru M_H_easy d Q 22 [some (.ref a0), some (.int a1), some (.int a2), some (.int a3), some (.int a4), none] (v.toList ++ []) τ'))) ∧
    (∀ (a0 : Nat) (a1 : Int32) (a2 : Int32) (a3 : Int32) (a4 : Int32) (τ : St), Ru M_H_easy d Q 22 [some (.ref a0), some (.int a1), some (.int a2), some (.int a3), some (.int a4), none] [] τ = Ru M_H_easy d Q 23 [some (.ref a0), some (.int a1), some (.int a2), some (.int a3), some (.int a4), none] [.ref a0] τ) ∧
    (∀ (a0 : Nat) (a1 : Int32) (a2 : Int32) (a3 : Int32) (a4 : Int32) (x0 : Nat) (τ : St), Ru M_H_easy d Q 23 [some (.ref a0), some (.int a1), some (.int a2), some (.int a3), some (.int a4), none] [.ref x0] τ = (isA 11 x0 ∧ Ru M_H_easy d Q 26 [some (.ref a0), some (.int a1), some (.int a2), some (.int a3), some (.int a4), none] [.ref (rtab x0 12)] τ)) ∧
    (∀ (a0 : Nat) (a1 : Int32) (a2 : Int32) (a3 : Int32) (a4 : Int32) (x0 : Nat) (τ : St), Ru M_H_easy d Q 26 [some (.ref a0), some (.int a1), some (.int a2), some (.int a3), some (.int a4), none] [.ref x0] τ = Ru M_H_easy d Q 27 [some (.ref a0), some (.int a1), some (.int a2), some (.int a3), some (.int a4), none] [.int a3, .ref x0] τ) ∧
    (∀ (a0 : Nat) (a1 : Int32) (a2 : Int32) (a3 : Int32) (a4 : Int32) (x0 : Int32) (x1 : Nat) (τ : St), Ru M_H_easy d Q 27 [some (.ref a0), some (.int a1), some (.int a2), some (.int a3), some (.int a4), none] [.int x0, .ref x1] τ = Ru M_H_easy d Q 30 [some (.ref a0), some (.int a1), some (.int a2), some (.int a3), some (.int a4), none] [.int 1498, .int x0, .ref x1] τ) ∧
    (∀ (a0 : Nat) (a1 : Int32) (a2 : Int32) (a3 : Int32) (a4 : Int32) (x0 : Int32) (x1 : Int32) (x2 : Nat) (τ : St), Ru M_H_easy d Q 30 [some (.ref a0), some (.int a1), some (.int a2), some (.int a3), some (.int a4), none] [.int x0, .int x1, .ref x2] τ = Ru M_H_easy d Q 32 [some (.ref a0), some (.int a1), some (.int a2), some (.int a3), some (.int a4), none] [.int 64, .int x0, .int x1, .ref x2] τ) ∧
    (∀ (a0 : Nat) (a1 : Int32) (a2 : Int32) (a3 : Int32) (a4 : Int32) (x0 : Int32) (x1 : Int32) (x2 : Int32) (x3 : Nat) (τ : St), Ru M_H_easy d Q 32 [some (.ref a0), some (.int a1), some (.int a2), some (.int a3), some (.int a4), none] [.int x0, .int x1, .int x2, .ref x3] τ = (isA 10 x3 ∧ Cl d m_Ways_measure [.ref x3, .int x2, .int x1, .int x0] τ (fun v τ' => Ru M_H_easy d Q 35 [some (.ref a0), some (.int a1), some (.int a2), some (.int a3), some (.int a4), none] (v.toList ++ []) τ'))) ∧
    (∀ (a0 : Nat) (a1 : Int32) (a2 : Int32) (a3 : Int32) (a4 : Int32) (τ : St), Ru M_H_easy d Q 35 [some (.ref a0), some (.int a1), some (.int a2), some (.int a3), some (.int a4), none] [] τ = Ru M_H_easy d Q 36 [some (.ref a0), some (.int a1), some (.int a2), some (.int a3), some (.int a4), none] [.ref a0] τ) ∧
    (∀ (a0 : Nat) (a1 : Int32) (a2 : Int32) (a3 : Int32) (a4 : Int32) (x0 : Nat) (τ : St), Ru M_H_easy d Q 36 [some (.ref a0), some (.int a1), some (.int a2), some (.int a3), some (.int a4), none] [.ref x0] τ = (isA 11 x0 ∧ Ru M_H_easy d Q 39 [some (.ref a0), some (.int a1), some (.int a2), some (.int a3), some (.int a4), none] [.ref (rtab x0 12)] τ)) ∧
    (∀ (a0 : Nat) (a1 : Int32) (a2 : Int32) (a3 : Int32) (a4 : Int32) (x0 : Nat) (τ : St), Ru M_H_easy d Q 39 [some (.ref a0), some (.int a1), some (.int a2), some (.int a3), some (.int a4), none] [.ref x0] τ = Ru M_H_easy d Q 40 [some (.ref a0), some (.int a1), some (.int a2), some (.int a3), some (.int a4), none] [.int a2, .ref x0] τ) ∧
    (∀ (a0 : Nat) (a1 : Int32) (a2 : Int32) (a3 : Int32) (a4 : Int32) (x0 : Int32) (x1 : Nat) (τ : St), Ru M_H_easy d Q 40 [some (.ref a0), some (.int a1), some (.int a2), some (.int a3), some (.int a4), none] [.int x0, .ref x1] τ = (isA 10 x1 ∧ Cl d m_Ways_costFrom [.ref x1, .int x0] τ (fun v τ' => Ru M_H_easy d Q 43 [some (.ref a0), some (.int a1), some (.int a2), some (.int a3), some (.int a4), none] (v.toList ++ []) τ'))) ∧
    (∀ (a0 : Nat) (a1 : Int32) (a2 : Int32) (a3 : Int32) (a4 : Int32) (x0 : Int32) (τ : St), Ru M_H_easy d Q 43 [some (.ref a0), some (.int a1), some (.int a2), some (.int a3), some (.int a4), none] [.int x0] τ = Ru M_H_easy d Q 45 [some (.ref a0), some (.int a1), some (.int a2), some (.int a3), some (.int a4), some (.int x0)] [] τ) ∧
    (∀ (a0 : Nat) (a1 : Int32) (a2 : Int32) (a3 : Int32) (a4 : Int32) (a5 : Int32) (τ : St), Ru M_H_easy d Q 45 [some (.ref a0), some (.int a1), some (.int a2), some (.int a3), some (.int a4), some (.int a5)] [] τ = Ru M_H_easy d Q 47 [some (.ref a0), some (.int a1), some (.int a2), some (.int a3), some (.int a4), some (.int a5)] [.int a5] τ) ∧
    (∀ (a0 : Nat) (a1 : Int32) (a2 : Int32) (a3 : Int32) (a4 : Int32) (a5 : Int32) (x0 : Int32) (τ : St), Ru M_H_easy d Q 47 [some (.ref a0), some (.int a1), some (.int a2), some (.int a3), some (.int a4), some (.int a5)] [.int x0] τ = Ru M_H_easy d Q 50 [some (.ref a0), some (.int a1), some (.int a2), some (.int a3), some (.int a4), some (.int a5)] [.int 1073741824, .int x0] τ) ∧
    (∀ (a0 : Nat) (a1 : Int32) (a2 : Int32) (a3 : Int32) (a4 : Int32) (a5 : Int32) (x0 : Int32) (x1 : Int32) (τ : St), Ru M_H_easy d Q 50 [some (.ref a0), some (.int a1), some (.int a2), some (.int a3), some (.int a4), some (.int a5)] [.int x0, .int x1] τ = ((¬ x1 = x0 → Ru M_H_easy d Q 56 [some (.ref a0), some (.int a1), some (.int a2), some (.int a3), some (.int a4), some (.int a5)] [] τ) ∧ (x1 = x0 → Ru M_H_easy d Q 53 [some (.ref a0), some (.int a1), some (.int a2), some (.int a3), some (.int a4), some (.int a5)] [] τ))) ∧
    (∀ (a0 : Nat) (a1 : Int32) (a2 : Int32) (a3 : Int32) (a4 : Int32) (a5 : Int32) (τ : St), Ru M_H_easy d Q 53 [some (.ref a0), some (.int a1), some (.int a2), some (.int a3), some (.int a4), some (.int a5)] [] τ = Ru M_H_easy d Q 55 [some (.ref a0), some (.int a1), some (.int a2), some (.int a3), some (.int a4), some (.int a5)] [.int (-2)] τ) ∧
    (∀ (a0 : Nat) (a1 : Int32) (a2 : Int32) (a3 : Int32) (a4 : Int32) (a5 : Int32) (x0 : Int32) (τ : St), Ru M_H_easy d Q 55 [some (.ref a0), some (.int a1), some (.int a2), some (.int a3), some (.int a4), some (.int a5)] [.int x0] τ = Q (some (.int x0)) τ) ∧
    (∀ (a0 : Nat) (a1 : Int32) (a2 : Int32) (a3 : Int32) (a4 : Int32) (a5 : Int32) (τ : St), Ru M_H_easy d Q 56 [some (.ref a0), some (.int a1), some (.int a2), some (.int a3), some (.int a4), some (.int a5)] [] τ = Ru M_H_easy d Q 57 [some (.ref a0), some (.int a1), some (.int a2), some (.int a3), some (.int a4), some (.int a5)] [.ref a0] τ) ∧
    (∀ (a0 : Nat) (a1 : Int32) (a2 : Int32) (a3 : Int32) (a4 : Int32) (a5 : Int32) (x0 : Nat) (τ : St), Ru M_H_easy d Q 57 [some (.ref a0), some (.int a1), some (.int a2), some (.int a3), some (.int a4), some (.int a5)] [.ref x0] τ = (isA 11 x0 ∧ Ru M_H_easy d Q 60 [some (.ref a0), some (.int a1), some (.int a2), some (.int a3), some (.int a4), some (.int a5)] [.ref (rtab x0 12)] τ)) ∧
    (∀ (a0 : Nat) (a1 : Int32) (a2 : Int32) (a3 : Int32) (a4 : Int32) (a5 : Int32) (x0 : Nat) (τ : St), Ru M_H_easy d Q 60 [some (.ref a0), some (.int a1), some (.int a2), some (.int a3), some (.int a4), some (.int a5)] [.ref x0] τ = Ru M_H_easy d Q 61 [some (.ref a0), some (.int a1), some (.int a2), some (.int a3), some (.int a4), some (.int a5)] [.int a2, .ref x0] τ) ∧
    (∀ (a0 : Nat) (a1 : Int32) (a2 : Int32) (a3 : Int32) (a4 : Int32) (a5 : Int32) (x0 : Int32) (x1 : Nat) (τ : St), Ru M_H_easy d Q 61 [some (.ref a0), some (.int a1), some (.int a2), some (.int a3), some (.int a4), some (.int a5)] [.int x0, .ref x1] τ = Ru M_H_easy d Q 64 [some (.ref a0), some (.int a1), some (.int a2), some (.int a3), some (.int a4), some (.int a5)] [.int 1498, .int x0, .ref x1] τ) ∧
    (∀ (a0 : Nat) (a1 : Int32) (a2 : Int32) (a3 : Int32) (a4 : Int32) (a5 : Int32) (x0 : Int32) (x1 : Int32) (x2 : Nat) (τ : St), Ru M_H_easy d Q 64 [some (.ref a0), some (.int a1), some (.int a2), some (.int a3), some (.int a4), some (.int a5)] [.int x0, .int x1, .ref x2] τ = Ru M_H_easy d Q 66 [some (.ref a0), some (.int a1), some (.int a2), some (.int a3), some (.int a4), some (.int a5)] [.int 64, .int x0, .int x1, .ref x2] τ) ∧
    (∀ (a0 : Nat) (a1 : Int32) (a2 : Int32) (a3 : Int32) (a4 : Int32) (a5 : Int32) (x0 : Int32) (x1 : Int32) (x2 : Int32) (x3 : Nat) (τ : St), Ru M_H_easy d Q 66 [some (.ref a0), some (.int a1), some (.int a2), some (.int a3), some (.int a4), some (.int a5)] [.int x0, .int x1, .int x2, .ref x3] τ = Ru M_H_easy d Q 67 [some (.ref a0), some (.int a1), some (.int a2), some (.int a3), some (.int a4), some (.int a5)] [.ref a0, .int x0, .int x1, .int x2, .ref x3] τ) ∧
    (∀ (a0 : Nat) (a1 : Int32) (a2 : Int32) (a3 : Int32) (a4 : Int32) (a5 : Int32) (x0 : Nat) (x1 : Int32) (x2 : Int32) (x3 : Int32) (x4 : Nat) (τ : St), Ru M_H_easy d Q 67 [some (.ref a0), some (.int a1), some (.int a2), some (.int a3), some (.int a4), some (.int a5)] [.ref x0, .int x1, .int x2, .int x3, .ref x4] τ = (isA 11 x0 ∧ Ru M_H_easy d Q 70 [some (.ref a0), some (.int a1), some (.int a2), some (.int a3), some (.int a4), some (.int a5)] [.ref (rtab x0 1), .int x1, .int x2, .int x3, .ref x4] τ)) ∧
    (∀ (a0 : Nat) (a1 : Int32) (a2 : Int32) (a3 : Int32) (a4 : Int32) (a5 : Int32) (x0 : Nat) (x1 : Int32) (x2 : Int32) (x3 : Int32) (x4 : Nat) (τ : St), Ru M_H_easy d Q 70 [some (.ref a0), some (.int a1), some (.int a2), some (.int a3), some (.int a4), some (.int a5)] [.ref x0, .int x1, .int x2, .int x3, .ref x4] τ = (isA 10 x4 ∧ Cl d m_Ways_tell [.ref x4, .int x3, .int x2, .int x1, .ref x0] τ (fun v τ' => Ru M_H_easy d Q 73 [some (.ref a0), some (.int a1), some (.int a2), some (.int a3), some (.int a4), some (.int a5)] (v.toList ++ []) τ'))) ∧
    (∀ (a0 : Nat) (a1 : Int32) (a2 : Int32) (a3 : Int32) (a4 : Int32) (a5 : Int32) (τ : St), Ru M_H_easy d Q 73 [some (.ref a0), some (.int a1), some (.int a2), some (.int a3), some (.int a4), some (.int a5)] [] τ = Ru M_H_easy d Q 75 [some (.ref a0), some (.int a1), some (.int a2), some (.int a3), some (.int a4), some (.int a5)] [.int a5] τ) ∧
    (∀ (a0 : Nat) (a1 : Int32) (a2 : Int32) (a3 : Int32) (a4 : Int32) (a5 : Int32) (x0 : Int32) (τ : St), Ru M_H_easy d Q 75 [some (.ref a0), some (.int a1), some (.int a2), some (.int a3), some (.int a4), some (.int a5)] [.int x0] τ = Ru M_H_easy d Q 77 [some (.ref a0), some (.int a1), some (.int a2), some (.int a3), some (.int a4), some (.int a5)] [.int 64, .int x0] τ) ∧
    (∀ (a0 : Nat) (a1 : Int32) (a2 : Int32) (a3 : Int32) (a4 : Int32) (a5 : Int32) (x0 : Int32) (x1 : Int32) (τ : St), Ru M_H_easy d Q 77 [some (.ref a0), some (.int a1), some (.int a2), some (.int a3), some (.int a4), some (.int a5)] [.int x0, .int x1] τ = (¬ x0 = 0 ∧ Ru M_H_easy d Q 78 [some (.ref a0), some (.int a1), some (.int a2), some (.int a3), some (.int a4), some (.int a5)] [.int (x1 / x0)] τ)) ∧
    (∀ (a0 : Nat) (a1 : Int32) (a2 : Int32) (a3 : Int32) (a4 : Int32) (a5 : Int32) (x0 : Int32) (τ : St), Ru M_H_easy d Q 78 [some (.ref a0), some (.int a1), some (.int a2), some (.int a3), some (.int a4), some (.int a5)] [.int x0] τ = Q (some (.int x0)) τ) := ⟨
  fun _ _ _ _ _ => (R_at ok_H_easy rfl).trans (e_ald rfl),
  fun _ _ _ _ _ _ => (R_at ok_H_easy rfl).trans (e_ild rfl),
  fun _ _ _ _ _ _ _ => (R_at ok_H_easy rfl).trans (e_ild rfl),
  fun _ _ _ _ _ _ _ _ => (R_at ok_H_easy rfl).trans (e_ild rfl),
  fun _ _ _ _ x0 x1 x2 _ _ => (R_at ok_H_easy rfl).trans (e_cv [.int x2, .int x1, .int x0] rfl rfl rfl),
  fun _ _ _ _ _ _ => (R_at ok_H_easy rfl).trans e_ist,
  fun _ _ _ _ _ _ => (R_at ok_H_easy rfl).trans (e_ild rfl),
  fun _ _ _ _ _ _ _ => (R_at ok_H_easy rfl).trans e_if,
  fun _ _ _ _ _ _ => (R_at ok_H_easy rfl).trans (e_ild rfl),
  fun _ _ _ _ _ _ _ => (R_at ok_H_easy rfl).trans e_iret,
  fun _ _ _ _ _ _ => (R_at ok_H_easy rfl).trans (e_ald rfl),
  fun _ _ _ _ _ _ _ => (R_at ok_H_easy rfl).trans (e_ild rfl),
  fun _ _ _ _ _ x0 _ _ => (R_at ok_H_easy rfl).trans (e_cv [.int x0] rfl rfl rfl),
  fun _ _ _ _ _ _ => (R_at ok_H_easy rfl).trans (e_ald rfl),
  fun _ _ _ _ _ _ _ => (R_at ok_H_easy rfl).trans e_gR,
  fun _ _ _ _ _ _ _ => (R_at ok_H_easy rfl).trans (e_ild rfl),
  fun _ _ _ _ _ _ _ _ => (R_at ok_H_easy rfl).trans e_push,
  fun _ _ _ _ _ _ _ _ _ => (R_at ok_H_easy rfl).trans e_push,
  fun _ _ _ _ _ x0 x1 x2 _ _ => (R_at ok_H_easy rfl).trans (e_cv [.int x2, .int x1, .int x0] rfl rfl rfl),
  fun _ _ _ _ _ _ => (R_at ok_H_easy rfl).trans (e_ald rfl),
  fun _ _ _ _ _ _ _ => (R_at ok_H_easy rfl).trans e_gR,
  fun _ _ _ _ _ _ _ => (R_at ok_H_easy rfl).trans (e_ild rfl),
  fun _ _ _ _ _ x0 _ _ => (R_at ok_H_easy rfl).trans (e_cv [.int x0] rfl rfl rfl),
  fun _ _ _ _ _ _ _ => (R_at ok_H_easy rfl).trans e_ist,
  fun _ _ _ _ _ _ _ => (R_at ok_H_easy rfl).trans (e_ild rfl),
  fun _ _ _ _ _ _ _ _ => (R_at ok_H_easy rfl).trans e_push,
  fun _ _ _ _ _ _ _ _ _ => (R_at ok_H_easy rfl).trans e_icn,
  fun _ _ _ _ _ _ _ => (R_at ok_H_easy rfl).trans e_push,
  fun _ _ _ _ _ _ _ _ => (R_at ok_H_easy rfl).trans e_iret,
  fun _ _ _ _ _ _ _ => (R_at ok_H_easy rfl).trans (e_ald rfl),
  fun _ _ _ _ _ _ _ _ => (R_at ok_H_easy rfl).trans e_gR,
  fun _ _ _ _ _ _ _ _ => (R_at ok_H_easy rfl).trans (e_ild rfl),
  fun _ _ _ _ _ _ _ _ _ => (R_at ok_H_easy rfl).trans e_push,
  fun _ _ _ _ _ _ _ _ _ _ => (R_at ok_H_easy rfl).trans e_push,
  fun _ _ _ _ _ _ _ _ _ _ _ => (R_at ok_H_easy rfl).trans (e_ald rfl),
  fun _ _ _ _ _ _ _ _ _ _ _ _ => (R_at ok_H_easy rfl).trans e_gR,
  fun _ _ _ _ _ _ x0 x1 x2 x3 _ _ => (R_at ok_H_easy rfl).trans (e_cv [.int x3, .int x2, .int x1, .ref x0] rfl rfl rfl),
  fun _ _ _ _ _ _ _ => (R_at ok_H_easy rfl).trans (e_ild rfl),
  fun _ _ _ _ _ _ _ _ => (R_at ok_H_easy rfl).trans e_push,
  fun _ _ _ _ _ _ _ _ _ => (R_at ok_H_easy rfl).trans e_binz,
  fun _ _ _ _ _ _ _ _ => (R_at ok_H_easy rfl).trans e_iret⟩
set_option maxHeartbeats 4000000 in
theorem N_H_soon (d : Nat) (Q : Qt) : ∀ (x0 : Nat) (x1 : Int32) (x2 : Int32) (x3 : Int32) (τ : St), Cl (d + 1) m_H_soon [.ref x0, .int x1, .int x2, .int x3] τ Q = Ru M_H_soon d Q 0 [some (.ref x0), some (.int x1), some (.int x2), some (.int x3), none, none] [] τ := fun _ _ _ _ _ => propext ⟨fun h => h.2, fun h => ⟨Nat.le_of_ble_eq_true rfl, h⟩⟩
set_option maxHeartbeats 4000000 in
theorem E_H_soon (d : Nat) (Q : Qt) :
    (∀ (a0 : Nat) (a1 : Int32) (a2 : Int32) (a3 : Int32) (τ : St), Ru M_H_soon d Q 0 [some (.ref a0), some (.int a1), some (.int a2), some (.int a3), none, none] [] τ = Ru M_H_soon d Q 1 [some (.ref a0), some (.int a1), some (.int a2), some (.int a3), none, none] [.ref a0] τ) ∧
    (∀ (a0 : Nat) (a1 : Int32) (a2 : Int32) (a3 : Int32) (x0 : Nat) (τ : St), Ru M_H_soon d Q 1 [some (.ref a0), some (.int a1), some (.int a2), some (.int a3), none, none] [.ref x0] τ = Ru M_H_soon d Q 2 [some (.ref a0), some (.int a1), some (.int a2), some (.int a3), none, none] [.int a1, .ref x0] τ) ∧
    (∀ (a0 : Nat) (a1 : Int32) (a2 : Int32) (a3 : Int32) (x0 : Int32) (x1 : Nat) (τ : St), Ru M_H_soon d Q 2 [some (.ref a0), some (.int a1), some (.int a2), some (.int a3), none, none] [.int x0, .ref x1] τ = Ru M_H_soon d Q 3 [some (.ref a0), some (.int a1), some (.int a2), some (.int a3), none, none] [.int a2, .int x0, .ref x1] τ) ∧
    (∀ (a0 : Nat) (a1 : Int32) (a2 : Int32) (a3 : Int32) (x0 : Int32) (x1 : Int32) (x2 : Nat) (τ : St), Ru M_H_soon d Q 3 [some (.ref a0), some (.int a1), some (.int a2), some (.int a3), none, none] [.int x0, .int x1, .ref x2] τ = Ru M_H_soon d Q 4 [some (.ref a0), some (.int a1), some (.int a2), some (.int a3), none, none] [.int a3, .int x0, .int x1, .ref x2] τ) ∧
    (∀ (a0 : Nat) (a1 : Int32) (a2 : Int32) (a3 : Int32) (x0 : Int32) (x1 : Int32) (x2 : Int32) (x3 : Nat) (τ : St), Ru M_H_soon d Q 4 [some (.ref a0), some (.int a1), some (.int a2), some (.int a3), none, none] [.int x0, .int x1, .int x2, .ref x3] τ = (isA 11 x3 ∧ Cl d m_H_whyNoWay [.ref x3, .int x2, .int x1, .int x0] τ (fun v τ' => Ru M_H_soon d Q 7 [some (.ref a0), some (.int a1), some (.int a2), some (.int a3), none, none] (v.toList ++ []) τ'))) ∧
    (∀ (a0 : Nat) (a1 : Int32) (a2 : Int32) (a3 : Int32) (x0 : Int32) (τ : St), Ru M_H_soon d Q 7 [some (.ref a0), some (.int a1), some (.int a2), some (.int a3), none, none] [.int x0] τ = Ru M_H_soon d Q 9 [some (.ref a0), some (.int a1), some (.int a2), some (.int a3), some (.int x0), none] [] τ) ∧
    (∀ (a0 : Nat) (a1 : Int32) (a2 : Int32) (a3 : Int32) (a4 : Int32) (τ : St), Ru M_H_soon d Q 9 [some (.ref a0), some (.int a1), some (.int a2), some (.int a3), some (.int a4), none] [] τ = Ru M_H_soon d Q 11 [some (.ref a0), some (.int a1), some (.int a2), some (.int a3), some (.int a4), none] [.int a4] τ) ∧
    (∀ (a0 : Nat) (a1 : Int32) (a2 : Int32) (a3 : Int32) (a4 : Int32) (x0 : Int32) (τ : St), Ru M_H_soon d Q 11 [some (.ref a0), some (.int a1), some (.int a2), some (.int a3), some (.int a4), none] [.int x0] τ = ((x0 = 0 → Ru M_H_soon d Q 17 [some (.ref a0), some (.int a1), some (.int a2), some (.int a3), some (.int a4), none] [] τ) ∧ (¬ x0 = 0 → Ru M_H_soon d Q 14 [some (.ref a0), some (.int a1), some (.int a2), some (.int a3), some (.int a4), none] [] τ))) ∧
    (∀ (a0 : Nat) (a1 : Int32) (a2 : Int32) (a3 : Int32) (a4 : Int32) (τ : St), Ru M_H_soon d Q 14 [some (.ref a0), some (.int a1), some (.int a2), some (.int a3), some (.int a4), none] [] τ = Ru M_H_soon d Q 16 [some (.ref a0), some (.int a1), some (.int a2), some (.int a3), some (.int a4), none] [.int a4] τ) ∧
    (∀ (a0 : Nat) (a1 : Int32) (a2 : Int32) (a3 : Int32) (a4 : Int32) (x0 : Int32) (τ : St), Ru M_H_soon d Q 16 [some (.ref a0), some (.int a1), some (.int a2), some (.int a3), some (.int a4), none] [.int x0] τ = Q (some (.int x0)) τ) ∧
    (∀ (a0 : Nat) (a1 : Int32) (a2 : Int32) (a3 : Int32) (a4 : Int32) (τ : St), Ru M_H_soon d Q 17 [some (.ref a0), some (.int a1), some (.int a2), some (.int a3), some (.int a4), none] [] τ = Ru M_H_soon d Q 18 [some (.ref a0), some (.int a1), some (.int a2), some (.int a3), some (.int a4), none] [.ref a0] τ) ∧
    (∀ (a0 : Nat) (a1 : Int32) (a2 : Int32) (a3 : Int32) (a4 : Int32) (x0 : Nat) (τ : St), Ru M_H_soon d Q 18 [some (.ref a0), some (.int a1), some (.int a2), some (.int a3), some (.int a4), none] [.ref x0] τ = Ru M_H_soon d Q 19 [some (.ref a0), some (.int a1), some (.int a2), some (.int a3), some (.int a4), none] [.int a1, .ref x0] τ) ∧
    (∀ (a0 : Nat) (a1 : Int32) (a2 : Int32) (a3 : Int32) (a4 : Int32) (x0 : Int32) (x1 : Nat) (τ : St), Ru M_H_soon d Q 19 [some (.ref a0), some (.int a1), some (.int a2), some (.int a3), some (.int a4), none] [.int x0, .ref x1] τ = (isA 11 x1 ∧ Cl d m_H_startWays [.ref x1, .int x0] τ (fun v τ' => Ru M_H_soon d Q 22 [some (.ref a0), some (.int a1), some (.int a2), some (.int a3), some (.int a4), none] (v.toList ++ []) τ'))) ∧
    (∀ (a0 : Nat) (a1 : Int32) (a2 : Int32) (a3 : Int32) (a4 : Int32) (τ : St), Ru M_H_soon d Q 22 [some (.ref a0), some (.int a1), some (.int a2), some (.int a3), some (.int a4), none] [] τ = Ru M_H_soon d Q 23 [some (.ref a0), some (.int a1), some (.int a2), some (.int a3), some (.int a4), none] [.ref a0] τ) ∧
    (∀ (a0 : Nat) (a1 : Int32) (a2 : Int32) (a3 : Int32) (a4 : Int32) (x0 : Nat) (τ : St), Ru M_H_soon d Q 23 [some (.ref a0), some (.int a1), some (.int a2), some (.int a3), some (.int a4), none] [.ref x0] τ = (isA 11 x0 ∧ Ru M_H_soon d Q 26 [some (.ref a0), some (.int a1), some (.int a2), some (.int a3), some (.int a4), none] [.ref (rtab x0 12)] τ)) ∧
    (∀ (a0 : Nat) (a1 : Int32) (a2 : Int32) (a3 : Int32) (a4 : Int32) (x0 : Nat) (τ : St), Ru M_H_soon d Q 26 [some (.ref a0), some (.int a1), some (.int a2), some (.int a3), some (.int a4), none] [.ref x0] τ = Ru M_H_soon d Q 27 [some (.ref a0), some (.int a1), some (.int a2), some (.int a3), some (.int a4), none] [.int a3, .ref x0] τ) ∧
    (∀ (a0 : Nat) (a1 : Int32) (a2 : Int32) (a3 : Int32) (a4 : Int32) (x0 : Int32) (x1 : Nat) (τ : St), Ru M_H_soon d Q 27 [some (.ref a0), some (.int a1), some (.int a2), some (.int a3), some (.int a4), none] [.int x0, .ref x1] τ = Ru M_H_soon d Q 28 [some (.ref a0), some (.int a1), some (.int a2), some (.int a3), some (.int a4), none] [.ref a0, .int x0, .ref x1] τ) ∧
    (∀ (a0 : Nat) (a1 : Int32) (a2 : Int32) (a3 : Int32) (a4 : Int32) (x0 : Nat) (x1 : Int32) (x2 : Nat) (τ : St), Ru M_H_soon d Q 28 [some (.ref a0), some (.int a1), some (.int a2), some (.int a3), some (.int a4), none] [.ref x0, .int x1, .ref x2] τ = (isA 11 x0 ∧ Ru M_H_soon d Q 31 [some (.ref a0), some (.int a1), some (.int a2), some (.int a3), some (.int a4), none] [.int (τ.1 x0 8), .int x1, .ref x2] τ)) ∧
    (∀ (a0 : Nat) (a1 : Int32) (a2 : Int32) (a3 : Int32) (a4 : Int32) (x0 : Int32) (x1 : Int32) (x2 : Nat) (τ : St), Ru M_H_soon d Q 31 [some (.ref a0), some (.int a1), some (.int a2), some (.int a3), some (.int a4), none] [.int x0, .int x1, .ref x2] τ = Ru M_H_soon d Q 32 [some (.ref a0), some (.int a1), some (.int a2), some (.int a3), some (.int a4), none] [.int 0, .int x0, .int x1, .ref x2] τ) ∧
    (∀ (a0 : Nat) (a1 : Int32) (a2 : Int32) (a3 : Int32) (a4 : Int32) (x0 : Int32) (x1 : Int32) (x2 : Int32) (x3 : Nat) (τ : St), Ru M_H_soon d Q 32 [some (.ref a0), some (.int a1), some (.int a2), some (.int a3), some (.int a4), none] [.int x0, .int x1, .int x2, .ref x3] τ = (isA 10 x3 ∧ Cl d m_Ways_measure [.ref x3, .int x2, .int x1, .int x0] τ (fun v τ' => Ru M_H_soon d Q 35 [some (.ref a0), some (.int a1), some (.int a2), some (.int a3), some (.int a4), none] (v.toList ++ []) τ'))) ∧
    (∀ (a0 : Nat) (a1 : Int32) (a2 : Int32) (a3 : Int32) (a4 : Int32) (τ : St), Ru M_H_soon d Q 35 [some (.ref a0), some (.int a1), some (.int a2), some (.int a3), some (.int a4), none] [] τ = Ru M_H_soon d Q 36 [some (.ref a0), some (.int a1), some (.int a2), some (.int a3), some (.int a4), none] [.ref a0] τ) ∧
    (∀ (a0 : Nat) (a1 : Int32) (a2 : Int32) (a3 : Int32) (a4 : Int32) (x0 : Nat) (τ : St), Ru M_H_soon d Q 36 [some (.ref a0), some (.int a1), some (.int a2), some (.int a3), some (.int a4), none] [.ref x0] τ = (isA 11 x0 ∧ Ru M_H_soon d Q 39 [some (.ref a0), some (.int a1), some (.int a2), some (.int a3), some (.int a4), none] [.ref (rtab x0 12)] τ)) ∧
    (∀ (a0 : Nat) (a1 : Int32) (a2 : Int32) (a3 : Int32) (a4 : Int32) (x0 : Nat) (τ : St), Ru M_H_soon d Q 39 [some (.ref a0), some (.int a1), some (.int a2), some (.int a3), some (.int a4), none] [.ref x0] τ = Ru M_H_soon d Q 40 [some (.ref a0), some (.int a1), some (.int a2), some (.int a3), some (.int a4), none] [.int a2, .ref x0] τ) ∧
    (∀ (a0 : Nat) (a1 : Int32) (a2 : Int32) (a3 : Int32) (a4 : Int32) (x0 : Int32) (x1 : Nat) (τ : St), Ru M_H_soon d Q 40 [some (.ref a0), some (.int a1), some (.int a2), some (.int a3), some (.int a4), none] [.int x0, .ref x1] τ = (isA 10 x1 ∧ Cl d m_Ways_costFrom [.ref x1, .int x0] τ (fun v τ' => Ru M_H_soon d Q 43 [some (.ref a0), some (.int a1), some (.int a2), some (.int a3), some (.int a4), none] (v.toList ++ []) τ'))) ∧
    (∀ (a0 : Nat) (a1 : Int32) (a2 : Int32) (a3 : Int32) (a4 : Int32) (x0 : Int32) (τ : St), Ru M_H_soon d Q 43 [some (.ref a0), some (.int a1), some (.int a2), some (.int a3), some (.int a4), none] [.int x0] τ = Ru M_H_soon d Q 45 [some (.ref a0), some (.int a1), some (.int a2), some (.int a3), some (.int a4), some (.int x0)] [] τ) ∧
    (∀ (a0 : Nat) (a1 : Int32) (a2 : Int32) (a3 : Int32) (a4 : Int32) (a5 : Int32) (τ : St), Ru M_H_soon d Q 45 [some (.ref a0), some (.int a1), some (.int a2), some (.int a3), some (.int a4), some (.int a5)] [] τ = Ru M_H_soon d Q 47 [some (.ref a0), some (.int a1), some (.int a2), some (.int a3), some (.int a4), some (.int a5)] [.int a5] τ) ∧
    (∀ (a0 : Nat) (a1 : Int32) (a2 : Int32) (a3 : Int32) (a4 : Int32) (a5 : Int32) (x0 : Int32) (τ : St), Ru M_H_soon d Q 47 [some (.ref a0), some (.int a1), some (.int a2), some (.int a3), some (.int a4), some (.int a5)] [.int x0] τ = Ru M_H_soon d Q 50 [some (.ref a0), some (.int a1), some (.int a2), some (.int a3), some (.int a4), some (.int a5)] [.int 1073741824, .int x0] τ) ∧
    (∀ (a0 : Nat) (a1 : Int32) (a2 : Int32) (a3 : Int32) (a4 : Int32) (a5 : Int32) (x0 : Int32) (x1 : Int32) (τ : St), Ru M_H_soon d Q 50 [some (.ref a0), some (.int a1), some (.int a2), some (.int a3), some (.int a4), some (.int a5)] [.int x0, .int x1] τ = ((¬ x1 = x0 → Ru M_H_soon d Q 58 [some (.ref a0), some (.int a1), some (.int a2), some (.int a3), some (.int a4), some (.int a5)] [] τ) ∧ (x1 = x0 → Ru M_H_soon d Q 53 [some (.ref a0), some (.int a1), some (.int a2), some (.int a3), some (.int a4), some (.int a5)] [] τ))) ∧
    (∀ (a0 : Nat) (a1 : Int32) (a2 : Int32) (a3 : Int32) (a4 : Int32) (a5 : Int32) (τ : St), Ru M_H_soon d Q 53 [some (.ref a0), some (.int a1), some (.int a2), some (.int a3), some (.int a4), some (.int a5)] [] τ = Ru M_H_soon d Q 55 [some (.ref a0), some (.int a1), some (.int a2), some (.int a3), some (.int a4), some (.int a5)] [.int (-2)] τ) ∧
    (∀ (a0 : Nat) (a1 : Int32) (a2 : Int32) (a3 : Int32) (a4 : Int32) (a5 : Int32) (x0 : Int32) (τ : St), Ru M_H_soon d Q 55 [some (.ref a0), some (.int a1), some (.int a2), some (.int a3), some (.int a4), some (.int a5)] [.int x0] τ = Ru M_H_soon d Q 60 [some (.ref a0), some (.int a1), some (.int a2), some (.int a3), some (.int a4), some (.int a5)] [.int x0] τ) ∧
    (∀ (a0 : Nat) (a1 : Int32) (a2 : Int32) (a3 : Int32) (a4 : Int32) (a5 : Int32) (τ : St), Ru M_H_soon d Q 58 [some (.ref a0), some (.int a1), some (.int a2), some (.int a3), some (.int a4), some (.int a5)] [] τ = Ru M_H_soon d Q 60 [some (.ref a0), some (.int a1), some (.int a2), some (.int a3), some (.int a4), some (.int a5)] [.int a5] τ) ∧
    (∀ (a0 : Nat) (a1 : Int32) (a2 : Int32) (a3 : Int32) (a4 : Int32) (a5 : Int32) (x0 : Int32) (τ : St), Ru M_H_soon d Q 60 [some (.ref a0), some (.int a1), some (.int a2), some (.int a3), some (.int a4), some (.int a5)] [.int x0] τ = Q (some (.int x0)) τ) := ⟨
  fun _ _ _ _ _ => (R_at ok_H_soon rfl).trans (e_ald rfl),
  fun _ _ _ _ _ _ => (R_at ok_H_soon rfl).trans (e_ild rfl),
  fun _ _ _ _ _ _ _ => (R_at ok_H_soon rfl).trans (e_ild rfl),
  fun _ _ _ _ _ _ _ _ => (R_at ok_H_soon rfl).trans (e_ild rfl),
  fun _ _ _ _ x0 x1 x2 _ _ => (R_at ok_H_soon rfl).trans (e_cv [.int x2, .int x1, .int x0] rfl rfl rfl),
  fun _ _ _ _ _ _ => (R_at ok_H_soon rfl).trans e_ist,
  fun _ _ _ _ _ _ => (R_at ok_H_soon rfl).trans (e_ild rfl),
  fun _ _ _ _ _ _ _ => (R_at ok_H_soon rfl).trans e_if,
  fun _ _ _ _ _ _ => (R_at ok_H_soon rfl).trans (e_ild rfl),
  fun _ _ _ _ _ _ _ => (R_at ok_H_soon rfl).trans e_iret,
  fun _ _ _ _ _ _ => (R_at ok_H_soon rfl).trans (e_ald rfl),
  fun _ _ _ _ _ _ _ => (R_at ok_H_soon rfl).trans (e_ild rfl),
  fun _ _ _ _ _ x0 _ _ => (R_at ok_H_soon rfl).trans (e_cv [.int x0] rfl rfl rfl),
  fun _ _ _ _ _ _ => (R_at ok_H_soon rfl).trans (e_ald rfl),
  fun _ _ _ _ _ _ _ => (R_at ok_H_soon rfl).trans e_gR,
  fun _ _ _ _ _ _ _ => (R_at ok_H_soon rfl).trans (e_ild rfl),
  fun _ _ _ _ _ _ _ _ => (R_at ok_H_soon rfl).trans (e_ald rfl),
  fun _ _ _ _ _ _ _ _ _ => (R_at ok_H_soon rfl).trans e_gI,
  fun _ _ _ _ _ _ _ _ _ => (R_at ok_H_soon rfl).trans e_push,
  fun _ _ _ _ _ x0 x1 x2 _ _ => (R_at ok_H_soon rfl).trans (e_cv [.int x2, .int x1, .int x0] rfl rfl rfl),
  fun _ _ _ _ _ _ => (R_at ok_H_soon rfl).trans (e_ald rfl),
  fun _ _ _ _ _ _ _ => (R_at ok_H_soon rfl).trans e_gR,
  fun _ _ _ _ _ _ _ => (R_at ok_H_soon rfl).trans (e_ild rfl),
  fun _ _ _ _ _ x0 _ _ => (R_at ok_H_soon rfl).trans (e_cv [.int x0] rfl rfl rfl),
  fun _ _ _ _ _ _ _ => (R_at ok_H_soon rfl).trans e_ist,
  fun _ _ _ _ _ _ _ => (R_at ok_H_soon rfl).trans (e_ild rfl),
  fun _ _ _ _ _ _ _ _ => (R_at ok_H_soon rfl).trans e_push,
  fun _ _ _ _ _ _ _ _ _ => (R_at ok_H_soon rfl).trans e_icn,
  fun _ _ _ _ _ _ _ => (R_at ok_H_soon rfl).trans e_push,
  fun _ _ _ _ _ _ _ _ => (R_at ok_H_soon rfl).trans e_goto,
  fun _ _ _ _ _ _ _ => (R_at ok_H_soon rfl).trans (e_ild rfl),
  fun _ _ _ _ _ _ _ _ => (R_at ok_H_soon rfl).trans e_iret⟩
set_option maxHeartbeats 4000000 in
theorem N_H_whyNoWay (d : Nat) (Q : Qt) : ∀ (x0 : Nat) (x1 : Int32) (x2 : Int32) (x3 : Int32) (τ : St), Cl (d + 1) m_H_whyNoWay [.ref x0, .int x1, .int x2, .int x3] τ Q = Ru M_H_whyNoWay d Q 0 [some (.ref x0), some (.int x1), some (.int x2), some (.int x3)] [] τ := fun _ _ _ _ _ => propext ⟨fun h => h.2, fun h => ⟨Nat.le_of_ble_eq_true rfl, h⟩⟩
set_option maxHeartbeats 4000000 in
theorem E_H_whyNoWay (d : Nat) (Q : Qt) :
    (∀ (a0 : Nat) (a1 : Int32) (a2 : Int32) (a3 : Int32) (τ : St), Ru M_H_whyNoWay d Q 0 [some (.ref a0), some (.int a1), some (.int a2), some (.int a3)] [] τ = Ru M_H_whyNoWay d Q 1 [some (.ref a0), some (.int a1), some (.int a2), some (.int a3)] [.int a1] τ) ∧
    (∀ (a0 : Nat) (a1 : Int32) (a2 : Int32) (a3 : Int32) (x0 : Int32) (τ : St), Ru M_H_whyNoWay d Q 1 [some (.ref a0), some (.int a1), some (.int a2), some (.int a3)] [.int x0] τ = Cl d m_H_isWeight [.int x0] τ (fun v τ' => Ru M_H_whyNoWay d Q 4 [some (.ref a0), some (.int a1), some (.int a2), some (.int a3)] (v.toList ++ []) τ')) ∧
    (∀ (a0 : Nat) (a1 : Int32) (a2 : Int32) (a3 : Int32) (x0 : Int32) (τ : St), Ru M_H_whyNoWay d Q 4 [some (.ref a0), some (.int a1), some (.int a2), some (.int a3)] [.int x0] τ = ((x0 = 0 → Ru M_H_whyNoWay d Q 29 [some (.ref a0), some (.int a1), some (.int a2), some (.int a3)] [] τ) ∧ (¬ x0 = 0 → Ru M_H_whyNoWay d Q 7 [some (.ref a0), some (.int a1), some (.int a2), some (.int a3)] [] τ))) ∧
    (∀ (a0 : Nat) (a1 : Int32) (a2 : Int32) (a3 : Int32) (τ : St), Ru M_H_whyNoWay d Q 7 [some (.ref a0), some (.int a1), some (.int a2), some (.int a3)] [] τ = Ru M_H_whyNoWay d Q 8 [some (.ref a0), some (.int a1), some (.int a2), some (.int a3)] [.ref a0] τ) ∧
    (∀ (a0 : Nat) (a1 : Int32) (a2 : Int32) (a3 : Int32) (x0 : Nat) (τ : St), Ru M_H_whyNoWay d Q 8 [some (.ref a0), some (.int a1), some (.int a2), some (.int a3)] [.ref x0] τ = (isA 11 x0 ∧ Ru M_H_whyNoWay d Q 11 [some (.ref a0), some (.int a1), some (.int a2), some (.int a3)] [.ref (rtab x0 2)] τ)) ∧
    (∀ (a0 : Nat) (a1 : Int32) (a2 : Int32) (a3 : Int32) (x0 : Nat) (τ : St), Ru M_H_whyNoWay d Q 11 [some (.ref a0), some (.int a1), some (.int a2), some (.int a3)] [.ref x0] τ = Ru M_H_whyNoWay d Q 12 [some (.ref a0), some (.int a1), some (.int a2), some (.int a3)] [.int a2, .ref x0] τ) ∧
    (∀ (a0 : Nat) (a1 : Int32) (a2 : Int32) (a3 : Int32) (x0 : Int32) (x1 : Nat) (τ : St), Ru M_H_whyNoWay d Q 12 [some (.ref a0), some (.int a1), some (.int a2), some (.int a3)] [.int x0, .ref x1] τ = (isA 0 x1 ∧ Cl d m_Ground_has [.ref x1, .int x0] τ (fun v τ' => Ru M_H_whyNoWay d Q 15 [some (.ref a0), some (.int a1), some (.int a2), some (.int a3)] (v.toList ++ []) τ'))) ∧
    (∀ (a0 : Nat) (a1 : Int32) (a2 : Int32) (a3 : Int32) (x0 : Int32) (τ : St), Ru M_H_whyNoWay d Q 15 [some (.ref a0), some (.int a1), some (.int a2), some (.int a3)] [.int x0] τ = ((x0 = 0 → Ru M_H_whyNoWay d Q 29 [some (.ref a0), some (.int a1), some (.int a2), some (.int a3)] [] τ) ∧ (¬ x0 = 0 → Ru M_H_whyNoWay d Q 18 [some (.ref a0), some (.int a1), some (.int a2), some (.int a3)] [] τ))) ∧
    (∀ (a0 : Nat) (a1 : Int32) (a2 : Int32) (a3 : Int32) (τ : St), Ru M_H_whyNoWay d Q 18 [some (.ref a0), some (.int a1), some (.int a2), some (.int a3)] [] τ = Ru M_H_whyNoWay d Q 19 [some (.ref a0), some (.int a1), some (.int a2), some (.int a3)] [.ref a0] τ) ∧
    (∀ (a0 : Nat) (a1 : Int32) (a2 : Int32) (a3 : Int32) (x0 : Nat) (τ : St), Ru M_H_whyNoWay d Q 19 [some (.ref a0), some (.int a1), some (.int a2), some (.int a3)] [.ref x0] τ = (isA 11 x0 ∧ Ru M_H_whyNoWay d Q 22 [some (.ref a0), some (.int a1), some (.int a2), some (.int a3)] [.ref (rtab x0 2)] τ)) ∧
    (∀ (a0 : Nat) (a1 : Int32) (a2 : Int32) (a3 : Int32) (x0 : Nat) (τ : St), Ru M_H_whyNoWay d Q 22 [some (.ref a0), some (.int a1), some (.int a2), some (.int a3)] [.ref x0] τ = Ru M_H_whyNoWay d Q 23 [some (.ref a0), some (.int a1), some (.int a2), some (.int a3)] [.int a3, .ref x0] τ) ∧
    (∀ (a0 : Nat) (a1 : Int32) (a2 : Int32) (a3 : Int32) (x0 : Int32) (x1 : Nat) (τ : St), Ru M_H_whyNoWay d Q 23 [some (.ref a0), some (.int a1), some (.int a2), some (.int a3)] [.int x0, .ref x1] τ = (isA 0 x1 ∧ Cl d m_Ground_has [.ref x1, .int x0] τ (fun v τ' => Ru M_H_whyNoWay d Q 26 [some (.ref a0), some (.int a1), some (.int a2), some (.int a3)] (v.toList ++ []) τ'))) ∧
    (∀ (a0 : Nat) (a1 : Int32) (a2 : Int32) (a3 : Int32) (x0 : Int32) (τ : St), Ru M_H_whyNoWay d Q 26 [some (.ref a0), some (.int a1), some (.int a2), some (.int a3)] [.int x0] τ = ((¬ x0 = 0 → Ru M_H_whyNoWay d Q 31 [some (.ref a0), some (.int a1), some (.int a2), some (.int a3)] [] τ) ∧ (x0 = 0 → Ru M_H_whyNoWay d Q 29 [some (.ref a0), some (.int a1), some (.int a2), some (.int a3)] [] τ))) ∧
    (∀ (a0 : Nat) (a1 : Int32) (a2 : Int32) (a3 : Int32) (τ : St), Ru M_H_whyNoWay d Q 29 [some (.ref a0), some (.int a1), some (.int a2), some (.int a3)] [] τ = Ru M_H_whyNoWay d Q 30 [some (.ref a0), some (.int a1), some (.int a2), some (.int a3)] [.int (-1)] τ) ∧
    (∀ (a0 : Nat) (a1 : Int32) (a2 : Int32) (a3 : Int32) (x0 : Int32) (τ : St), Ru M_H_whyNoWay d Q 30 [some (.ref a0), some (.int a1), some (.int a2), some (.int a3)] [.int x0] τ = Q (some (.int x0)) τ) ∧
    (∀ (a0 : Nat) (a1 : Int32) (a2 : Int32) (a3 : Int32) (τ : St), Ru M_H_whyNoWay d Q 31 [some (.ref a0), some (.int a1), some (.int a2), some (.int a3)] [] τ = Ru M_H_whyNoWay d Q 32 [some (.ref a0), some (.int a1), some (.int a2), some (.int a3)] [.ref a0] τ) ∧
    (∀ (a0 : Nat) (a1 : Int32) (a2 : Int32) (a3 : Int32) (x0 : Nat) (τ : St), Ru M_H_whyNoWay d Q 32 [some (.ref a0), some (.int a1), some (.int a2), some (.int a3)] [.ref x0] τ = (isA 11 x0 ∧ Ru M_H_whyNoWay d Q 35 [some (.ref a0), some (.int a1), some (.int a2), some (.int a3)] [.ref (rtab x0 2)] τ)) ∧
    (∀ (a0 : Nat) (a1 : Int32) (a2 : Int32) (a3 : Int32) (x0 : Nat) (τ : St), Ru M_H_whyNoWay d Q 35 [some (.ref a0), some (.int a1), some (.int a2), some (.int a3)] [.ref x0] τ = Ru M_H_whyNoWay d Q 36 [some (.ref a0), some (.int a1), some (.int a2), some (.int a3)] [.int a2, .ref x0] τ) ∧
    (∀ (a0 : Nat) (a1 : Int32) (a2 : Int32) (a3 : Int32) (x0 : Int32) (x1 : Nat) (τ : St), Ru M_H_whyNoWay d Q 36 [some (.ref a0), some (.int a1), some (.int a2), some (.int a3)] [.int x0, .ref x1] τ = (isA 0 x1 ∧ Cl d m_Ground_kindOf [.ref x1, .int x0] τ (fun v τ' => Ru M_H_whyNoWay d Q 39 [some (.ref a0), some (.int a1), some (.int a2), some (.int a3)] (v.toList ++ []) τ'))) ∧
    (∀ (a0 : Nat) (a1 : Int32) (a2 : Int32) (a3 : Int32) (x0 : Int32) (τ : St), Ru M_H_whyNoWay d Q 39 [some (.ref a0), some (.int a1), some (.int a2), some (.int a3)] [.int x0] τ = Ru M_H_whyNoWay d Q 40 [some (.ref a0), some (.int a1), some (.int a2), some (.int a3)] [.int 3, .int x0] τ) ∧
    (∀ (a0 : Nat) (a1 : Int32) (a2 : Int32) (a3 : Int32) (x0 : Int32) (x1 : Int32) (τ : St), Ru M_H_whyNoWay d Q 40 [some (.ref a0), some (.int a1), some (.int a2), some (.int a3)] [.int x0, .int x1] τ = ((x1 = x0 → Ru M_H_whyNoWay d Q 55 [some (.ref a0), some (.int a1), some (.int a2), some (.int a3)] [] τ) ∧ (¬ x1 = x0 → Ru M_H_whyNoWay d Q 43 [some (.ref a0), some (.int a1), some (.int a2), some (.int a3)] [] τ))) ∧
    (∀ (a0 : Nat) (a1 : Int32) (a2 : Int32) (a3 : Int32) (τ : St), Ru M_H_whyNoWay d Q 43 [some (.ref a0), some (.int a1), some (.int a2), some (.int a3)] [] τ = Ru M_H_whyNoWay d Q 44 [some (.ref a0), some (.int a1), some (.int a2), some (.int a3)] [.ref a0] τ) ∧
    (∀ (a0 : Nat) (a1 : Int32) (a2 : Int32) (a3 : Int32) (x0 : Nat) (τ : St), Ru M_H_whyNoWay d Q 44 [some (.ref a0), some (.int a1), some (.int a2), some (.int a3)] [.ref x0] τ = (isA 11 x0 ∧ Ru M_H_whyNoWay d Q 47 [some (.ref a0), some (.int a1), some (.int a2), some (.int a3)] [.ref (rtab x0 2)] τ)) ∧
    (∀ (a0 : Nat) (a1 : Int32) (a2 : Int32) (a3 : Int32) (x0 : Nat) (τ : St), Ru M_H_whyNoWay d Q 47 [some (.ref a0), some (.int a1), some (.int a2), some (.int a3)] [.ref x0] τ = Ru M_H_whyNoWay d Q 48 [some (.ref a0), some (.int a1), some (.int a2), some (.int a3)] [.int a3, .ref x0] τ) ∧
    (∀ (a0 : Nat) (a1 : Int32) (a2 : Int32) (a3 : Int32) (x0 : Int32) (x1 : Nat) (τ : St), Ru M_H_whyNoWay d Q 48 [some (.ref a0), some (.int a1), some (.int a2), some (.int a3)] [.int x0, .ref x1] τ = (isA 0 x1 ∧ Cl d m_Ground_kindOf [.ref x1, .int x0] τ (fun v τ' => Ru M_H_whyNoWay d Q 51 [some (.ref a0), some (.int a1), some (.int a2), some (.int a3)] (v.toList ++ []) τ'))) ∧
    (∀ (a0 : Nat) (a1 : Int32) (a2 : Int32) (a3 : Int32) (x0 : Int32) (τ : St), Ru M_H_whyNoWay d Q 51 [some (.ref a0), some (.int a1), some (.int a2), some (.int a3)] [.int x0] τ = Ru M_H_whyNoWay d Q 52 [some (.ref a0), some (.int a1), some (.int a2), some (.int a3)] [.int 3, .int x0] τ) ∧
    (∀ (a0 : Nat) (a1 : Int32) (a2 : Int32) (a3 : Int32) (x0 : Int32) (x1 : Int32) (τ : St), Ru M_H_whyNoWay d Q 52 [some (.ref a0), some (.int a1), some (.int a2), some (.int a3)] [.int x0, .int x1] τ = ((¬ x1 = x0 → Ru M_H_whyNoWay d Q 60 [some (.ref a0), some (.int a1), some (.int a2), some (.int a3)] [] τ) ∧ (x1 = x0 → Ru M_H_whyNoWay d Q 55 [some (.ref a0), some (.int a1), some (.int a2), some (.int a3)] [] τ))) ∧
    (∀ (a0 : Nat) (a1 : Int32) (a2 : Int32) (a3 : Int32) (τ : St), Ru M_H_whyNoWay d Q 55 [some (.ref a0), some (.int a1), some (.int a2), some (.int a3)] [] τ = Ru M_H_whyNoWay d Q 57 [some (.ref a0), some (.int a1), some (.int a2), some (.int a3)] [.int (-2)] τ) ∧
    (∀ (a0 : Nat) (a1 : Int32) (a2 : Int32) (a3 : Int32) (x0 : Int32) (τ : St), Ru M_H_whyNoWay d Q 57 [some (.ref a0), some (.int a1), some (.int a2), some (.int a3)] [.int x0] τ = Ru M_H_whyNoWay d Q 61 [some (.ref a0), some (.int a1), some (.int a2), some (.int a3)] [.int x0] τ) ∧
    (∀ (a0 : Nat) (a1 : Int32) (a2 : Int32) (a3 : Int32) (τ : St), Ru M_H_whyNoWay d Q 60 [some (.ref a0), some (.int a1), some (.int a2), some (.int a3)] [] τ = Ru M_H_whyNoWay d Q 61 [some (.ref a0), some (.int a1), some (.int a2), some (.int a3)] [.int 0] τ) ∧
    (∀ (a0 : Nat) (a1 : Int32) (a2 : Int32) (a3 : Int32) (x0 : Int32) (τ : St), Ru M_H_whyNoWay d Q 61 [some (.ref a0), some (.int a1), some (.int a2), some (.int a3)] [.int x0] τ = Q (some (.int x0)) τ) := ⟨
  fun _ _ _ _ _ => (R_at ok_H_whyNoWay rfl).trans (e_ild rfl),
  fun _ _ _ _ x0 _ => (R_at ok_H_whyNoWay rfl).trans (e_cs [.int x0] rfl rfl rfl),
  fun _ _ _ _ _ _ => (R_at ok_H_whyNoWay rfl).trans e_if,
  fun _ _ _ _ _ => (R_at ok_H_whyNoWay rfl).trans (e_ald rfl),
  fun _ _ _ _ _ _ => (R_at ok_H_whyNoWay rfl).trans e_gR,
  fun _ _ _ _ _ _ => (R_at ok_H_whyNoWay rfl).trans (e_ild rfl),
  fun _ _ _ _ x0 _ _ => (R_at ok_H_whyNoWay rfl).trans (e_cv [.int x0] rfl rfl rfl),
  fun _ _ _ _ _ _ => (R_at ok_H_whyNoWay rfl).trans e_if,
  fun _ _ _ _ _ => (R_at ok_H_whyNoWay rfl).trans (e_ald rfl),
  fun _ _ _ _ _ _ => (R_at ok_H_whyNoWay rfl).trans e_gR,
  fun _ _ _ _ _ _ => (R_at ok_H_whyNoWay rfl).trans (e_ild rfl),
  fun _ _ _ _ x0 _ _ => (R_at ok_H_whyNoWay rfl).trans (e_cv [.int x0] rfl rfl rfl),
  fun _ _ _ _ _ _ => (R_at ok_H_whyNoWay rfl).trans e_ifn,
  fun _ _ _ _ _ => (R_at ok_H_whyNoWay rfl).trans e_push,
  fun _ _ _ _ _ _ => (R_at ok_H_whyNoWay rfl).trans e_iret,
  fun _ _ _ _ _ => (R_at ok_H_whyNoWay rfl).trans (e_ald rfl),
  fun _ _ _ _ _ _ => (R_at ok_H_whyNoWay rfl).trans e_gR,
  fun _ _ _ _ _ _ => (R_at ok_H_whyNoWay rfl).trans (e_ild rfl),
  fun _ _ _ _ x0 _ _ => (R_at ok_H_whyNoWay rfl).trans (e_cv [.int x0] rfl rfl rfl),
  fun _ _ _ _ _ _ => (R_at ok_H_whyNoWay rfl).trans e_push,
  fun _ _ _ _ _ _ _ => (R_at ok_H_whyNoWay rfl).trans e_ic,
  fun _ _ _ _ _ => (R_at ok_H_whyNoWay rfl).trans (e_ald rfl),
  fun _ _ _ _ _ _ => (R_at ok_H_whyNoWay rfl).trans e_gR,
  fun _ _ _ _ _ _ => (R_at ok_H_whyNoWay rfl).trans (e_ild rfl),
  fun _ _ _ _ x0 _ _ => (R_at ok_H_whyNoWay rfl).trans (e_cv [.int x0] rfl rfl rfl),
  fun _ _ _ _ _ _ => (R_at ok_H_whyNoWay rfl).trans e_push,
  fun _ _ _ _ _ _ _ => (R_at ok_H_whyNoWay rfl).trans e_icn,
  fun _ _ _ _ _ => (R_at ok_H_whyNoWay rfl).trans e_push,
  fun _ _ _ _ _ _ => (R_at ok_H_whyNoWay rfl).trans e_goto,
  fun _ _ _ _ _ => (R_at ok_H_whyNoWay rfl).trans e_push,
  fun _ _ _ _ _ _ => (R_at ok_H_whyNoWay rfl).trans e_iret⟩
set_option maxHeartbeats 4000000 in
theorem N_H_isWeight (d : Nat) (Q : Qt) : ∀ (x0 : Int32) (τ : St), Cl (d + 1) m_H_isWeight [.int x0] τ Q = Ru M_H_isWeight d Q 0 [some (.int x0)] [] τ := fun _ _ => propext ⟨fun h => h.2, fun h => ⟨Nat.le_of_ble_eq_true rfl, h⟩⟩
set_option maxHeartbeats 4000000 in
theorem E_H_isWeight (d : Nat) (Q : Qt) :
    (∀ (a0 : Int32) (τ : St), Ru M_H_isWeight d Q 0 [some (.int a0)] [] τ = Ru M_H_isWeight d Q 1 [some (.int a0)] [.int a0] τ) ∧
    (∀ (a0 : Int32) (x0 : Int32) (τ : St), Ru M_H_isWeight d Q 1 [some (.int a0)] [.int x0] τ = Ru M_H_isWeight d Q 2 [some (.int a0)] [.int 1, .int x0] τ) ∧
    (∀ (a0 : Int32) (x0 : Int32) (x1 : Int32) (τ : St), Ru M_H_isWeight d Q 2 [some (.int a0)] [.int x0, .int x1] τ = ((x1 < x0 → Ru M_H_isWeight d Q 15 [some (.int a0)] [] τ) ∧ (¬ x1 < x0 → Ru M_H_isWeight d Q 5 [some (.int a0)] [] τ))) ∧
    (∀ (a0 : Int32) (τ : St), Ru M_H_isWeight d Q 5 [some (.int a0)] [] τ = Ru M_H_isWeight d Q 6 [some (.int a0)] [.int a0] τ) ∧
    (∀ (a0 : Int32) (x0 : Int32) (τ : St), Ru M_H_isWeight d Q 6 [some (.int a0)] [.int x0] τ = Ru M_H_isWeight d Q 8 [some (.int a0)] [.int 99, .int x0] τ) ∧
    (∀ (a0 : Int32) (x0 : Int32) (x1 : Int32) (τ : St), Ru M_H_isWeight d Q 8 [some (.int a0)] [.int x0, .int x1] τ = ((x0 < x1 → Ru M_H_isWeight d Q 15 [some (.int a0)] [] τ) ∧ (¬ x0 < x1 → Ru M_H_isWeight d Q 11 [some (.int a0)] [] τ))) ∧
    (∀ (a0 : Int32) (τ : St), Ru M_H_isWeight d Q 11 [some (.int a0)] [] τ = Ru M_H_isWeight d Q 12 [some (.int a0)] [.int 1] τ) ∧
    (∀ (a0 : Int32) (x0 : Int32) (τ : St), Ru M_H_isWeight d Q 12 [some (.int a0)] [.int x0] τ = Ru M_H_isWeight d Q 16 [some (.int a0)] [.int x0] τ) ∧
    (∀ (a0 : Int32) (τ : St), Ru M_H_isWeight d Q 15 [some (.int a0)] [] τ = Ru M_H_isWeight d Q 16 [some (.int a0)] [.int 0] τ) ∧
    (∀ (a0 : Int32) (x0 : Int32) (τ : St), Ru M_H_isWeight d Q 16 [some (.int a0)] [.int x0] τ = ((x0 = 0 ∨ x0 = 1) ∧ Q (some (.int x0)) τ)) := ⟨
  fun _ _ => (R_at ok_H_isWeight rfl).trans (e_ild rfl),
  fun _ _ _ => (R_at ok_H_isWeight rfl).trans e_push,
  fun _ _ _ _ => (R_at ok_H_isWeight rfl).trans e_ic,
  fun _ _ => (R_at ok_H_isWeight rfl).trans (e_ild rfl),
  fun _ _ _ => (R_at ok_H_isWeight rfl).trans e_push,
  fun _ _ _ _ => (R_at ok_H_isWeight rfl).trans e_ic,
  fun _ _ => (R_at ok_H_isWeight rfl).trans e_push,
  fun _ _ _ => (R_at ok_H_isWeight rfl).trans e_goto,
  fun _ _ => (R_at ok_H_isWeight rfl).trans e_push,
  fun _ _ _ => (R_at ok_H_isWeight rfl).trans e_zret⟩
set_option maxHeartbeats 4000000 in
theorem N_H_startWays (d : Nat) (Q : Qt) : ∀ (x0 : Nat) (x1 : Int32) (τ : St), Cl (d + 1) m_H_startWays [.ref x0, .int x1] τ Q = Ru M_H_startWays d Q 0 [some (.ref x0), some (.int x1)] [] τ := fun _ _ _ => propext ⟨fun h => h.2, fun h => ⟨Nat.le_of_ble_eq_true rfl, h⟩⟩
set_option maxHeartbeats 4000000 in
theorem E_H_startWays (d : Nat) (Q : Qt) :
    (∀ (a0 : Nat) (a1 : Int32) (τ : St), Ru M_H_startWays d Q 0 [some (.ref a0), some (.int a1)] [] τ = Ru M_H_startWays d Q 1 [some (.ref a0), some (.int a1)] [.ref a0] τ) ∧
    (∀ (a0 : Nat) (a1 : Int32) (x0 : Nat) (τ : St), Ru M_H_startWays d Q 1 [some (.ref a0), some (.int a1)] [.ref x0] τ = (isA 11 x0 ∧ Ru M_H_startWays d Q 4 [some (.ref a0), some (.int a1)] [.ref (rtab x0 12)] τ)) ∧
    (∀ (a0 : Nat) (a1 : Int32) (x0 : Nat) (τ : St), Ru M_H_startWays d Q 4 [some (.ref a0), some (.int a1)] [.ref x0] τ = Ru M_H_startWays d Q 5 [some (.ref a0), some (.int a1)] [.ref a0, .ref x0] τ) ∧
    (∀ (a0 : Nat) (a1 : Int32) (x0 : Nat) (x1 : Nat) (τ : St), Ru M_H_startWays d Q 5 [some (.ref a0), some (.int a1)] [.ref x0, .ref x1] τ = (isA 11 x0 ∧ Ru M_H_startWays d Q 8 [some (.ref a0), some (.int a1)] [.ref (rtab x0 10), .ref x1] τ)) ∧
    (∀ (a0 : Nat) (a1 : Int32) (x0 : Nat) (x1 : Nat) (τ : St), Ru M_H_startWays d Q 8 [some (.ref a0), some (.int a1)] [.ref x0, .ref x1] τ = Ru M_H_startWays d Q 9 [some (.ref a0), some (.int a1)] [.int a1, .ref x0, .ref x1] τ) ∧
    (∀ (a0 : Nat) (a1 : Int32) (x0 : Int32) (x1 : Nat) (x2 : Nat) (τ : St), Ru M_H_startWays d Q 9 [some (.ref a0), some (.int a1)] [.int x0, .ref x1, .ref x2] τ = Ru M_H_startWays d Q 10 [some (.ref a0), some (.int a1)] [.ref a0, .int x0, .ref x1, .ref x2] τ) ∧
    (∀ (a0 : Nat) (a1 : Int32) (x0 : Nat) (x1 : Int32) (x2 : Nat) (x3 : Nat) (τ : St), Ru M_H_startWays d Q 10 [some (.ref a0), some (.int a1)] [.ref x0, .int x1, .ref x2, .ref x3] τ = (isA 11 x0 ∧ Ru M_H_startWays d Q 13 [some (.ref a0), some (.int a1)] [.ref (rtab x0 3), .int x1, .ref x2, .ref x3] τ)) ∧
    (∀ (a0 : Nat) (a1 : Int32) (x0 : Nat) (x1 : Int32) (x2 : Nat) (x3 : Nat) (τ : St), Ru M_H_startWays d Q 13 [some (.ref a0), some (.int a1)] [.ref x0, .int x1, .ref x2, .ref x3] τ = (isA 1 x0 ∧ Ru M_H_startWays d Q 16 [some (.ref a0), some (.int a1)] [.long (τ.2 x0 3), .int x1, .ref x2, .ref x3] τ)) ∧
    (∀ (a0 : Nat) (a1 : Int32) (x0 : Int64) (x1 : Int32) (x2 : Nat) (x3 : Nat) (τ : St), Ru M_H_startWays d Q 16 [some (.ref a0), some (.int a1)] [.long x0, .int x1, .ref x2, .ref x3] τ = (isA 10 x3 ∧ Cl d m_Ways_start [.ref x3, .ref x2, .int x1, .long x0] τ (fun v τ' => Ru M_H_startWays d Q 19 [some (.ref a0), some (.int a1)] (v.toList ++ []) τ'))) ∧
    (∀ (a0 : Nat) (a1 : Int32) (τ : St), Ru M_H_startWays d Q 19 [some (.ref a0), some (.int a1)] [] τ = Ru M_H_startWays d Q 20 [some (.ref a0), some (.int a1)] [.ref a0] τ) ∧
    (∀ (a0 : Nat) (a1 : Int32) (x0 : Nat) (τ : St), Ru M_H_startWays d Q 20 [some (.ref a0), some (.int a1)] [.ref x0] τ = (isA 11 x0 ∧ Ru M_H_startWays d Q 23 [some (.ref a0), some (.int a1)] [.ref (rtab x0 12)] τ)) ∧
    (∀ (a0 : Nat) (a1 : Int32) (x0 : Nat) (τ : St), Ru M_H_startWays d Q 23 [some (.ref a0), some (.int a1)] [.ref x0] τ = Ru M_H_startWays d Q 24 [some (.ref a0), some (.int a1)] [.ref a0, .ref x0] τ) ∧
    (∀ (a0 : Nat) (a1 : Int32) (x0 : Nat) (x1 : Nat) (τ : St), Ru M_H_startWays d Q 24 [some (.ref a0), some (.int a1)] [.ref x0, .ref x1] τ = (isA 11 x0 ∧ Ru M_H_startWays d Q 27 [some (.ref a0), some (.int a1)] [.ref (rtab x0 3), .ref x1] τ)) ∧
    (∀ (a0 : Nat) (a1 : Int32) (x0 : Nat) (x1 : Nat) (τ : St), Ru M_H_startWays d Q 27 [some (.ref a0), some (.int a1)] [.ref x0, .ref x1] τ = (isA 1 x0 ∧ Ru M_H_startWays d Q 30 [some (.ref a0), some (.int a1)] [.int (τ.1 x0 6), .ref x1] τ)) ∧
    (∀ (a0 : Nat) (a1 : Int32) (x0 : Int32) (x1 : Nat) (τ : St), Ru M_H_startWays d Q 30 [some (.ref a0), some (.int a1)] [.int x0, .ref x1] τ = Ru M_H_startWays d Q 31 [some (.ref a0), some (.int a1)] [.ref a0, .int x0, .ref x1] τ) ∧
    (∀ (a0 : Nat) (a1 : Int32) (x0 : Nat) (x1 : Int32) (x2 : Nat) (τ : St), Ru M_H_startWays d Q 31 [some (.ref a0), some (.int a1)] [.ref x0, .int x1, .ref x2] τ = (isA 11 x0 ∧ Ru M_H_startWays d Q 34 [some (.ref a0), some (.int a1)] [.ref (rtab x0 3), .int x1, .ref x2] τ)) ∧
    (∀ (a0 : Nat) (a1 : Int32) (x0 : Nat) (x1 : Int32) (x2 : Nat) (τ : St), Ru M_H_startWays d Q 34 [some (.ref a0), some (.int a1)] [.ref x0, .int x1, .ref x2] τ = (isA 1 x0 ∧ Ru M_H_startWays d Q 37 [some (.ref a0), some (.int a1)] [.int (τ.1 x0 5), .int x1, .ref x2] τ)) ∧
    (∀ (a0 : Nat) (a1 : Int32) (x0 : Int32) (x1 : Int32) (x2 : Nat) (τ : St), Ru M_H_startWays d Q 37 [some (.ref a0), some (.int a1)] [.int x0, .int x1, .ref x2] τ = Cl d m_H_kindOf [.int x0] τ (fun v τ' => Ru M_H_startWays d Q 40 [some (.ref a0), some (.int a1)] (v.toList ++ [.int x1, .ref x2]) τ')) ∧
    (∀ (a0 : Nat) (a1 : Int32) (x0 : Int32) (x1 : Int32) (x2 : Nat) (τ : St), Ru M_H_startWays d Q 40 [some (.ref a0), some (.int a1)] [.int x0, .int x1, .ref x2] τ = (isA 10 x2 ∧ Cl d m_Ways_turnTo [.ref x2, .int x1, .int x0] τ (fun v τ' => Ru M_H_startWays d Q 43 [some (.ref a0), some (.int a1)] (v.toList ++ []) τ'))) ∧
    (∀ (a0 : Nat) (a1 : Int32) (τ : St), Ru M_H_startWays d Q 43 [some (.ref a0), some (.int a1)] [] τ = Q none τ) := ⟨
  fun _ _ _ => (R_at ok_H_startWays rfl).trans (e_ald rfl),
  fun _ _ _ _ => (R_at ok_H_startWays rfl).trans e_gR,
  fun _ _ _ _ => (R_at ok_H_startWays rfl).trans (e_ald rfl),
  fun _ _ _ _ _ => (R_at ok_H_startWays rfl).trans e_gR,
  fun _ _ _ _ _ => (R_at ok_H_startWays rfl).trans (e_ild rfl),
  fun _ _ _ _ _ _ => (R_at ok_H_startWays rfl).trans (e_ald rfl),
  fun _ _ _ _ _ _ _ => (R_at ok_H_startWays rfl).trans e_gR,
  fun _ _ _ _ _ _ _ => (R_at ok_H_startWays rfl).trans e_gL,
  fun _ _ x0 x1 x2 _ _ => (R_at ok_H_startWays rfl).trans (e_cv [.ref x2, .int x1, .long x0] rfl rfl rfl),
  fun _ _ _ => (R_at ok_H_startWays rfl).trans (e_ald rfl),
  fun _ _ _ _ => (R_at ok_H_startWays rfl).trans e_gR,
  fun _ _ _ _ => (R_at ok_H_startWays rfl).trans (e_ald rfl),
  fun _ _ _ _ _ => (R_at ok_H_startWays rfl).trans e_gR,
  fun _ _ _ _ _ => (R_at ok_H_startWays rfl).trans e_gI,
  fun _ _ _ _ _ => (R_at ok_H_startWays rfl).trans (e_ald rfl),
  fun _ _ _ _ _ _ => (R_at ok_H_startWays rfl).trans e_gR,
  fun _ _ _ _ _ _ => (R_at ok_H_startWays rfl).trans e_gI,
  fun _ _ x0 _ _ _ => (R_at ok_H_startWays rfl).trans (e_cs [.int x0] rfl rfl rfl),
  fun _ _ x0 x1 _ _ => (R_at ok_H_startWays rfl).trans (e_cv [.int x1, .int x0] rfl rfl rfl),
  fun _ _ _ => (R_at ok_H_startWays rfl).trans e_vret⟩
set_option maxHeartbeats 4000000 in
theorem N_H_pass (d : Nat) (Q : Qt) : ∀ (x0 : Nat) (τ : St), Cl (d + 1) m_H_pass [.ref x0] τ Q = Ru M_H_pass d Q 0 [some (.ref x0), none, none, none, none, none] [] τ := fun _ _ => propext ⟨fun h => h.2, fun h => ⟨Nat.le_of_ble_eq_true rfl, h⟩⟩
set_option maxHeartbeats 4000000 in
theorem E_H_pass (d : Nat) (Q : Qt) :
    (∀ (a0 : Nat) (τ : St), Ru M_H_pass d Q 0 [some (.ref a0), none, none, none, none, none] [] τ = Ru M_H_pass d Q 1 [some (.ref a0), none, none, none, none, none] [.int 0] τ) ∧
    (∀ (a0 : Nat) (x0 : Int32) (τ : St), Ru M_H_pass d Q 1 [some (.ref a0), none, none, none, none, none] [.int x0] τ = Rs M_H_pass d Q 2 [some (.ref a0), some (.int x0), none, none, none, none] [] τ) ∧
    (∀ (a0 : Nat) (a1 : Int32) (a2 : Option Value) (a4 : Option Value) (τ : St), Ru M_H_pass d Q 2 [some (.ref a0), some (.int a1), a2, none, a4, none] [] τ = Ru M_H_pass d Q 3 [some (.ref a0), some (.int a1), a2, none, a4, none] [.int a1] τ) ∧
    (∀ (a0 : Nat) (a1 : Int32) (a2 : Option Value) (a4 : Option Value) (x0 : Int32) (τ : St), Ru M_H_pass d Q 3 [some (.ref a0), some (.int a1), a2, none, a4, none] [.int x0] τ = Ru M_H_pass d Q 5 [some (.ref a0), some (.int a1), a2, none, a4, none] [.int 9, .int x0] τ) ∧
    (∀ (a0 : Nat) (a1 : Int32) (a2 : Option Value) (a4 : Option Value) (x0 : Int32) (x1 : Int32) (τ : St), Ru M_H_pass d Q 5 [some (.ref a0), some (.int a1), a2, none, a4, none] [.int x0, .int x1] τ = ((x0 < x1 → Ru M_H_pass d Q 74 [some (.ref a0), some (.int a1), a2, none, a4, none] [] τ) ∧ (¬ x0 < x1 → Ru M_H_pass d Q 8 [some (.ref a0), some (.int a1), a2, none, a4, none] [] τ))) ∧
    (∀ (a0 : Nat) (a1 : Int32) (a2 : Option Value) (a4 : Option Value) (τ : St), Ru M_H_pass d Q 8 [some (.ref a0), some (.int a1), a2, none, a4, none] [] τ = Ru M_H_pass d Q 9 [some (.ref a0), some (.int a1), a2, none, a4, none] [.ref a0] τ) ∧
    (∀ (a0 : Nat) (a1 : Int32) (a2 : Option Value) (a4 : Option Value) (x0 : Nat) (τ : St), Ru M_H_pass d Q 9 [some (.ref a0), some (.int a1), a2, none, a4, none] [.ref x0] τ = (isA 11 x0 ∧ Ru M_H_pass d Q 12 [some (.ref a0), some (.int a1), a2, none, a4, none] [.ref (rtab x0 2)] τ)) ∧
    (∀ (a0 : Nat) (a1 : Int32) (a2 : Option Value) (a4 : Option Value) (x0 : Nat) (τ : St), Ru M_H_pass d Q 12 [some (.ref a0), some (.int a1), a2, none, a4, none] [.ref x0] τ = Ru M_H_pass d Q 13 [some (.ref a0), some (.int a1), a2, none, a4, none] [.int a1, .ref x0] τ) ∧
    (∀ (a0 : Nat) (a1 : Int32) (a2 : Option Value) (a4 : Option Value) (x0 : Int32) (x1 : Nat) (τ : St), Ru M_H_pass d Q 13 [some (.ref a0), some (.int a1), a2, none, a4, none] [.int x0, .ref x1] τ = (isA 0 x1 ∧ Cl d m_Ground_upTo [.ref x1, .int x0] τ (fun v τ' => Ru M_H_pass d Q 16 [some (.ref a0), some (.int a1), a2, none, a4, none] (v.toList ++ []) τ'))) ∧
    (∀ (a0 : Nat) (a1 : Int32) (a2 : Option Value) (a4 : Option Value) (x0 : Int64) (τ : St), Ru M_H_pass d Q 16 [some (.ref a0), some (.int a1), a2, none, a4, none] [.long x0] τ = Ru M_H_pass d Q 17 [some (.ref a0), some (.int a1), some (.long x0), none, a4, none] [] τ) ∧
    (∀ (a0 : Nat) (a1 : Int32) (a2 : Int64) (a4 : Option Value) (τ : St), Ru M_H_pass d Q 17 [some (.ref a0), some (.int a1), some (.long a2), none, a4, none] [] τ = Ru M_H_pass d Q 18 [some (.ref a0), some (.int a1), some (.long a2), none, a4, none] [.ref a0] τ) ∧
    (∀ (a0 : Nat) (a1 : Int32) (a2 : Int64) (a4 : Option Value) (x0 : Nat) (τ : St), Ru M_H_pass d Q 18 [some (.ref a0), some (.int a1), some (.long a2), none, a4, none] [.ref x0] τ = (isA 11 x0 ∧ Ru M_H_pass d Q 21 [some (.ref a0), some (.int a1), some (.long a2), none, a4, none] [.ref (rtab x0 2)] τ)) ∧
    (∀ (a0 : Nat) (a1 : Int32) (a2 : Int64) (a4 : Option Value) (x0 : Nat) (τ : St), Ru M_H_pass d Q 21 [some (.ref a0), some (.int a1), some (.long a2), none, a4, none] [.ref x0] τ = Ru M_H_pass d Q 22 [some (.ref a0), some (.int a1), some (.long a2), none, a4, none] [.ref a0, .ref x0] τ) ∧
    (∀ (a0 : Nat) (a1 : Int32) (a2 : Int64) (a4 : Option Value) (x0 : Nat) (x1 : Nat) (τ : St), Ru M_H_pass d Q 22 [some (.ref a0), some (.int a1), some (.long a2), none, a4, none] [.ref x0, .ref x1] τ = (isA 11 x0 ∧ Ru M_H_pass d Q 25 [some (.ref a0), some (.int a1), some (.long a2), none, a4, none] [.ref (rtab x0 2), .ref x1] τ)) ∧
    (∀ (a0 : Nat) (a1 : Int32) (a2 : Int64) (a4 : Option Value) (x0 : Nat) (x1 : Nat) (τ : St), Ru M_H_pass d Q 25 [some (.ref a0), some (.int a1), some (.long a2), none, a4, none] [.ref x0, .ref x1] τ = (isA 0 x0 ∧ Ru M_H_pass d Q 28 [some (.ref a0), some (.int a1), some (.long a2), none, a4, none] [.long (τ.2 x0 7), .ref x1] τ)) ∧
    (∀ (a0 : Nat) (a1 : Int32) (a2 : Int64) (a4 : Option Value) (x0 : Int64) (x1 : Nat) (τ : St), Ru M_H_pass d Q 28 [some (.ref a0), some (.int a1), some (.long a2), none, a4, none] [.long x0, .ref x1] τ = Ru M_H_pass d Q 29 [some (.ref a0), some (.int a1), some (.long a2), none, a4, none] [.long a2, .long x0, .ref x1] τ) ∧
    (∀ (a0 : Nat) (a1 : Int32) (a2 : Int64) (a4 : Option Value) (x0 : Int64) (x1 : Int64) (x2 : Nat) (τ : St), Ru M_H_pass d Q 29 [some (.ref a0), some (.int a1), some (.long a2), none, a4, none] [.long x0, .long x1, .ref x2] τ = (isA 0 x2 ∧ Cl d m_Ground_joined [.ref x2, .long x1, .long x0] τ (fun v τ' => Ru M_H_pass d Q 32 [some (.ref a0), some (.int a1), some (.long a2), none, a4, none] (v.toList ++ []) τ'))) ∧
    (∀ (a0 : Nat) (a1 : Int32) (a2 : Int64) (a4 : Option Value) (x0 : Int64) (τ : St), Ru M_H_pass d Q 32 [some (.ref a0), some (.int a1), some (.long a2), none, a4, none] [.long x0] τ = Ru M_H_pass d Q 33 [some (.ref a0), some (.int a1), some (.long a2), none, a4, none] [.ref a0, .long x0] τ) ∧
    (∀ (a0 : Nat) (a1 : Int32) (a2 : Int64) (a4 : Option Value) (x0 : Nat) (x1 : Int64) (τ : St), Ru M_H_pass d Q 33 [some (.ref a0), some (.int a1), some (.long a2), none, a4, none] [.ref x0, .long x1] τ = (isA 11 x0 ∧ Ru M_H_pass d Q 36 [some (.ref a0), some (.int a1), some (.long a2), none, a4, none] [.ref (rtab x0 2), .long x1] τ)) ∧
    (∀ (a0 : Nat) (a1 : Int32) (a2 : Int64) (a4 : Option Value) (x0 : Nat) (x1 : Int64) (τ : St), Ru M_H_pass d Q 36 [some (.ref a0), some (.int a1), some (.long a2), none, a4, none] [.ref x0, .long x1] τ = Ru M_H_pass d Q 37 [some (.ref a0), some (.int a1), some (.long a2), none, a4, none] [.ref a0, .ref x0, .long x1] τ) ∧
    (∀ (a0 : Nat) (a1 : Int32) (a2 : Int64) (a4 : Option Value) (x0 : Nat) (x1 : Nat) (x2 : Int64) (τ : St), Ru M_H_pass d Q 37 [some (.ref a0), some (.int a1), some (.long a2), none, a4, none] [.ref x0, .ref x1, .long x2] τ = (isA 11 x0 ∧ Ru M_H_pass d Q 40 [some (.ref a0), some (.int a1), some (.long a2), none, a4, none] [.ref (rtab x0 2), .ref x1, .long x2] τ)) ∧
    (∀ (a0 : Nat) (a1 : Int32) (a2 : Int64) (a4 : Option Value) (x0 : Nat) (x1 : Nat) (x2 : Int64) (τ : St), Ru M_H_pass d Q 40 [some (.ref a0), some (.int a1), some (.long a2), none, a4, none] [.ref x0, .ref x1, .long x2] τ = (isA 0 x0 ∧ Ru M_H_pass d Q 43 [some (.ref a0), some (.int a1), some (.long a2), none, a4, none] [.long (τ.2 x0 8), .ref x1, .long x2] τ)) ∧
    (∀ (a0 : Nat) (a1 : Int32) (a2 : Int64) (a4 : Option Value) (x0 : Int64) (x1 : Nat) (x2 : Int64) (τ : St), Ru M_H_pass d Q 43 [some (.ref a0), some (.int a1), some (.long a2), none, a4, none] [.long x0, .ref x1, .long x2] τ = Ru M_H_pass d Q 44 [some (.ref a0), some (.int a1), some (.long a2), none, a4, none] [.long a2, .long x0, .ref x1, .long x2] τ) ∧
    (∀ (a0 : Nat) (a1 : Int32) (a2 : Int64) (a4 : Option Value) (x0 : Int64) (x1 : Int64) (x2 : Nat) (x3 : Int64) (τ : St), Ru M_H_pass d Q 44 [some (.ref a0), some (.int a1), some (.long a2), none, a4, none] [.long x0, .long x1, .ref x2, .long x3] τ = (isA 0 x2 ∧ Cl d m_Ground_joined [.ref x2, .long x1, .long x0] τ (fun v τ' => Ru M_H_pass d Q 47 [some (.ref a0), some (.int a1), some (.long a2), none, a4, none] (v.toList ++ [.long x3]) τ'))) ∧
    (∀ (a0 : Nat) (a1 : Int32) (a2 : Int64) (a4 : Option Value) (x0 : Int64) (x1 : Int64) (τ : St), Ru M_H_pass d Q 47 [some (.ref a0), some (.int a1), some (.long a2), none, a4, none] [.long x0, .long x1] τ = Ru M_H_pass d Q 48 [some (.ref a0), some (.int a1), some (.long a2), none, a4, none] [.long (x1 &&& x0)] τ) ∧
    (∀ (a0 : Nat) (a1 : Int32) (a2 : Int64) (a4 : Option Value) (x0 : Int64) (τ : St), Ru M_H_pass d Q 48 [some (.ref a0), some (.int a1), some (.long a2), none, a4, none] [.long x0] τ = Ru M_H_pass d Q 50 [some (.ref a0), some (.int a1), some (.long a2), none, some (.long x0), none] [] τ) ∧
    (∀ (a0 : Nat) (a1 : Int32) (a2 : Int64) (a4 : Int64) (τ : St), Ru M_H_pass d Q 50 [some (.ref a0), some (.int a1), some (.long a2), none, some (.long a4), none] [] τ = Ru M_H_pass d Q 52 [some (.ref a0), some (.int a1), some (.long a2), none, some (.long a4), none] [.long a4] τ) ∧
    (∀ (a0 : Nat) (a1 : Int32) (a2 : Int64) (a4 : Int64) (x0 : Int64) (τ : St), Ru M_H_pass d Q 52 [some (.ref a0), some (.int a1), some (.long a2), none, some (.long a4), none] [.long x0] τ = Ru M_H_pass d Q 53 [some (.ref a0), some (.int a1), some (.long a2), none, some (.long a4), none] [.long 0, .long x0] τ) ∧
    (∀ (a0 : Nat) (a1 : Int32) (a2 : Int64) (a4 : Int64) (x0 : Int64) (x1 : Int64) (τ : St), Ru M_H_pass d Q 53 [some (.ref a0), some (.int a1), some (.long a2), none, some (.long a4), none] [.long x0, .long x1] τ = Ru M_H_pass d Q 54 [some (.ref a0), some (.int a1), some (.long a2), none, some (.long a4), none] [.int (lg_cmp x1 x0)] τ) ∧
    (∀ (a0 : Nat) (a1 : Int32) (a2 : Int64) (a4 : Int64) (x0 : Int32) (τ : St), Ru M_H_pass d Q 54 [some (.ref a0), some (.int a1), some (.long a2), none, some (.long a4), none] [.int x0] τ = ((x0 = 0 → Ru M_H_pass d Q 68 [some (.ref a0), some (.int a1), some (.long a2), none, some (.long a4), none] [] τ) ∧ (¬ x0 = 0 → Ru M_H_pass d Q 57 [some (.ref a0), some (.int a1), some (.long a2), none, some (.long a4), none] [] τ))) ∧
    (∀ (a0 : Nat) (a1 : Int32) (a2 : Int64) (a4 : Int64) (τ : St), Ru M_H_pass d Q 57 [some (.ref a0), some (.int a1), some (.long a2), none, some (.long a4), none] [] τ = Ru M_H_pass d Q 58 [some (.ref a0), some (.int a1), some (.long a2), none, some (.long a4), none] [.ref a0] τ) ∧
    (∀ (a0 : Nat) (a1 : Int32) (a2 : Int64) (a4 : Int64) (x0 : Nat) (τ : St), Ru M_H_pass d Q 58 [some (.ref a0), some (.int a1), some (.long a2), none, some (.long a4), none] [.ref x0] τ = (isA 11 x0 ∧ Ru M_H_pass d Q 61 [some (.ref a0), some (.int a1), some (.long a2), none, some (.long a4), none] [.ref (rtab x0 1)] τ)) ∧
    (∀ (a0 : Nat) (a1 : Int32) (a2 : Int64) (a4 : Int64) (x0 : Nat) (τ : St), Ru M_H_pass d Q 61 [some (.ref a0), some (.int a1), some (.long a2), none, some (.long a4), none] [.ref x0] τ = Ru M_H_pass d Q 63 [some (.ref a0), some (.int a1), some (.long a2), none, some (.long a4), none] [.long a4, .ref x0] τ) ∧
    (∀ (a0 : Nat) (a1 : Int32) (a2 : Int64) (a4 : Int64) (x0 : Int64) (x1 : Nat) (τ : St), Ru M_H_pass d Q 63 [some (.ref a0), some (.int a1), some (.long a2), none, some (.long a4), none] [.long x0, .ref x1] τ = (isA 4 x1 ∧ Cl d m_Row_only [.ref x1, .long x0] τ (fun v τ' => Ru M_H_pass d Q 66 [some (.ref a0), some (.int a1), some (.long a2), none, some (.long a4), none] (v.toList ++ []) τ'))) ∧
    (∀ (a0 : Nat) (a1 : Int32) (a2 : Int64) (a4 : Int64) (τ : St), Ru M_H_pass d Q 66 [some (.ref a0), some (.int a1), some (.long a2), none, some (.long a4), none] [] τ = Ru M_H_pass d Q 67 [some (.ref a0), some (.int a1), some (.long a2), none, some (.long a4), none] [.int a1] τ) ∧
    (∀ (a0 : Nat) (a1 : Int32) (a2 : Int64) (a4 : Int64) (x0 : Int32) (τ : St), Ru M_H_pass d Q 67 [some (.ref a0), some (.int a1), some (.long a2), none, some (.long a4), none] [.int x0] τ = Q (some (.int x0)) τ) ∧
    (∀ (a0 : Nat) (a1 : Int32) (a2 : Int64) (a4 : Int64) (τ : St), Ru M_H_pass d Q 68 [some (.ref a0), some (.int a1), some (.long a2), none, some (.long a4), none] [] τ = Ru M_H_pass d Q 71 [some (.ref a0), some (.int (a1 + 1)), some (.long a2), none, some (.long a4), none] [] τ) ∧
    (∀ (a0 : Nat) (a1 : Int32) (a2 : Int64) (a4 : Int64) (τ : St), Ru M_H_pass d Q 71 [some (.ref a0), some (.int a1), some (.long a2), none, some (.long a4), none] [] τ = Rs M_H_pass d Q 2 [some (.ref a0), some (.int a1), some (.long a2), none, some (.long a4), none] [] τ) ∧
    (∀ (a0 : Nat) (a1 : Int32) (a2 : Option Value) (a4 : Option Value) (τ : St), Ru M_H_pass d Q 74 [some (.ref a0), some (.int a1), a2, none, a4, none] [] τ = Ru M_H_pass d Q 76 [some (.ref a0), some (.int a1), a2, none, a4, none] [.int (-2)] τ) ∧
    (∀ (a0 : Nat) (a1 : Int32) (a2 : Option Value) (a4 : Option Value) (x0 : Int32) (τ : St), Ru M_H_pass d Q 76 [some (.ref a0), some (.int a1), a2, none, a4, none] [.int x0] τ = Q (some (.int x0)) τ) := ⟨
  fun _ _ => (R_at ok_H_pass rfl).trans e_push,
  fun _ _ _ => (R_at ok_H_pass rfl).trans e_ist,
  fun _ _ _ _ _ => (R_at ok_H_pass rfl).trans (e_ild rfl),
  fun _ _ _ _ _ _ => (R_at ok_H_pass rfl).trans e_push,
  fun _ _ _ _ _ _ _ => (R_at ok_H_pass rfl).trans e_ic,
  fun _ _ _ _ _ => (R_at ok_H_pass rfl).trans (e_ald rfl),
  fun _ _ _ _ _ _ => (R_at ok_H_pass rfl).trans e_gR,
  fun _ _ _ _ _ _ => (R_at ok_H_pass rfl).trans (e_ild rfl),
  fun _ _ _ _ x0 _ _ => (R_at ok_H_pass rfl).trans (e_cv [.int x0] rfl rfl rfl),
  fun _ _ _ _ _ _ => (R_at ok_H_pass rfl).trans e_lst,
  fun _ _ _ _ _ => (R_at ok_H_pass rfl).trans (e_ald rfl),
  fun _ _ _ _ _ _ => (R_at ok_H_pass rfl).trans e_gR,
  fun _ _ _ _ _ _ => (R_at ok_H_pass rfl).trans (e_ald rfl),
  fun _ _ _ _ _ _ _ => (R_at ok_H_pass rfl).trans e_gR,
  fun _ _ _ _ _ _ _ => (R_at ok_H_pass rfl).trans e_gL,
  fun _ _ _ _ _ _ _ => (R_at ok_H_pass rfl).trans (e_lld rfl),
  fun _ _ _ _ x0 x1 _ _ => (R_at ok_H_pass rfl).trans (e_cv [.long x1, .long x0] rfl rfl rfl),
  fun _ _ _ _ _ _ => (R_at ok_H_pass rfl).trans (e_ald rfl),
  fun _ _ _ _ _ _ _ => (R_at ok_H_pass rfl).trans e_gR,
  fun _ _ _ _ _ _ _ => (R_at ok_H_pass rfl).trans (e_ald rfl),
  fun _ _ _ _ _ _ _ _ => (R_at ok_H_pass rfl).trans e_gR,
  fun _ _ _ _ _ _ _ _ => (R_at ok_H_pass rfl).trans e_gL,
  fun _ _ _ _ _ _ _ _ => (R_at ok_H_pass rfl).trans (e_lld rfl),
  fun _ _ _ _ x0 x1 _ _ _ => (R_at ok_H_pass rfl).trans (e_cv [.long x1, .long x0] rfl rfl rfl),
  fun _ _ _ _ _ _ _ => (R_at ok_H_pass rfl).trans e_lbin,
  fun _ _ _ _ _ _ => (R_at ok_H_pass rfl).trans e_lst,
  fun _ _ _ _ _ => (R_at ok_H_pass rfl).trans (e_lld rfl),
  fun _ _ _ _ _ _ => (R_at ok_H_pass rfl).trans e_push,
  fun _ _ _ _ _ _ _ => (R_at ok_H_pass rfl).trans e_lcmp,
  fun _ _ _ _ _ _ => (R_at ok_H_pass rfl).trans e_if,
  fun _ _ _ _ _ => (R_at ok_H_pass rfl).trans (e_ald rfl),
  fun _ _ _ _ _ _ => (R_at ok_H_pass rfl).trans e_gR,
  fun _ _ _ _ _ _ => (R_at ok_H_pass rfl).trans (e_lld rfl),
  fun _ _ _ _ x0 _ _ => (R_at ok_H_pass rfl).trans (e_cv [.long x0] rfl rfl rfl),
  fun _ _ _ _ _ => (R_at ok_H_pass rfl).trans (e_ild rfl),
  fun _ _ _ _ _ _ => (R_at ok_H_pass rfl).trans e_iret,
  fun _ _ _ _ _ => (R_at ok_H_pass rfl).trans (e_iinc rfl),
  fun _ _ _ _ _ => (R_at ok_H_pass rfl).trans e_goto,
  fun _ _ _ _ _ => (R_at ok_H_pass rfl).trans e_push,
  fun _ _ _ _ _ _ => (R_at ok_H_pass rfl).trans e_iret⟩
set_option maxHeartbeats 4000000 in
theorem N_H_oxen (d : Nat) (Q : Qt) : ∀ (x0 : Nat) (x1 : Int32) (τ : St), Cl (d + 1) m_H_oxen [.ref x0, .int x1] τ Q = Ru M_H_oxen d Q 0 [some (.ref x0), some (.int x1), none, none, none] [] τ := fun _ _ _ => propext ⟨fun h => h.2, fun h => ⟨Nat.le_of_ble_eq_true rfl, h⟩⟩
set_option maxHeartbeats 4000000 in
theorem E_H_oxen (d : Nat) (Q : Qt) :
    (∀ (a0 : Nat) (a1 : Int32) (τ : St), Ru M_H_oxen d Q 0 [some (.ref a0), some (.int a1), none, none, none] [] τ = Ru M_H_oxen d Q 1 [some (.ref a0), some (.int a1), none, none, none] [.ref a0] τ) ∧
    (∀ (a0 : Nat) (a1 : Int32) (x0 : Nat) (τ : St), Ru M_H_oxen d Q 1 [some (.ref a0), some (.int a1), none, none, none] [.ref x0] τ = Ru M_H_oxen d Q 2 [some (.ref a0), some (.int a1), none, none, none] [.int a1, .ref x0] τ) ∧
    (∀ (a0 : Nat) (a1 : Int32) (x0 : Int32) (x1 : Nat) (τ : St), Ru M_H_oxen d Q 2 [some (.ref a0), some (.int a1), none, none, none] [.int x0, .ref x1] τ = (isA 11 x1 ∧ Cl d m_H_hasShip [.ref x1, .int x0] τ (fun v τ' => Ru M_H_oxen d Q 5 [some (.ref a0), some (.int a1), none, none, none] (v.toList ++ []) τ'))) ∧
    (∀ (a0 : Nat) (a1 : Int32) (x0 : Int32) (τ : St), Ru M_H_oxen d Q 5 [some (.ref a0), some (.int a1), none, none, none] [.int x0] τ = ((¬ x0 = 0 → Ru M_H_oxen d Q 10 [some (.ref a0), some (.int a1), none, none, none] [] τ) ∧ (x0 = 0 → Ru M_H_oxen d Q 8 [some (.ref a0), some (.int a1), none, none, none] [] τ))) ∧
    (∀ (a0 : Nat) (a1 : Int32) (τ : St), Ru M_H_oxen d Q 8 [some (.ref a0), some (.int a1), none, none, none] [] τ = Ru M_H_oxen d Q 9 [some (.ref a0), some (.int a1), none, none, none] [.int (-1)] τ) ∧
    (∀ (a0 : Nat) (a1 : Int32) (x0 : Int32) (τ : St), Ru M_H_oxen d Q 9 [some (.ref a0), some (.int a1), none, none, none] [.int x0] τ = Q (some (.int x0)) τ) ∧
    (∀ (a0 : Nat) (a1 : Int32) (τ : St), Ru M_H_oxen d Q 10 [some (.ref a0), some (.int a1), none, none, none] [] τ = Ru M_H_oxen d Q 11 [some (.ref a0), some (.int a1), none, none, none] [.ref a0] τ) ∧
    (∀ (a0 : Nat) (a1 : Int32) (x0 : Nat) (τ : St), Ru M_H_oxen d Q 11 [some (.ref a0), some (.int a1), none, none, none] [.ref x0] τ = Ru M_H_oxen d Q 12 [some (.ref a0), some (.int a1), none, none, none] [.ref a0, .ref x0] τ) ∧
    (∀ (a0 : Nat) (a1 : Int32) (x0 : Nat) (x1 : Nat) (τ : St), Ru M_H_oxen d Q 12 [some (.ref a0), some (.int a1), none, none, none] [.ref x0, .ref x1] τ = (isA 11 x0 ∧ Ru M_H_oxen d Q 15 [some (.ref a0), some (.int a1), none, none, none] [.ref (rtab x0 7), .ref x1] τ)) ∧
    (∀ (a0 : Nat) (a1 : Int32) (x0 : Nat) (x1 : Nat) (τ : St), Ru M_H_oxen d Q 15 [some (.ref a0), some (.int a1), none, none, none] [.ref x0, .ref x1] τ = Ru M_H_oxen d Q 16 [some (.ref a0), some (.int a1), none, none, none] [.int a1, .ref x0, .ref x1] τ) ∧
    (∀ (a0 : Nat) (a1 : Int32) (x0 : Int32) (x1 : Nat) (x2 : Nat) (τ : St), Ru M_H_oxen d Q 16 [some (.ref a0), some (.int a1), none, none, none] [.int x0, .ref x1, .ref x2] τ = (isA 14 x1 ∧ vp_in x0 (len x1) ∧ Ru M_H_oxen d Q 17 [some (.ref a0), some (.int a1), none, none, none] [.int (τ.1 x1 x0.toNatClampNeg), .ref x2] τ)) ∧
    (∀ (a0 : Nat) (a1 : Int32) (x0 : Int32) (x1 : Nat) (τ : St), Ru M_H_oxen d Q 17 [some (.ref a0), some (.int a1), none, none, none] [.int x0, .ref x1] τ = (isA 11 x1 ∧ Cl d m_H_startWays [.ref x1, .int x0] τ (fun v τ' => Ru M_H_oxen d Q 20 [some (.ref a0), some (.int a1), none, none, none] (v.toList ++ []) τ'))) ∧
    (∀ (a0 : Nat) (a1 : Int32) (τ : St), Ru M_H_oxen d Q 20 [some (.ref a0), some (.int a1), none, none, none] [] τ = Ru M_H_oxen d Q 21 [some (.ref a0), some (.int a1), none, none, none] [.long 1] τ) ∧
    (∀ (a0 : Nat) (a1 : Int32) (x0 : Int64) (τ : St), Ru M_H_oxen d Q 21 [some (.ref a0), some (.int a1), none, none, none] [.long x0] τ = Ru M_H_oxen d Q 22 [some (.ref a0), some (.int a1), none, none, none] [.ref a0, .long x0] τ) ∧
    (∀ (a0 : Nat) (a1 : Int32) (x0 : Nat) (x1 : Int64) (τ : St), Ru M_H_oxen d Q 22 [some (.ref a0), some (.int a1), none, none, none] [.ref x0, .long x1] τ = (isA 11 x0 ∧ Ru M_H_oxen d Q 25 [some (.ref a0), some (.int a1), none, none, none] [.ref (rtab x0 3), .long x1] τ)) ∧
    (∀ (a0 : Nat) (a1 : Int32) (x0 : Nat) (x1 : Int64) (τ : St), Ru M_H_oxen d Q 25 [some (.ref a0), some (.int a1), none, none, none] [.ref x0, .long x1] τ = Ru M_H_oxen d Q 26 [some (.ref a0), some (.int a1), none, none, none] [.int a1, .ref x0, .long x1] τ) ∧
    (∀ (a0 : Nat) (a1 : Int32) (x0 : Int32) (x1 : Nat) (x2 : Int64) (τ : St), Ru M_H_oxen d Q 26 [some (.ref a0), some (.int a1), none, none, none] [.int x0, .ref x1, .long x2] τ = (isA 1 x1 ∧ Cl d m_Moment_placeOf [.ref x1, .int x0] τ (fun v τ' => Ru M_H_oxen d Q 29 [some (.ref a0), some (.int a1), none, none, none] (v.toList ++ [.long x2]) τ'))) ∧
    (∀ (a0 : Nat) (a1 : Int32) (x0 : Int32) (x1 : Int64) (τ : St), Ru M_H_oxen d Q 29 [some (.ref a0), some (.int a1), none, none, none] [.int x0, .long x1] τ = Ru M_H_oxen d Q 30 [some (.ref a0), some (.int a1), none, none, none] [.long (x1 <<< (x0.toInt64 &&& 63))] τ) ∧
    (∀ (a0 : Nat) (a1 : Int32) (x0 : Int64) (τ : St), Ru M_H_oxen d Q 30 [some (.ref a0), some (.int a1), none, none, none] [.long x0] τ = Ru M_H_oxen d Q 31 [some (.ref a0), some (.int a1), some (.long x0), none, none] [] τ) ∧
    (∀ (a0 : Nat) (a1 : Int32) (a2 : Int64) (τ : St), Ru M_H_oxen d Q 31 [some (.ref a0), some (.int a1), some (.long a2), none, none] [] τ = Ru M_H_oxen d Q 32 [some (.ref a0), some (.int a1), some (.long a2), none, none] [.ref a0] τ) ∧
    (∀ (a0 : Nat) (a1 : Int32) (a2 : Int64) (x0 : Nat) (τ : St), Ru M_H_oxen d Q 32 [some (.ref a0), some (.int a1), some (.long a2), none, none] [.ref x0] τ = (isA 11 x0 ∧ Ru M_H_oxen d Q 35 [some (.ref a0), some (.int a1), some (.long a2), none, none] [.ref (rtab x0 12)] τ)) ∧
    (∀ (a0 : Nat) (a1 : Int32) (a2 : Int64) (x0 : Nat) (τ : St), Ru M_H_oxen d Q 35 [some (.ref a0), some (.int a1), some (.long a2), none, none] [.ref x0] τ = Ru M_H_oxen d Q 36 [some (.ref a0), some (.int a1), some (.long a2), none, none] [.long a2, .ref x0] τ) ∧
    (∀ (a0 : Nat) (a1 : Int32) (a2 : Int64) (x0 : Int64) (x1 : Nat) (τ : St), Ru M_H_oxen d Q 36 [some (.ref a0), some (.int a1), some (.long a2), none, none] [.long x0, .ref x1] τ = Ru M_H_oxen d Q 37 [some (.ref a0), some (.int a1), some (.long a2), none, none] [.ref a0, .long x0, .ref x1] τ) ∧
    (∀ (a0 : Nat) (a1 : Int32) (a2 : Int64) (x0 : Nat) (x1 : Int64) (x2 : Nat) (τ : St), Ru M_H_oxen d Q 37 [some (.ref a0), some (.int a1), some (.long a2), none, none] [.ref x0, .long x1, .ref x2] τ = (isA 11 x0 ∧ Ru M_H_oxen d Q 40 [some (.ref a0), some (.int a1), some (.long a2), none, none] [.ref (rtab x0 2), .long x1, .ref x2] τ)) ∧
    (∀ (a0 : Nat) (a1 : Int32) (a2 : Int64) (x0 : Nat) (x1 : Int64) (x2 : Nat) (τ : St), Ru M_H_oxen d Q 40 [some (.ref a0), some (.int a1), some (.long a2), none, none] [.ref x0, .long x1, .ref x2] τ = (isA 0 x0 ∧ Ru M_H_oxen d Q 43 [some (.ref a0), some (.int a1), some (.long a2), none, none] [.long (τ.2 x0 8), .long x1, .ref x2] τ)) ∧
    (∀ (a0 : Nat) (a1 : Int32) (a2 : Int64) (x0 : Int64) (x1 : Int64) (x2 : Nat) (τ : St), Ru M_H_oxen d Q 43 [some (.ref a0), some (.int a1), some (.long a2), none, none] [.long x0, .long x1, .ref x2] τ = (isA 10 x2 ∧ Cl d m_Ways_leastMost [.ref x2, .long x1, .long x0] τ (fun v τ' => Ru M_H_oxen d Q 46 [some (.ref a0), some (.int a1), some (.long a2), none, none] (v.toList ++ []) τ'))) ∧
    (∀ (a0 : Nat) (a1 : Int32) (a2 : Int64) (x0 : Int32) (τ : St), Ru M_H_oxen d Q 46 [some (.ref a0), some (.int a1), some (.long a2), none, none] [.int x0] τ = Ru M_H_oxen d Q 48 [some (.ref a0), some (.int a1), some (.long a2), none, some (.int x0)] [] τ) ∧
    (∀ (a0 : Nat) (a1 : Int32) (a2 : Int64) (a4 : Int32) (τ : St), Ru M_H_oxen d Q 48 [some (.ref a0), some (.int a1), some (.long a2), none, some (.int a4)] [] τ = Ru M_H_oxen d Q 50 [some (.ref a0), some (.int a1), some (.long a2), none, some (.int a4)] [.int a4] τ) ∧
    (∀ (a0 : Nat) (a1 : Int32) (a2 : Int64) (a4 : Int32) (x0 : Int32) (τ : St), Ru M_H_oxen d Q 50 [some (.ref a0), some (.int a1), some (.long a2), none, some (.int a4)] [.int x0] τ = Ru M_H_oxen d Q 51 [some (.ref a0), some (.int a1), some (.long a2), none, some (.int a4)] [.int (-1), .int x0] τ) ∧
    (∀ (a0 : Nat) (a1 : Int32) (a2 : Int64) (a4 : Int32) (x0 : Int32) (x1 : Int32) (τ : St), Ru M_H_oxen d Q 51 [some (.ref a0), some (.int a1), some (.long a2), none, some (.int a4)] [.int x0, .int x1] τ = ((¬ x1 = x0 → Ru M_H_oxen d Q 57 [some (.ref a0), some (.int a1), some (.long a2), none, some (.int a4)] [] τ) ∧ (x1 = x0 → Ru M_H_oxen d Q 54 [some (.ref a0), some (.int a1), some (.long a2), none, some (.int a4)] [] τ))) ∧
    (∀ (a0 : Nat) (a1 : Int32) (a2 : Int64) (a4 : Int32) (τ : St), Ru M_H_oxen d Q 54 [some (.ref a0), some (.int a1), some (.long a2), none, some (.int a4)] [] τ = Ru M_H_oxen d Q 56 [some (.ref a0), some (.int a1), some (.long a2), none, some (.int a4)] [.int (-2)] τ) ∧
    (∀ (a0 : Nat) (a1 : Int32) (a2 : Int64) (a4 : Int32) (x0 : Int32) (τ : St), Ru M_H_oxen d Q 56 [some (.ref a0), some (.int a1), some (.long a2), none, some (.int a4)] [.int x0] τ = Q (some (.int x0)) τ) ∧
    (∀ (a0 : Nat) (a1 : Int32) (a2 : Int64) (a4 : Int32) (τ : St), Ru M_H_oxen d Q 57 [some (.ref a0), some (.int a1), some (.long a2), none, some (.int a4)] [] τ = Ru M_H_oxen d Q 58 [some (.ref a0), some (.int a1), some (.long a2), none, some (.int a4)] [.ref a0] τ) ∧
    (∀ (a0 : Nat) (a1 : Int32) (a2 : Int64) (a4 : Int32) (x0 : Nat) (τ : St), Ru M_H_oxen d Q 58 [some (.ref a0), some (.int a1), some (.long a2), none, some (.int a4)] [.ref x0] τ = (isA 11 x0 ∧ Ru M_H_oxen d Q 61 [some (.ref a0), some (.int a1), some (.long a2), none, some (.int a4)] [.ref (rtab x0 1)] τ)) ∧
    (∀ (a0 : Nat) (a1 : Int32) (a2 : Int64) (a4 : Int32) (x0 : Nat) (τ : St), Ru M_H_oxen d Q 61 [some (.ref a0), some (.int a1), some (.long a2), none, some (.int a4)] [.ref x0] τ = Ru M_H_oxen d Q 62 [some (.ref a0), some (.int a1), some (.long a2), none, some (.int a4)] [.ref a0, .ref x0] τ) ∧
    (∀ (a0 : Nat) (a1 : Int32) (a2 : Int64) (a4 : Int32) (x0 : Nat) (x1 : Nat) (τ : St), Ru M_H_oxen d Q 62 [some (.ref a0), some (.int a1), some (.long a2), none, some (.int a4)] [.ref x0, .ref x1] τ = (isA 11 x0 ∧ Ru M_H_oxen d Q 65 [some (.ref a0), some (.int a1), some (.long a2), none, some (.int a4)] [.ref (rtab x0 12), .ref x1] τ)) ∧
    (∀ (a0 : Nat) (a1 : Int32) (a2 : Int64) (a4 : Int32) (x0 : Nat) (x1 : Nat) (τ : St), Ru M_H_oxen d Q 65 [some (.ref a0), some (.int a1), some (.long a2), none, some (.int a4)] [.ref x0, .ref x1] τ = Ru M_H_oxen d Q 66 [some (.ref a0), some (.int a1), some (.long a2), none, some (.int a4)] [.long a2, .ref x0, .ref x1] τ) ∧
    (∀ (a0 : Nat) (a1 : Int32) (a2 : Int64) (a4 : Int32) (x0 : Int64) (x1 : Nat) (x2 : Nat) (τ : St), Ru M_H_oxen d Q 66 [some (.ref a0), some (.int a1), some (.long a2), none, some (.int a4)] [.long x0, .ref x1, .ref x2] τ = Ru M_H_oxen d Q 68 [some (.ref a0), some (.int a1), some (.long a2), none, some (.int a4)] [.int a4, .long x0, .ref x1, .ref x2] τ) ∧
    (∀ (a0 : Nat) (a1 : Int32) (a2 : Int64) (a4 : Int32) (x0 : Int32) (x1 : Int64) (x2 : Nat) (x3 : Nat) (τ : St), Ru M_H_oxen d Q 68 [some (.ref a0), some (.int a1), some (.long a2), none, some (.int a4)] [.int x0, .long x1, .ref x2, .ref x3] τ = (isA 10 x2 ∧ Cl d m_Ways_reached [.ref x2, .long x1, .int x0] τ (fun v τ' => Ru M_H_oxen d Q 71 [some (.ref a0), some (.int a1), some (.long a2), none, some (.int a4)] (v.toList ++ [.ref x3]) τ'))) ∧
    (∀ (a0 : Nat) (a1 : Int32) (a2 : Int64) (a4 : Int32) (x0 : Int64) (x1 : Nat) (τ : St), Ru M_H_oxen d Q 71 [some (.ref a0), some (.int a1), some (.long a2), none, some (.int a4)] [.long x0, .ref x1] τ = Ru M_H_oxen d Q 72 [some (.ref a0), some (.int a1), some (.long a2), none, some (.int a4)] [.ref a0, .long x0, .ref x1] τ) ∧
    (∀ (a0 : Nat) (a1 : Int32) (a2 : Int64) (a4 : Int32) (x0 : Nat) (x1 : Int64) (x2 : Nat) (τ : St), Ru M_H_oxen d Q 72 [some (.ref a0), some (.int a1), some (.long a2), none, some (.int a4)] [.ref x0, .long x1, .ref x2] τ = (isA 11 x0 ∧ Ru M_H_oxen d Q 75 [some (.ref a0), some (.int a1), some (.long a2), none, some (.int a4)] [.ref (rtab x0 2), .long x1, .ref x2] τ)) ∧
    (∀ (a0 : Nat) (a1 : Int32) (a2 : Int64) (a4 : Int32) (x0 : Nat) (x1 : Int64) (x2 : Nat) (τ : St), Ru M_H_oxen d Q 75 [some (.ref a0), some (.int a1), some (.long a2), none, some (.int a4)] [.ref x0, .long x1, .ref x2] τ = (isA 0 x0 ∧ Ru M_H_oxen d Q 78 [some (.ref a0), some (.int a1), some (.long a2), none, some (.int a4)] [.long (τ.2 x0 8), .long x1, .ref x2] τ)) ∧
    (∀ (a0 : Nat) (a1 : Int32) (a2 : Int64) (a4 : Int32) (x0 : Int64) (x1 : Int64) (x2 : Nat) (τ : St), Ru M_H_oxen d Q 78 [some (.ref a0), some (.int a1), some (.long a2), none, some (.int a4)] [.long x0, .long x1, .ref x2] τ = Ru M_H_oxen d Q 79 [some (.ref a0), some (.int a1), some (.long a2), none, some (.int a4)] [.long (x1 &&& x0), .ref x2] τ) ∧
    (∀ (a0 : Nat) (a1 : Int32) (a2 : Int64) (a4 : Int32) (x0 : Int64) (x1 : Nat) (τ : St), Ru M_H_oxen d Q 79 [some (.ref a0), some (.int a1), some (.long a2), none, some (.int a4)] [.long x0, .ref x1] τ = Cl d m_H_firstOf [.long x0] τ (fun v τ' => Ru M_H_oxen d Q 82 [some (.ref a0), some (.int a1), some (.long a2), none, some (.int a4)] (v.toList ++ [.ref x1]) τ')) ∧
    (∀ (a0 : Nat) (a1 : Int32) (a2 : Int64) (a4 : Int32) (x0 : Int32) (x1 : Nat) (τ : St), Ru M_H_oxen d Q 82 [some (.ref a0), some (.int a1), some (.long a2), none, some (.int a4)] [.int x0, .ref x1] τ = Ru M_H_oxen d Q 83 [some (.ref a0), some (.int a1), some (.long a2), none, some (.int a4)] [.long x0.toInt64, .ref x1] τ) ∧
    (∀ (a0 : Nat) (a1 : Int32) (a2 : Int64) (a4 : Int32) (x0 : Int64) (x1 : Nat) (τ : St), Ru M_H_oxen d Q 83 [some (.ref a0), some (.int a1), some (.long a2), none, some (.int a4)] [.long x0, .ref x1] τ = (isA 4 x1 ∧ Cl d m_Row_only [.ref x1, .long x0] τ (fun v τ' => Ru M_H_oxen d Q 86 [some (.ref a0), some (.int a1), some (.long a2), none, some (.int a4)] (v.toList ++ []) τ'))) ∧
    (∀ (a0 : Nat) (a1 : Int32) (a2 : Int64) (a4 : Int32) (τ : St), Ru M_H_oxen d Q 86 [some (.ref a0), some (.int a1), some (.long a2), none, some (.int a4)] [] τ = Ru M_H_oxen d Q 88 [some (.ref a0), some (.int a1), some (.long a2), none, some (.int a4)] [.int a4] τ) ∧
    (∀ (a0 : Nat) (a1 : Int32) (a2 : Int64) (a4 : Int32) (x0 : Int32) (τ : St), Ru M_H_oxen d Q 88 [some (.ref a0), some (.int a1), some (.long a2), none, some (.int a4)] [.int x0] τ = Q (some (.int x0)) τ) := ⟨
  fun _ _ _ => (R_at ok_H_oxen rfl).trans (e_ald rfl),
  fun _ _ _ _ => (R_at ok_H_oxen rfl).trans (e_ild rfl),
  fun _ _ x0 _ _ => (R_at ok_H_oxen rfl).trans (e_cv [.int x0] rfl rfl rfl),
  fun _ _ _ _ => (R_at ok_H_oxen rfl).trans e_ifn,
  fun _ _ _ => (R_at ok_H_oxen rfl).trans e_push,
  fun _ _ _ _ => (R_at ok_H_oxen rfl).trans e_iret,
  fun _ _ _ => (R_at ok_H_oxen rfl).trans (e_ald rfl),
  fun _ _ _ _ => (R_at ok_H_oxen rfl).trans (e_ald rfl),
  fun _ _ _ _ _ => (R_at ok_H_oxen rfl).trans e_gR,
  fun _ _ _ _ _ => (R_at ok_H_oxen rfl).trans (e_ild rfl),
  fun _ _ _ _ _ _ => (R_at ok_H_oxen rfl).trans e_al,
  fun _ _ x0 _ _ => (R_at ok_H_oxen rfl).trans (e_cv [.int x0] rfl rfl rfl),
  fun _ _ _ => (R_at ok_H_oxen rfl).trans e_push,
  fun _ _ _ _ => (R_at ok_H_oxen rfl).trans (e_ald rfl),
  fun _ _ _ _ _ => (R_at ok_H_oxen rfl).trans e_gR,
  fun _ _ _ _ _ => (R_at ok_H_oxen rfl).trans (e_ild rfl),
  fun _ _ x0 _ _ _ => (R_at ok_H_oxen rfl).trans (e_cv [.int x0] rfl rfl rfl),
  fun _ _ _ _ _ => (R_at ok_H_oxen rfl).trans e_lsh,
  fun _ _ _ _ => (R_at ok_H_oxen rfl).trans e_lst,
  fun _ _ _ _ => (R_at ok_H_oxen rfl).trans (e_ald rfl),
  fun _ _ _ _ _ => (R_at ok_H_oxen rfl).trans e_gR,
  fun _ _ _ _ _ => (R_at ok_H_oxen rfl).trans (e_lld rfl),
  fun _ _ _ _ _ _ => (R_at ok_H_oxen rfl).trans (e_ald rfl),
  fun _ _ _ _ _ _ _ => (R_at ok_H_oxen rfl).trans e_gR,
  fun _ _ _ _ _ _ _ => (R_at ok_H_oxen rfl).trans e_gL,
  fun _ _ _ x0 x1 _ _ => (R_at ok_H_oxen rfl).trans (e_cv [.long x1, .long x0] rfl rfl rfl),
  fun _ _ _ _ _ => (R_at ok_H_oxen rfl).trans e_ist,
  fun _ _ _ _ _ => (R_at ok_H_oxen rfl).trans (e_ild rfl),
  fun _ _ _ _ _ _ => (R_at ok_H_oxen rfl).trans e_push,
  fun _ _ _ _ _ _ _ => (R_at ok_H_oxen rfl).trans e_icn,
  fun _ _ _ _ _ => (R_at ok_H_oxen rfl).trans e_push,
  fun _ _ _ _ _ _ => (R_at ok_H_oxen rfl).trans e_iret,
  fun _ _ _ _ _ => (R_at ok_H_oxen rfl).trans (e_ald rfl),
  fun _ _ _ _ _ _ => (R_at ok_H_oxen rfl).trans e_gR,
  fun _ _ _ _ _ _ => (R_at ok_H_oxen rfl).trans (e_ald rfl),
  fun _ _ _ _ _ _ _ => (R_at ok_H_oxen rfl).trans e_gR,
  fun _ _ _ _ _ _ _ => (R_at ok_H_oxen rfl).trans (e_lld rfl),
  fun _ _ _ _ _ _ _ _ => (R_at ok_H_oxen rfl).trans (e_ild rfl),
  fun _ _ _ _ x0 x1 _ _ _ => (R_at ok_H_oxen rfl).trans (e_cv [.long x1, .int x0] rfl rfl rfl),
  fun _ _ _ _ _ _ _ => (R_at ok_H_oxen rfl).trans (e_ald rfl),
  fun _ _ _ _ _ _ _ _ => (R_at ok_H_oxen rfl).trans e_gR,
  fun _ _ _ _ _ _ _ _ => (R_at ok_H_oxen rfl).trans e_gL,
  fun _ _ _ _ _ _ _ _ => (R_at ok_H_oxen rfl).trans e_lbin,
  fun _ _ _ _ x0 _ _ => (R_at ok_H_oxen rfl).trans (e_cs [.long x0] rfl rfl rfl),
  fun _ _ _ _ _ _ _ => (R_at ok_H_oxen rfl).trans e_il,
  fun _ _ _ _ x0 _ _ => (R_at ok_H_oxen rfl).trans (e_cv [.long x0] rfl rfl rfl),
  fun _ _ _ _ _ => (R_at ok_H_oxen rfl).trans (e_ild rfl),
  fun _ _ _ _ _ _ => (R_at ok_H_oxen rfl).trans e_iret⟩
set_option maxHeartbeats 4000000 in
theorem N_H_firstOf (d : Nat) (Q : Qt) : ∀ (x0 : Int64) (τ : St), Cl (d + 1) m_H_firstOf [.long x0] τ Q = Ru M_H_firstOf d Q 0 [some (.long x0), none, none] [] τ := fun _ _ => propext ⟨fun h => h.2, fun h => ⟨Nat.le_of_ble_eq_true rfl, h⟩⟩
set_option maxHeartbeats 4000000 in
theorem E_H_firstOf (d : Nat) (Q : Qt) :
    (∀ (a0 : Int64) (τ : St), Ru M_H_firstOf d Q 0 [some (.long a0), none, none] [] τ = Ru M_H_firstOf d Q 1 [some (.long a0), none, none] [.int 0] τ) ∧
    (∀ (a0 : Int64) (x0 : Int32) (τ : St), Ru M_H_firstOf d Q 1 [some (.long a0), none, none] [.int x0] τ = Rs M_H_firstOf d Q 2 [some (.long a0), none, some (.int x0)] [] τ) ∧
    (∀ (a0 : Int64) (a2 : Int32) (τ : St), Ru M_H_firstOf d Q 2 [some (.long a0), none, some (.int a2)] [] τ = Ru M_H_firstOf d Q 3 [some (.long a0), none, some (.int a2)] [.int a2] τ) ∧
    (∀ (a0 : Int64) (a2 : Int32) (x0 : Int32) (τ : St), Ru M_H_firstOf d Q 3 [some (.long a0), none, some (.int a2)] [.int x0] τ = Ru M_H_firstOf d Q 5 [some (.long a0), none, some (.int a2)] [.int 36, .int x0] τ) ∧
    (∀ (a0 : Int64) (a2 : Int32) (x0 : Int32) (x1 : Int32) (τ : St), Ru M_H_firstOf d Q 5 [some (.long a0), none, some (.int a2)] [.int x0, .int x1] τ = ((x0 ≤ x1 → Ru M_H_firstOf d Q 26 [some (.long a0), none, some (.int a2)] [] τ) ∧ (¬ x0 ≤ x1 → Ru M_H_firstOf d Q 8 [some (.long a0), none, some (.int a2)] [] τ))) ∧
    (∀ (a0 : Int64) (a2 : Int32) (τ : St), Ru M_H_firstOf d Q 8 [some (.long a0), none, some (.int a2)] [] τ = Ru M_H_firstOf d Q 9 [some (.long a0), none, some (.int a2)] [.long a0] τ) ∧
    (∀ (a0 : Int64) (a2 : Int32) (x0 : Int64) (τ : St), Ru M_H_firstOf d Q 9 [some (.long a0), none, some (.int a2)] [.long x0] τ = Ru M_H_firstOf d Q 10 [some (.long a0), none, some (.int a2)] [.int a2, .long x0] τ) ∧
    (∀ (a0 : Int64) (a2 : Int32) (x0 : Int32) (x1 : Int64) (τ : St), Ru M_H_firstOf d Q 10 [some (.long a0), none, some (.int a2)] [.int x0, .long x1] τ = Ru M_H_firstOf d Q 11 [some (.long a0), none, some (.int a2)] [.long ((x1.toUInt64 >>> (x0.toInt64.toUInt64 &&& Int64.toUInt64 63)).toInt64)] τ) ∧
    (∀ (a0 : Int64) (a2 : Int32) (x0 : Int64) (τ : St), Ru M_H_firstOf d Q 11 [some (.long a0), none, some (.int a2)] [.long x0] τ = Ru M_H_firstOf d Q 12 [some (.long a0), none, some (.int a2)] [.long 1, .long x0] τ) ∧
    (∀ (a0 : Int64) (a2 : Int32) (x0 : Int64) (x1 : Int64) (τ : St), Ru M_H_firstOf d Q 12 [some (.long a0), none, some (.int a2)] [.long x0, .long x1] τ = Ru M_H_firstOf d Q 13 [some (.long a0), none, some (.int a2)] [.long (x1 &&& x0)] τ) ∧
    (∀ (a0 : Int64) (a2 : Int32) (x0 : Int64) (τ : St), Ru M_H_firstOf d Q 13 [some (.long a0), none, some (.int a2)] [.long x0] τ = Ru M_H_firstOf d Q 14 [some (.long a0), none, some (.int a2)] [.long 0, .long x0] τ) ∧
    (∀ (a0 : Int64) (a2 : Int32) (x0 : Int64) (x1 : Int64) (τ : St), Ru M_H_firstOf d Q 14 [some (.long a0), none, some (.int a2)] [.long x0, .long x1] τ = Ru M_H_firstOf d Q 15 [some (.long a0), none, some (.int a2)] [.int (lg_cmp x1 x0)] τ) ∧
    (∀ (a0 : Int64) (a2 : Int32) (x0 : Int32) (τ : St), Ru M_H_firstOf d Q 15 [some (.long a0), none, some (.int a2)] [.int x0] τ = ((x0 = 0 → Ru M_H_firstOf d Q 20 [some (.long a0), none, some (.int a2)] [] τ) ∧ (¬ x0 = 0 → Ru M_H_firstOf d Q 18 [some (.long a0), none, some (.int a2)] [] τ))) ∧
    (∀ (a0 : Int64) (a2 : Int32) (τ : St), Ru M_H_firstOf d Q 18 [some (.long a0), none, some (.int a2)] [] τ = Ru M_H_firstOf d Q 19 [some (.long a0), none, some (.int a2)] [.int a2] τ) ∧
    (∀ (a0 : Int64) (a2 : Int32) (x0 : Int32) (τ : St), Ru M_H_firstOf d Q 19 [some (.long a0), none, some (.int a2)] [.int x0] τ = Q (some (.int x0)) τ) ∧
    (∀ (a0 : Int64) (a2 : Int32) (τ : St), Ru M_H_firstOf d Q 20 [some (.long a0), none, some (.int a2)] [] τ = Ru M_H_firstOf d Q 23 [some (.long a0), none, some (.int (a2 + 1))] [] τ) ∧
    (∀ (a0 : Int64) (a2 : Int32) (τ : St), Ru M_H_firstOf d Q 23 [some (.long a0), none, some (.int a2)] [] τ = Rs M_H_firstOf d Q 2 [some (.long a0), none, some (.int a2)] [] τ) ∧
    (∀ (a0 : Int64) (a2 : Int32) (τ : St), Ru M_H_firstOf d Q 26 [some (.long a0), none, some (.int a2)] [] τ = Ru M_H_firstOf d Q 27 [some (.long a0), none, some (.int a2)] [.int (-1)] τ) ∧
    (∀ (a0 : Int64) (a2 : Int32) (x0 : Int32) (τ : St), Ru M_H_firstOf d Q 27 [some (.long a0), none, some (.int a2)] [.int x0] τ = Q (some (.int x0)) τ) := ⟨
  fun _ _ => (R_at ok_H_firstOf rfl).trans e_push,
  fun _ _ _ => (R_at ok_H_firstOf rfl).trans e_ist,
  fun _ _ _ => (R_at ok_H_firstOf rfl).trans (e_ild rfl),
  fun _ _ _ _ => (R_at ok_H_firstOf rfl).trans e_push,
  fun _ _ _ _ _ => (R_at ok_H_firstOf rfl).trans e_ic,
  fun _ _ _ => (R_at ok_H_firstOf rfl).trans (e_lld rfl),
  fun _ _ _ _ => (R_at ok_H_firstOf rfl).trans (e_ild rfl),
  fun _ _ _ _ _ => (R_at ok_H_firstOf rfl).trans e_lsh,
  fun _ _ _ _ => (R_at ok_H_firstOf rfl).trans e_push,
  fun _ _ _ _ _ => (R_at ok_H_firstOf rfl).trans e_lbin,
  fun _ _ _ _ => (R_at ok_H_firstOf rfl).trans e_push,
  fun _ _ _ _ _ => (R_at ok_H_firstOf rfl).trans e_lcmp,
  fun _ _ _ _ => (R_at ok_H_firstOf rfl).trans e_if,
  fun _ _ _ => (R_at ok_H_firstOf rfl).trans (e_ild rfl),
  fun _ _ _ _ => (R_at ok_H_firstOf rfl).trans e_iret,
  fun _ _ _ => (R_at ok_H_firstOf rfl).trans (e_iinc rfl),
  fun _ _ _ => (R_at ok_H_firstOf rfl).trans e_goto,
  fun _ _ _ => (R_at ok_H_firstOf rfl).trans e_push,
  fun _ _ _ _ => (R_at ok_H_firstOf rfl).trans e_iret⟩
set_option maxHeartbeats 4000000 in
theorem N_H_can (d : Nat) (Q : Qt) : ∀ (x0 : Nat) (τ : St), Cl (d + 1) m_H_can [.ref x0] τ Q = Ru M_H_can d Q 0 [some (.ref x0), none, none] [] τ := fun _ _ => propext ⟨fun h => h.2, fun h => ⟨Nat.le_of_ble_eq_true rfl, h⟩⟩
set_option maxHeartbeats 4000000 in
theorem E_H_can (d : Nat) (Q : Qt) :
    (∀ (a0 : Nat) (τ : St), Ru M_H_can d Q 0 [some (.ref a0), none, none] [] τ = Ru M_H_can d Q 1 [some (.ref a0), none, none] [.int 0] τ) ∧
    (∀ (a0 : Nat) (x0 : Int32) (τ : St), Ru M_H_can d Q 1 [some (.ref a0), none, none] [.int x0] τ = Ru M_H_can d Q 2 [some (.ref a0), some (.int x0), none] [] τ) ∧
    (∀ (a0 : Nat) (a1 : Int32) (τ : St), Ru M_H_can d Q 2 [some (.ref a0), some (.int a1), none] [] τ = Ru M_H_can d Q 3 [some (.ref a0), some (.int a1), none] [.int 0] τ) ∧
    (∀ (a0 : Nat) (a1 : Int32) (x0 : Int32) (τ : St), Ru M_H_can d Q 3 [some (.ref a0), some (.int a1), none] [.int x0] τ = Rs M_H_can d Q 4 [some (.ref a0), some (.int a1), some (.int x0)] [] τ) ∧
    (∀ (a0 : Nat) (a1 : Int32) (a2 : Int32) (τ : St), Ru M_H_can d Q 4 [some (.ref a0), some (.int a1), some (.int a2)] [] τ = Ru M_H_can d Q 5 [some (.ref a0), some (.int a1), some (.int a2)] [.int a2] τ) ∧
    (∀ (a0 : Nat) (a1 : Int32) (a2 : Int32) (x0 : Int32) (τ : St), Ru M_H_can d Q 5 [some (.ref a0), some (.int a1), some (.int a2)] [.int x0] τ = Ru M_H_can d Q 6 [some (.ref a0), some (.int a1), some (.int a2)] [.ref a0, .int x0] τ) ∧
    (∀ (a0 : Nat) (a1 : Int32) (a2 : Int32) (x0 : Nat) (x1 : Int32) (τ : St), Ru M_H_can d Q 6 [some (.ref a0), some (.int a1), some (.int a2)] [.ref x0, .int x1] τ = (isA 11 x0 ∧ Ru M_H_can d Q 9 [some (.ref a0), some (.int a1), some (.int a2)] [.ref (rtab x0 3), .int x1] τ)) ∧
    (∀ (a0 : Nat) (a1 : Int32) (a2 : Int32) (x0 : Nat) (x1 : Int32) (τ : St), Ru M_H_can d Q 9 [some (.ref a0), some (.int a1), some (.int a2)] [.ref x0, .int x1] τ = (isA 1 x0 ∧ Ru M_H_can d Q 12 [some (.ref a0), some (.int a1), some (.int a2)] [.int (τ.1 x0 1), .int x1] τ)) ∧
    (∀ (a0 : Nat) (a1 : Int32) (a2 : Int32) (x0 : Int32) (x1 : Int32) (τ : St), Ru M_H_can d Q 12 [some (.ref a0), some (.int a1), some (.int a2)] [.int x0, .int x1] τ = ((x0 ≤ x1 → Ru M_H_can d Q 77 [some (.ref a0), some (.int a1), some (.int a2)] [] τ) ∧ (¬ x0 ≤ x1 → Ru M_H_can d Q 15 [some (.ref a0), some (.int a1), some (.int a2)] [] τ))) ∧
    (∀ (a0 : Nat) (a1 : Int32) (a2 : Int32) (τ : St), Ru M_H_can d Q 15 [some (.ref a0), some (.int a1), some (.int a2)] [] τ = Ru M_H_can d Q 16 [some (.ref a0), some (.int a1), some (.int a2)] [.int a2] τ) ∧
    (∀ (a0 : Nat) (a1 : Int32) (a2 : Int32) (x0 : Int32) (τ : St), Ru M_H_can d Q 16 [some (.ref a0), some (.int a1), some (.int a2)] [.int x0] τ = Ru M_H_can d Q 18 [some (.ref a0), some (.int a1), some (.int a2)] [.int 8, .int x0] τ) ∧
    (∀ (a0 : Nat) (a1 : Int32) (a2 : Int32) (x0 : Int32) (x1 : Int32) (τ : St), Ru M_H_can d Q 18 [some (.ref a0), some (.int a1), some (.int a2)] [.int x0, .int x1] τ = ((x0 ≤ x1 → Ru M_H_can d Q 77 [some (.ref a0), some (.int a1), some (.int a2)] [] τ) ∧ (¬ x0 ≤ x1 → Ru M_H_can d Q 21 [some (.ref a0), some (.int a1), some (.int a2)] [] τ))) ∧
    (∀ (a0 : Nat) (a1 : Int32) (a2 : Int32) (τ : St), Ru M_H_can d Q 21 [some (.ref a0), some (.int a1), some (.int a2)] [] τ = Ru M_H_can d Q 22 [some (.ref a0), some (.int a1), some (.int a2)] [.ref a0] τ) ∧
    (∀ (a0 : Nat) (a1 : Int32) (a2 : Int32) (x0 : Nat) (τ : St), Ru M_H_can d Q 22 [some (.ref a0), some (.int a1), some (.int a2)] [.ref x0] τ = Ru M_H_can d Q 23 [some (.ref a0), some (.int a1), some (.int a2)] [.ref a0, .ref x0] τ) ∧
    (∀ (a0 : Nat) (a1 : Int32) (a2 : Int32) (x0 : Nat) (x1 : Nat) (τ : St), Ru M_H_can d Q 23 [some (.ref a0), some (.int a1), some (.int a2)] [.ref x0, .ref x1] τ = (isA 11 x0 ∧ Ru M_H_can d Q 26 [some (.ref a0), some (.int a1), some (.int a2)] [.ref (rtab x0 7), .ref x1] τ)) ∧
    (∀ (a0 : Nat) (a1 : Int32) (a2 : Int32) (x0 : Nat) (x1 : Nat) (τ : St), Ru M_H_can d Q 26 [some (.ref a0), some (.int a1), some (.int a2)] [.ref x0, .ref x1] τ = Ru M_H_can d Q 27 [some (.ref a0), some (.int a1), some (.int a2)] [.int a2, .ref x0, .ref x1] τ) ∧
    (∀ (a0 : Nat) (a1 : Int32) (a2 : Int32) (x0 : Int32) (x1 : Nat) (x2 : Nat) (τ : St), Ru M_H_can d Q 27 [some (.ref a0), some (.int a1), some (.int a2)] [.int x0, .ref x1, .ref x2] τ = (isA 14 x1 ∧ vp_in x0 (len x1) ∧ Ru M_H_can d Q 28 [some (.ref a0), some (.int a1), some (.int a2)] [.int (τ.1 x1 x0.toNatClampNeg), .ref x2] τ)) ∧
    (∀ (a0 : Nat) (a1 : Int32) (a2 : Int32) (x0 : Int32) (x1 : Nat) (τ : St), Ru M_H_can d Q 28 [some (.ref a0), some (.int a1), some (.int a2)] [.int x0, .ref x1] τ = (isA 11 x1 ∧ Cl d m_H_startWays [.ref x1, .int x0] τ (fun v τ' => Ru M_H_can d Q 31 [some (.ref a0), some (.int a1), some (.int a2)] (v.toList ++ []) τ'))) ∧
    (∀ (a0 : Nat) (a1 : Int32) (a2 : Int32) (τ : St), Ru M_H_can d Q 31 [some (.ref a0), some (.int a1), some (.int a2)] [] τ = Ru M_H_can d Q 32 [some (.ref a0), some (.int a1), some (.int a2)] [.ref a0] τ) ∧
    (∀ (a0 : Nat) (a1 : Int32) (a2 : Int32) (x0 : Nat) (τ : St), Ru M_H_can d Q 32 [some (.ref a0), some (.int a1), some (.int a2)] [.ref x0] τ = (isA 11 x0 ∧ Ru M_H_can d Q 35 [some (.ref a0), some (.int a1), some (.int a2)] [.ref (rtab x0 12)] τ)) ∧
    (∀ (a0 : Nat) (a1 : Int32) (a2 : Int32) (x0 : Nat) (τ : St), Ru M_H_can d Q 35 [some (.ref a0), some (.int a1), some (.int a2)] [.ref x0] τ = Ru M_H_can d Q 36 [some (.ref a0), some (.int a1), some (.int a2)] [.long 1, .ref x0] τ) ∧
    (∀ (a0 : Nat) (a1 : Int32) (a2 : Int32) (x0 : Int64) (x1 : Nat) (τ : St), Ru M_H_can d Q 36 [some (.ref a0), some (.int a1), some (.int a2)] [.long x0, .ref x1] τ = Ru M_H_can d Q 37 [some (.ref a0), some (.int a1), some (.int a2)] [.ref a0, .long x0, .ref x1] τ) ∧
    (∀ (a0 : Nat) (a1 : Int32) (a2 : Int32) (x0 : Nat) (x1 : Int64) (x2 : Nat) (τ : St), Ru M_H_can d Q 37 [some (.ref a0), some (.int a1), some (.int a2)] [.ref x0, .long x1, .ref x2] τ = (isA 11 x0 ∧ Ru M_H_can d Q 40 [some (.ref a0), some (.int a1), some (.int a2)] [.ref (rtab x0 3), .long x1, .ref x2] τ)) ∧
    (∀ (a0 : Nat) (a1 : Int32) (a2 : Int32) (x0 : Nat) (x1 : Int64) (x2 : Nat) (τ : St), Ru M_H_can d Q 40 [some (.ref a0), some (.int a1), some (.int a2)] [.ref x0, .long x1, .ref x2] τ = Ru M_H_can d Q 41 [some (.ref a0), some (.int a1), some (.int a2)] [.int a2, .ref x0, .long x1, .ref x2] τ) ∧
    (∀ (a0 : Nat) (a1 : Int32) (a2 : Int32) (x0 : Int32) (x1 : Nat) (x2 : Int64) (x3 : Nat) (τ : St), Ru M_H_can d Q 41 [some (.ref a0), some (.int a1), some (.int a2)] [.int x0, .ref x1, .long x2, .ref x3] τ = (isA 1 x1 ∧ Cl d m_Moment_placeOf [.ref x1, .int x0] τ (fun v τ' => Ru M_H_can d Q 44 [some (.ref a0), some (.int a1), some (.int a2)] (v.toList ++ [.long x2, .ref x3]) τ'))) ∧
    (∀ (a0 : Nat) (a1 : Int32) (a2 : Int32) (x0 : Int32) (x1 : Int64) (x2 : Nat) (τ : St), Ru M_H_can d Q 44 [some (.ref a0), some (.int a1), some (.int a2)] [.int x0, .long x1, .ref x2] τ = Ru M_H_can d Q 45 [some (.ref a0), some (.int a1), some (.int a2)] [.long (x1 <<< (x0.toInt64 &&& 63)), .ref x2] τ) ∧
    (∀ (a0 : Nat) (a1 : Int32) (a2 : Int32) (x0 : Int64) (x1 : Nat) (τ : St), Ru M_H_can d Q 45 [some (.ref a0), some (.int a1), some (.int a2)] [.long x0, .ref x1] τ = Ru M_H_can d Q 46 [some (.ref a0), some (.int a1), some (.int a2)] [.ref a0, .long x0, .ref x1] τ) ∧
    (∀ (a0 : Nat) (a1 : Int32) (a2 : Int32) (x0 : Nat) (x1 : Int64) (x2 : Nat) (τ : St), Ru M_H_can d Q 46 [some (.ref a0), some (.int a1), some (.int a2)] [.ref x0, .long x1, .ref x2] τ = (isA 11 x0 ∧ Ru M_H_can d Q 49 [some (.ref a0), some (.int a1), some (.int a2)] [.int (τ.1 x0 8), .long x1, .ref x2] τ)) ∧
    (∀ (a0 : Nat) (a1 : Int32) (a2 : Int32) (x0 : Int32) (x1 : Int64) (x2 : Nat) (τ : St), Ru M_H_can d Q 49 [some (.ref a0), some (.int a1), some (.int a2)] [.int x0, .long x1, .ref x2] τ = (isA 10 x2 ∧ Cl d m_Ways_reached [.ref x2, .long x1, .int x0] τ (fun v τ' => Ru M_H_can d Q 52 [some (.ref a0), some (.int a1), some (.int a2)] (v.toList ++ []) τ'))) ∧
    (∀ (a0 : Nat) (a1 : Int32) (a2 : Int32) (x0 : Int64) (τ : St), Ru M_H_can d Q 52 [some (.ref a0), some (.int a1), some (.int a2)] [.long x0] τ = Ru M_H_can d Q 53 [some (.ref a0), some (.int a1), some (.int a2)] [.ref a0, .long x0] τ) ∧
    (∀ (a0 : Nat) (a1 : Int32) (a2 : Int32) (x0 : Nat) (x1 : Int64) (τ : St), Ru M_H_can d Q 53 [some (.ref a0), some (.int a1), some (.int a2)] [.ref x0, .long x1] τ = (isA 11 x0 ∧ Ru M_H_can d Q 56 [some (.ref a0), some (.int a1), some (.int a2)] [.ref (rtab x0 2), .long x1] τ)) ∧
    (∀ (a0 : Nat) (a1 : Int32) (a2 : Int32) (x0 : Nat) (x1 : Int64) (τ : St), Ru M_H_can d Q 56 [some (.ref a0), some (.int a1), some (.int a2)] [.ref x0, .long x1] τ = (isA 0 x0 ∧ Ru M_H_can d Q 59 [some (.ref a0), some (.int a1), some (.int a2)] [.long (τ.2 x0 8), .long x1] τ)) ∧
    (∀ (a0 : Nat) (a1 : Int32) (a2 : Int32) (x0 : Int64) (x1 : Int64) (τ : St), Ru M_H_can d Q 59 [some (.ref a0), some (.int a1), some (.int a2)] [.long x0, .long x1] τ = Ru M_H_can d Q 60 [some (.ref a0), some (.int a1), some (.int a2)] [.long (x1 &&& x0)] τ) ∧
    (∀ (a0 : Nat) (a1 : Int32) (a2 : Int32) (x0 : Int64) (τ : St), Ru M_H_can d Q 60 [some (.ref a0), some (.int a1), some (.int a2)] [.long x0] τ = Ru M_H_can d Q 61 [some (.ref a0), some (.int a1), some (.int a2)] [.long 0, .long x0] τ) ∧
    (∀ (a0 : Nat) (a1 : Int32) (a2 : Int32) (x0 : Int64) (x1 : Int64) (τ : St), Ru M_H_can d Q 61 [some (.ref a0), some (.int a1), some (.int a2)] [.long x0, .long x1] τ = Ru M_H_can d Q 62 [some (.ref a0), some (.int a1), some (.int a2)] [.int (lg_cmp x1 x0)] τ) ∧
    (∀ (a0 : Nat) (a1 : Int32) (a2 : Int32) (x0 : Int32) (τ : St), Ru M_H_can d Q 62 [some (.ref a0), some (.int a1), some (.int a2)] [.int x0] τ = ((x0 = 0 → Ru M_H_can d Q 71 [some (.ref a0), some (.int a1), some (.int a2)] [] τ) ∧ (¬ x0 = 0 → Ru M_H_can d Q 65 [some (.ref a0), some (.int a1), some (.int a2)] [] τ))) ∧
    (∀ (a0 : Nat) (a1 : Int32) (a2 : Int32) (τ : St), Ru M_H_can d Q 65 [some (.ref a0), some (.int a1), some (.int a2)] [] τ = Ru M_H_can d Q 66 [some (.ref a0), some (.int a1), some (.int a2)] [.int a1] τ) ∧
    (∀ (a0 : Nat) (a1 : Int32) (a2 : Int32) (x0 : Int32) (τ : St), Ru M_H_can d Q 66 [some (.ref a0), some (.int a1), some (.int a2)] [.int x0] τ = Ru M_H_can d Q 67 [some (.ref a0), some (.int a1), some (.int a2)] [.int 1, .int x0] τ) ∧
    (∀ (a0 : Nat) (a1 : Int32) (a2 : Int32) (x0 : Int32) (x1 : Int32) (τ : St), Ru M_H_can d Q 67 [some (.ref a0), some (.int a1), some (.int a2)] [.int x0, .int x1] τ = Ru M_H_can d Q 68 [some (.ref a0), some (.int a1), some (.int a2)] [.int a2, .int x0, .int x1] τ) ∧
    (∀ (a0 : Nat) (a1 : Int32) (a2 : Int32) (x0 : Int32) (x1 : Int32) (x2 : Int32) (τ : St), Ru M_H_can d Q 68 [some (.ref a0), some (.int a1), some (.int a2)] [.int x0, .int x1, .int x2] τ = Ru M_H_can d Q 69 [some (.ref a0), some (.int a1), some (.int a2)] [.int (x1 <<< (x0 &&& 31)), .int x2] τ) ∧
    (∀ (a0 : Nat) (a1 : Int32) (a2 : Int32) (x0 : Int32) (x1 : Int32) (τ : St), Ru M_H_can d Q 69 [some (.ref a0), some (.int a1), some (.int a2)] [.int x0, .int x1] τ = Ru M_H_can d Q 70 [some (.ref a0), some (.int a1), some (.int a2)] [.int (x1 ||| x0)] τ) ∧
    (∀ (a0 : Nat) (a1 : Int32) (a2 : Int32) (x0 : Int32) (τ : St), Ru M_H_can d Q 70 [some (.ref a0), some (.int a1), some (.int a2)] [.int x0] τ = Ru M_H_can d Q 71 [some (.ref a0), some (.int x0), some (.int a2)] [] τ) ∧
    (∀ (a0 : Nat) (a1 : Int32) (a2 : Int32) (τ : St), Ru M_H_can d Q 71 [some (.ref a0), some (.int a1), some (.int a2)] [] τ = Ru M_H_can d Q 74 [some (.ref a0), some (.int a1), some (.int (a2 + 1))] [] τ) ∧
    (∀ (a0 : Nat) (a1 : Int32) (a2 : Int32) (τ : St), Ru M_H_can d Q 74 [some (.ref a0), some (.int a1), some (.int a2)] [] τ = Rs M_H_can d Q 4 [some (.ref a0), some (.int a1), some (.int a2)] [] τ) ∧
    (∀ (a0 : Nat) (a1 : Int32) (a2 : Int32) (τ : St), Ru M_H_can d Q 77 [some (.ref a0), some (.int a1), some (.int a2)] [] τ = Ru M_H_can d Q 78 [some (.ref a0), some (.int a1), some (.int a2)] [.ref a0] τ) ∧
    (∀ (a0 : Nat) (a1 : Int32) (a2 : Int32) (x0 : Nat) (τ : St), Ru M_H_can d Q 78 [some (.ref a0), some (.int a1), some (.int a2)] [.ref x0] τ = (isA 11 x0 ∧ Ru M_H_can d Q 81 [some (.ref a0), some (.int a1), some (.int a2)] [.ref (rtab x0 1)] τ)) ∧
    (∀ (a0 : Nat) (a1 : Int32) (a2 : Int32) (x0 : Nat) (τ : St), Ru M_H_can d Q 81 [some (.ref a0), some (.int a1), some (.int a2)] [.ref x0] τ = Ru M_H_can d Q 82 [some (.ref a0), some (.int a1), some (.int a2)] [.int a1, .ref x0] τ) ∧
    (∀ (a0 : Nat) (a1 : Int32) (a2 : Int32) (x0 : Int32) (x1 : Nat) (τ : St), Ru M_H_can d Q 82 [some (.ref a0), some (.int a1), some (.int a2)] [.int x0, .ref x1] τ = Cl d m_bitsI [.int x0] τ (fun v τ' => Ru M_H_can d Q 85 [some (.ref a0), some (.int a1), some (.int a2)] (v.toList ++ [.ref x1]) τ')) ∧
    (∀ (a0 : Nat) (a1 : Int32) (a2 : Int32) (x0 : Int32) (x1 : Nat) (τ : St), Ru M_H_can d Q 85 [some (.ref a0), some (.int a1), some (.int a2)] [.int x0, .ref x1] τ = Ru M_H_can d Q 86 [some (.ref a0), some (.int a1), some (.int a2)] [.long x0.toInt64, .ref x1] τ) ∧
    (∀ (a0 : Nat) (a1 : Int32) (a2 : Int32) (x0 : Int64) (x1 : Nat) (τ : St), Ru M_H_can d Q 86 [some (.ref a0), some (.int a1), some (.int a2)] [.long x0, .ref x1] τ = (isA 4 x1 ∧ Cl d m_Row_only [.ref x1, .long x0] τ (fun v τ' => Ru M_H_can d Q 89 [some (.ref a0), some (.int a1), some (.int a2)] (v.toList ++ []) τ'))) ∧
    (∀ (a0 : Nat) (a1 : Int32) (a2 : Int32) (τ : St), Ru M_H_can d Q 89 [some (.ref a0), some (.int a1), some (.int a2)] [] τ = Ru M_H_can d Q 90 [some (.ref a0), some (.int a1), some (.int a2)] [.int a1] τ) ∧
    (∀ (a0 : Nat) (a1 : Int32) (a2 : Int32) (x0 : Int32) (τ : St), Ru M_H_can d Q 90 [some (.ref a0), some (.int a1), some (.int a2)] [.int x0] τ = Q (some (.int x0)) τ) := ⟨
  fun _ _ => (R_at ok_H_can rfl).trans e_push,
  fun _ _ _ => (R_at ok_H_can rfl).trans e_ist,
  fun _ _ _ => (R_at ok_H_can rfl).trans e_push,
  fun _ _ _ _ => (R_at ok_H_can rfl).trans e_ist,
  fun _ _ _ _ => (R_at ok_H_can rfl).trans (e_ild rfl),
  fun _ _ _ _ _ => (R_at ok_H_can rfl).trans (e_ald rfl),
  fun _ _ _ _ _ _ => (R_at ok_H_can rfl).trans e_gR,
  fun _ _ _ _ _ _ => (R_at ok_H_can rfl).trans e_gI,
  fun _ _ _ _ _ _ => (R_at ok_H_can rfl).trans e_ic,
  fun _ _ _ _ => (R_at ok_H_can rfl).trans (e_ild rfl),
  fun _ _ _ _ _ => (R_at ok_H_can rfl).trans e_push,
  fun _ _ _ _ _ _ => (R_at ok_H_can rfl).trans e_ic,
  fun _ _ _ _ => (R_at ok_H_can rfl).trans (e_ald rfl),
  fun _ _ _ _ _ => (R_at ok_H_can rfl).trans (e_ald rfl),
  fun _ _ _ _ _ _ => (R_at ok_H_can rfl).trans e_gR,
  fun _ _ _ _ _ _ => (R_at ok_H_can rfl).trans (e_ild rfl),
  fun _ _ _ _ _ _ _ => (R_at ok_H_can rfl).trans e_al,
  fun _ _ _ x0 _ _ => (R_at ok_H_can rfl).trans (e_cv [.int x0] rfl rfl rfl),
  fun _ _ _ _ => (R_at ok_H_can rfl).trans (e_ald rfl),
  fun _ _ _ _ _ => (R_at ok_H_can rfl).trans e_gR,
  fun _ _ _ _ _ => (R_at ok_H_can rfl).trans e_push,
  fun _ _ _ _ _ _ => (R_at ok_H_can rfl).trans (e_ald rfl),
  fun _ _ _ _ _ _ _ => (R_at ok_H_can rfl).trans e_gR,
  fun _ _ _ _ _ _ _ => (R_at ok_H_can rfl).trans (e_ild rfl),
  fun _ _ _ x0 _ _ _ _ => (R_at ok_H_can rfl).trans (e_cv [.int x0] rfl rfl rfl),
  fun _ _ _ _ _ _ _ => (R_at ok_H_can rfl).trans e_lsh,
  fun _ _ _ _ _ _ => (R_at ok_H_can rfl).trans (e_ald rfl),
  fun _ _ _ _ _ _ _ => (R_at ok_H_can rfl).trans e_gI,
  fun _ _ _ x0 x1 _ _ => (R_at ok_H_can rfl).trans (e_cv [.long x1, .int x0] rfl rfl rfl),
  fun _ _ _ _ _ => (R_at ok_H_can rfl).trans (e_ald rfl),
  fun _ _ _ _ _ _ => (R_at ok_H_can rfl).trans e_gR,
  fun _ _ _ _ _ _ => (R_at ok_H_can rfl).trans e_gL,
  fun _ _ _ _ _ _ => (R_at ok_H_can rfl).trans e_lbin,
  fun _ _ _ _ _ => (R_at ok_H_can rfl).trans e_push,
  fun _ _ _ _ _ _ => (R_at ok_H_can rfl).trans e_lcmp,
  fun _ _ _ _ _ => (R_at ok_H_can rfl).trans e_if,
  fun _ _ _ _ => (R_at ok_H_can rfl).trans (e_ild rfl),
  fun _ _ _ _ _ => (R_at ok_H_can rfl).trans e_push,
  fun _ _ _ _ _ _ => (R_at ok_H_can rfl).trans (e_ild rfl),
  fun _ _ _ _ _ _ _ => (R_at ok_H_can rfl).trans e_bin,
  fun _ _ _ _ _ _ => (R_at ok_H_can rfl).trans e_bin,
  fun _ _ _ _ _ => (R_at ok_H_can rfl).trans e_ist,
  fun _ _ _ _ => (R_at ok_H_can rfl).trans (e_iinc rfl),
  fun _ _ _ _ => (R_at ok_H_can rfl).trans e_goto,
  fun _ _ _ _ => (R_at ok_H_can rfl).trans (e_ald rfl),
  fun _ _ _ _ _ => (R_at ok_H_can rfl).trans e_gR,
  fun _ _ _ _ _ => (R_at ok_H_can rfl).trans (e_ild rfl),
  fun _ _ _ x0 _ _ => (R_at ok_H_can rfl).trans (e_cs [.int x0] rfl rfl rfl),
  fun _ _ _ _ _ _ => (R_at ok_H_can rfl).trans e_il,
  fun _ _ _ x0 _ _ => (R_at ok_H_can rfl).trans (e_cv [.long x0] rfl rfl rfl),
  fun _ _ _ _ => (R_at ok_H_can rfl).trans (e_ild rfl),
  fun _ _ _ _ _ => (R_at ok_H_can rfl).trans e_iret⟩
set_option maxHeartbeats 4000000 in
theorem N_H_planks (d : Nat) (Q : Qt) : ∀ (x0 : Nat) (x1 : Int32) (x2 : Int32) (τ : St), Cl (d + 1) m_H_planks [.ref x0, .int x1, .int x2] τ Q = Ru M_H_planks d Q 0 [some (.ref x0), some (.int x1), some (.int x2), none, none, none, none, none, none] [] τ := fun _ _ _ _ => propext ⟨fun h => h.2, fun h => ⟨Nat.le_of_ble_eq_true rfl, h⟩⟩
set_option maxHeartbeats 4000000 in
theorem E_H_planks (d : Nat) (Q : Qt) :
    (∀ (a0 : Nat) (a1 : Int32) (a2 : Int32) (τ : St), Ru M_H_planks d Q 0 [some (.ref a0), some (.int a1), some (.int a2), none, none, none, none, none, none] [] τ = Ru M_H_planks d Q 1 [some (.ref a0), some (.int a1), some (.int a2), none, none, none, none, none, none] [.int a1] τ) ∧
    (∀ (a0 : Nat) (a1 : Int32) (a2 : Int32) (x0 : Int32) (τ : St), Ru M_H_planks d Q 1 [some (.ref a0), some (.int a1), some (.int a2), none, none, none, none, none, none] [.int x0] τ = Cl d m_H_isWeight [.int x0] τ (fun v τ' => Ru M_H_planks d Q 4 [some (.ref a0), some (.int a1), some (.int a2), none, none, none, none, none, none] (v.toList ++ []) τ')) ∧
    (∀ (a0 : Nat) (a1 : Int32) (a2 : Int32) (x0 : Int32) (τ : St), Ru M_H_planks d Q 4 [some (.ref a0), some (.int a1), some (.int a2), none, none, none, none, none, none] [.int x0] τ = ((x0 = 0 → Ru M_H_planks d Q 16 [some (.ref a0), some (.int a1), some (.int a2), none, none, none, none, none, none] [] τ) ∧ (¬ x0 = 0 → Ru M_H_planks d Q 7 [some (.ref a0), some (.int a1), some (.int a2), none, none, none, none, none, none] [] τ))) ∧
    (∀ (a0 : Nat) (a1 : Int32) (a2 : Int32) (τ : St), Ru M_H_planks d Q 7 [some (.ref a0), some (.int a1), some (.int a2), none, none, none, none, none, none] [] τ = Ru M_H_planks d Q 8 [some (.ref a0), some (.int a1), some (.int a2), none, none, none, none, none, none] [.int a2] τ) ∧
    (∀ (a0 : Nat) (a1 : Int32) (a2 : Int32) (x0 : Int32) (τ : St), Ru M_H_planks d Q 8 [some (.ref a0), some (.int a1), some (.int a2), none, none, none, none, none, none] [.int x0] τ = ((x0 < 0 → Ru M_H_planks d Q 16 [some (.ref a0), some (.int a1), some (.int a2), none, none, none, none, none, none] [] τ) ∧ (¬ x0 < 0 → Ru M_H_planks d Q 11 [some (.ref a0), some (.int a1), some (.int a2), none, none, none, none, none, none] [] τ))) ∧
    (∀ (a0 : Nat) (a1 : Int32) (a2 : Int32) (τ : St), Ru M_H_planks d Q 11 [some (.ref a0), some (.int a1), some (.int a2), none, none, none, none, none, none] [] τ = Ru M_H_planks d Q 12 [some (.ref a0), some (.int a1), some (.int a2), none, none, none, none, none, none] [.int a2] τ) ∧
    (∀ (a0 : Nat) (a1 : Int32) (a2 : Int32) (x0 : Int32) (τ : St), Ru M_H_planks d Q 12 [some (.ref a0), some (.int a1), some (.int a2), none, none, none, none, none, none] [.int x0] τ = Ru M_H_planks d Q 13 [some (.ref a0), some (.int a1), some (.int a2), none, none, none, none, none, none] [.int 2, .int x0] τ) ∧
    (∀ (a0 : Nat) (a1 : Int32) (a2 : Int32) (x0 : Int32) (x1 : Int32) (τ : St), Ru M_H_planks d Q 13 [some (.ref a0), some (.int a1), some (.int a2), none, none, none, none, none, none] [.int x0, .int x1] τ = ((x1 ≤ x0 → Ru M_H_planks d Q 18 [some (.ref a0), some (.int a1), some (.int a2), none, none, none, none, none, none] [] τ) ∧ (¬ x1 ≤ x0 → Ru M_H_planks d Q 16 [some (.ref a0), some (.int a1), some (.int a2), none, none, none, none, none, none] [] τ))) ∧
    (∀ (a0 : Nat) (a1 : Int32) (a2 : Int32) (τ : St), Ru M_H_planks d Q 16 [some (.ref a0), some (.int a1), some (.int a2), none, none, none, none, none, none] [] τ = Ru M_H_planks d Q 17 [some (.ref a0), some (.int a1), some (.int a2), none, none, none, none, none, none] [.int (-1)] τ) ∧
    (∀ (a0 : Nat) (a1 : Int32) (a2 : Int32) (x0 : Int32) (τ : St), Ru M_H_planks d Q 17 [some (.ref a0), some (.int a1), some (.int a2), none, none, none, none, none, none] [.int x0] τ = Q (some (.int x0)) τ) ∧
    (∀ (a0 : Nat) (a1 : Int32) (a2 : Int32) (τ : St), Ru M_H_planks d Q 18 [some (.ref a0), some (.int a1), some (.int a2), none, none, none, none, none, none] [] τ = Ru M_H_planks d Q 19 [some (.ref a0), some (.int a1), some (.int a2), none, none, none, none, none, none] [.ref a0] τ) ∧
    (∀ (a0 : Nat) (a1 : Int32) (a2 : Int32) (x0 : Nat) (τ : St), Ru M_H_planks d Q 19 [some (.ref a0), some (.int a1), some (.int a2), none, none, none, none, none, none] [.ref x0] τ = (isA 11 x0 ∧ Ru M_H_planks d Q 22 [some (.ref a0), some (.int a1), some (.int a2), none, none, none, none, none, none] [.ref (rtab x0 2)] τ)) ∧
    (∀ (a0 : Nat) (a1 : Int32) (a2 : Int32) (x0 : Nat) (τ : St), Ru M_H_planks d Q 22 [some (.ref a0), some (.int a1), some (.int a2), none, none, none, none, none, none] [.ref x0] τ = (isA 0 x0 ∧ Ru M_H_planks d Q 25 [some (.ref a0), some (.int a1), some (.int a2), none, none, none, none, none, none] [.long (τ.2 x0 6)] τ)) ∧
    (∀ (a0 : Nat) (a1 : Int32) (a2 : Int32) (x0 : Int64) (τ : St), Ru M_H_planks d Q 25 [some (.ref a0), some (.int a1), some (.int a2), none, none, none, none, none, none] [.long x0] τ = Ru M_H_planks d Q 26 [some (.ref a0), some (.int a1), some (.int a2), none, none, none, none, none, none] [.ref a0, .long x0] τ) ∧
    (∀ (a0 : Nat) (a1 : Int32) (a2 : Int32) (x0 : Nat) (x1 : Int64) (τ : St), Ru M_H_planks d Q 26 [some (.ref a0), some (.int a1), some (.int a2), none, none, none, none, none, none] [.ref x0, .long x1] τ = (isA 11 x0 ∧ Ru M_H_planks d Q 29 [some (.ref a0), some (.int a1), some (.int a2), none, none, none, none, none, none] [.ref (rtab x0 3), .long x1] τ)) ∧
    (∀ (a0 : Nat) (a1 : Int32) (a2 : Int32) (x0 : Nat) (x1 : Int64) (τ : St), Ru M_H_planks d Q 29 [some (.ref a0), some (.int a1), some (.int a2), none, none, none, none, none, none] [.ref x0, .long x1] τ = (isA 1 x0 ∧ Ru M_H_planks d Q 32 [some (.ref a0), some (.int a1), some (.int a2), none, none, none, none, none, none] [.long (τ.2 x0 3), .long x1] τ)) ∧
    (∀ (a0 : Nat) (a1 : Int32) (a2 : Int32) (x0 : Int64) (x1 : Int64) (τ : St), Ru M_H_planks d Q 32 [some (.ref a0), some (.int a1), some (.int a2), none, none, none, none, none, none] [.long x0, .long x1] τ = Ru M_H_planks d Q 35 [some (.ref a0), some (.int a1), some (.int a2), none, none, none, none, none, none] [.long (-1), .long x0, .long x1] τ) ∧
    (∀ (a0 : Nat) (a1 : Int32) (a2 : Int32) (x0 : Int64) (x1 : Int64) (x2 : Int64) (τ : St), Ru M_H_planks d Q 35 [some (.ref a0), some (.int a1), some (.int a2), none, none, none, none, none, none] [.long x0, .long x1, .long x2] τ = Ru M_H_planks d Q 36 [some (.ref a0), some (.int a1), some (.int a2), none, none, none, none, none, none] [.long (x1 ^^^ x0), .long x2] τ) ∧
    (∀ (a0 : Nat) (a1 : Int32) (a2 : Int32) (x0 : Int64) (x1 : Int64) (τ : St), Ru M_H_planks d Q 36 [some (.ref a0), some (.int a1), some (.int a2), none, none, none, none, none, none] [.long x0, .long x1] τ = Ru M_H_planks d Q 37 [some (.ref a0), some (.int a1), some (.int a2), none, none, none, none, none, none] [.long (x1 &&& x0)] τ) ∧
    (∀ (a0 : Nat) (a1 : Int32) (a2 : Int32) (x0 : Int64) (τ : St), Ru M_H_planks d Q 37 [some (.ref a0), some (.int a1), some (.int a2), none, none, none, none, none, none] [.long x0] τ = Ru M_H_planks d Q 38 [some (.ref a0), some (.int a1), some (.int a2), some (.long x0), none, none, none, none, none] [] τ) ∧
    (∀ (a0 : Nat) (a1 : Int32) (a2 : Int32) (a3 : Int64) (τ : St), Ru M_H_planks d Q 38 [some (.ref a0), some (.int a1), some (.int a2), some (.long a3), none, none, none, none, none] [] τ = Ru M_H_planks d Q 39 [some (.ref a0), some (.int a1), some (.int a2), some (.long a3), none, none, none, none, none] [.ref a0] τ) ∧
    (∀ (a0 : Nat) (a1 : Int32) (a2 : Int32) (a3 : Int64) (x0 : Nat) (τ : St), Ru M_H_planks d Q 39 [some (.ref a0), some (.int a1), some (.int a2), some (.long a3), none, none, none, none, none] [.ref x0] τ = Ru M_H_planks d Q 40 [some (.ref a0), some (.int a1), some (.int a2), some (.long a3), none, none, none, none, none] [.int a1, .ref x0] τ) ∧
    (∀ (a0 : Nat) (a1 : Int32) (a2 : Int32) (a3 : Int64) (x0 : Int32) (x1 : Nat) (τ : St), Ru M_H_planks d Q 40 [some (.ref a0), some (.int a1), some (.int a2), some (.long a3), none, none, none, none, none] [.int x0, .ref x1] τ = (isA 11 x1 ∧ Cl d m_H_startWays [.ref x1, .int x0] τ (fun v τ' => Ru M_H_planks d Q 43 [some (.ref a0), some (.int a1), some (.int a2), some (.long a3), none, none, none, none, none] (v.toList ++ []) τ'))) ∧
    (∀ (a0 : Nat) (a1 : Int32) (a2 : Int32) (a3 : Int64) (τ : St), Ru M_H_planks d Q 43 [some (.ref a0), some (.int a1), some (.int a2), some (.long a3), none, none, none, none, none] [] τ = Ru M_H_planks d Q 44 [some (.ref a0), some (.int a1), some (.int a2), some (.long a3), none, none, none, none, none] [.long a3] τ) ∧
    (∀ (a0 : Nat) (a1 : Int32) (a2 : Int32) (a3 : Int64) (x0 : Int64) (τ : St), Ru M_H_planks d Q 44 [some (.ref a0), some (.int a1), some (.int a2), some (.long a3), none, none, none, none, none] [.long x0] τ = Cl d m_bitsL [.long x0] τ (fun v τ' => Ru M_H_planks d Q 47 [some (.ref a0), some (.int a1), some (.int a2), some (.long a3), none, none, none, none, none] (v.toList ++ []) τ')) ∧
    (∀ (a0 : Nat) (a1 : Int32) (a2 : Int32) (a3 : Int64) (x0 : Int32) (τ : St), Ru M_H_planks d Q 47 [some (.ref a0), some (.int a1), some (.int a2), some (.long a3), none, none, none, none, none] [.int x0] τ = Ru M_H_planks d Q 48 [some (.ref a0), some (.int a1), some (.int a2), some (.long a3), none, none, none, none, none] [.int a2, .int x0] τ) ∧
    (∀ (a0 : Nat) (a1 : Int32) (a2 : Int32) (a3 : Int64) (x0 : Int32) (x1 : Int32) (τ : St), Ru M_H_planks d Q 48 [some (.ref a0), some (.int a1), some (.int a2), some (.long a3), none, none, none, none, none] [.int x0, .int x1] τ = ((x1 < x0 → Ru M_H_planks d Q 64 [some (.ref a0), some (.int a1), some (.int a2), some (.long a3), none, none, none, none, none] [] τ) ∧ (¬ x1 < x0 → Ru M_H_planks d Q 51 [some (.ref a0), some (.int a1), some (.int a2), some (.long a3), none, none, none, none, none] [] τ))) ∧
    (∀ (a0 : Nat) (a1 : Int32) (a2 : Int32) (a3 : Int64) (τ : St), Ru M_H_planks d Q 51 [some (.ref a0), some (.int a1), some (.int a2), some (.long a3), none, none, none, none, none] [] τ = Ru M_H_planks d Q 52 [some (.ref a0), some (.int a1), some (.int a2), some (.long a3), none, none, none, none, none] [.ref a0] τ) ∧
    (∀ (a0 : Nat) (a1 : Int32) (a2 : Int32) (a3 : Int64) (x0 : Nat) (τ : St), Ru M_H_planks d Q 52 [some (.ref a0), some (.int a1), some (.int a2), some (.long a3), none, none, none, none, none] [.ref x0] τ = (isA 11 x0 ∧ Ru M_H_planks d Q 55 [some (.ref a0), some (.int a1), some (.int a2), some (.long a3), none, none, none, none, none] [.ref (rtab x0 12)] τ)) ∧
    (∀ (a0 : Nat) (a1 : Int32) (a2 : Int32) (a3 : Int64) (x0 : Nat) (τ : St), Ru M_H_planks d Q 55 [some (.ref a0), some (.int a1), some (.int a2), some (.long a3), none, none, none, none, none] [.ref x0] τ = Ru M_H_planks d Q 58 [some (.ref a0), some (.int a1), some (.int a2), some (.long a3), none, none, none, none, none] [.int 1498, .ref x0] τ) ∧
    (∀ (a0 : Nat) (a1 : Int32) (a2 : Int32) (a3 : Int64) (x0 : Int32) (x1 : Nat) (τ : St), Ru M_H_planks d Q 58 [some (.ref a0), some (.int a1), some (.int a2), some (.long a3), none, none, none, none, none] [.int x0, .ref x1] τ = (isA 10 x1 ∧ Cl d m_Ways_crosses [.ref x1, .int x0] τ (fun v τ' => Ru M_H_planks d Q 61 [some (.ref a0), some (.int a1), some (.int a2), some (.long a3), none, none, none, none, none] (v.toList ++ []) τ'))) ∧
    (∀ (a0 : Nat) (a1 : Int32) (a2 : Int32) (a3 : Int64) (x0 : Int32) (τ : St), Ru M_H_planks d Q 61 [some (.ref a0), some (.int a1), some (.int a2), some (.long a3), none, none, none, none, none] [.int x0] τ = ((¬ x0 = 0 → Ru M_H_planks d Q 67 [some (.ref a0), some (.int a1), some (.int a2), some (.long a3), none, none, none, none, none] [] τ) ∧ (x0 = 0 → Ru M_H_planks d Q 64 [some (.ref a0), some (.int a1), some (.int a2), some (.long a3), none, none, none, none, none] [] τ))) ∧
    (∀ (a0 : Nat) (a1 : Int32) (a2 : Int32) (a3 : Int64) (τ : St), Ru M_H_planks d Q 64 [some (.ref a0), some (.int a1), some (.int a2), some (.long a3), none, none, none, none, none] [] τ = Ru M_H_planks d Q 66 [some (.ref a0), some (.int a1), some (.int a2), some (.long a3), none, none, none, none, none] [.int (-2)] τ) ∧
    (∀ (a0 : Nat) (a1 : Int32) (a2 : Int32) (a3 : Int64) (x0 : Int32) (τ : St), Ru M_H_planks d Q 66 [some (.ref a0), some (.int a1), some (.int a2), some (.long a3), none, none, none, none, none] [.int x0] τ = Q (some (.int x0)) τ) ∧
    (∀ (a0 : Nat) (a1 : Int32) (a2 : Int32) (a3 : Int64) (τ : St), Ru M_H_planks d Q 67 [some (.ref a0), some (.int a1), some (.int a2), some (.long a3), none, none, none, none, none] [] τ = Ru M_H_planks d Q 68 [some (.ref a0), some (.int a1), some (.int a2), some (.long a3), none, none, none, none, none] [.ref a0] τ) ∧
    (∀ (a0 : Nat) (a1 : Int32) (a2 : Int32) (a3 : Int64) (x0 : Nat) (τ : St), Ru M_H_planks d Q 68 [some (.ref a0), some (.int a1), some (.int a2), some (.long a3), none, none, none, none, none] [.ref x0] τ = (isA 11 x0 ∧ Ru M_H_planks d Q 71 [some (.ref a0), some (.int a1), some (.int a2), some (.long a3), none, none, none, none, none] [.ref (rtab x0 12)] τ)) ∧
    (∀ (a0 : Nat) (a1 : Int32) (a2 : Int32) (a3 : Int64) (x0 : Nat) (τ : St), Ru M_H_planks d Q 71 [some (.ref a0), some (.int a1), some (.int a2), some (.long a3), none, none, none, none, none] [.ref x0] τ = (isA 10 x0 ∧ Cl d m_Ways_startLaying [.ref x0] τ (fun v τ' => Ru M_H_planks d Q 74 [some (.ref a0), some (.int a1), some (.int a2), some (.long a3), none, none, none, none, none] (v.toList ++ []) τ'))) ∧
    (∀ (a0 : Nat) (a1 : Int32) (a2 : Int32) (a3 : Int64) (τ : St), Ru M_H_planks d Q 74 [some (.ref a0), some (.int a1), some (.int a2), some (.long a3), none, none, none, none, none] [] τ = Ru M_H_planks d Q 75 [some (.ref a0), some (.int a1), some (.int a2), some (.long a3), none, none, none, none, none] [.int a2] τ) ∧
    (∀ (a0 : Nat) (a1 : Int32) (a2 : Int32) (a3 : Int64) (x0 : Int32) (τ : St), Ru M_H_planks d Q 75 [some (.ref a0), some (.int a1), some (.int a2), some (.long a3), none, none, none, none, none] [.int x0] τ = ((¬ x0 = 0 → Ru M_H_planks d Q 93 [some (.ref a0), some (.int a1), some (.int a2), some (.long a3), none, none, none, none, none] [] τ) ∧ (x0 = 0 → Ru M_H_planks d Q 78 [some (.ref a0), some (.int a1), some (.int a2), some (.long a3), none, none, none, none, none] [] τ))) ∧
    (∀ (a0 : Nat) (a1 : Int32) (a2 : Int32) (a3 : Int64) (τ : St), Ru M_H_planks d Q 78 [some (.ref a0), some (.int a1), some (.int a2), some (.long a3), none, none, none, none, none] [] τ = Ru M_H_planks d Q 79 [some (.ref a0), some (.int a1), some (.int a2), some (.long a3), none, none, none, none, none] [.ref a0] τ) ∧
    (∀ (a0 : Nat) (a1 : Int32) (a2 : Int32) (a3 : Int64) (x0 : Nat) (τ : St), Ru M_H_planks d Q 79 [some (.ref a0), some (.int a1), some (.int a2), some (.long a3), none, none, none, none, none] [.ref x0] τ = (isA 11 x0 ∧ Ru M_H_planks d Q 82 [some (.ref a0), some (.int a1), some (.int a2), some (.long a3), none, none, none, none, none] [.ref (rtab x0 12)] τ)) ∧
    (∀ (a0 : Nat) (a1 : Int32) (a2 : Int32) (a3 : Int64) (x0 : Nat) (τ : St), Ru M_H_planks d Q 82 [some (.ref a0), some (.int a1), some (.int a2), some (.long a3), none, none, none, none, none] [.ref x0] τ = Ru M_H_planks d Q 83 [some (.ref a0), some (.int a1), some (.int a2), some (.long a3), none, none, none, none, none] [.ref a0, .ref x0] τ) ∧
    (∀ (a0 : Nat) (a1 : Int32) (a2 : Int32) (a3 : Int64) (x0 : Nat) (x1 : Nat) (τ : St), Ru M_H_planks d Q 83 [some (.ref a0), some (.int a1), some (.int a2), some (.long a3), none, none, none, none, none] [.ref x0, .ref x1] τ = (isA 11 x0 ∧ Ru M_H_planks d Q 86 [some (.ref a0), some (.int a1), some (.int a2), some (.long a3), none, none, none, none, none] [.ref (rtab x0 3), .ref x1] τ)) ∧
    (∀ (a0 : Nat) (a1 : Int32) (a2 : Int32) (a3 : Int64) (x0 : Nat) (x1 : Nat) (τ : St), Ru M_H_planks d Q 86 [some (.ref a0), some (.int a1), some (.int a2), some (.long a3), none, none, none, none, none] [.ref x0, .ref x1] τ = (isA 1 x0 ∧ Ru M_H_planks d Q 89 [some (.ref a0), some (.int a1), some (.int a2), some (.long a3), none, none, none, none, none] [.long (τ.2 x0 3), .ref x1] τ)) ∧
    (∀ (a0 : Nat) (a1 : Int32) (a2 : Int32) (a3 : Int64) (x0 : Int64) (x1 : Nat) (τ : St), Ru M_H_planks d Q 89 [some (.ref a0), some (.int a1), some (.int a2), some (.long a3), none, none, none, none, none] [.long x0, .ref x1] τ = Ru M_H_planks d Q 90 [some (.ref a0), some (.int a1), some (.int a2), some (.long a3), none, none, none, none, none] [.long 0, .long x0, .ref x1] τ) ∧
    (∀ (a0 : Nat) (a1 : Int32) (a2 : Int32) (a3 : Int64) (x0 : Int64) (x1 : Int64) (x2 : Nat) (τ : St), Ru M_H_planks d Q 90 [some (.ref a0), some (.int a1), some (.int a2), some (.long a3), none, none, none, none, none] [.long x0, .long x1, .ref x2] τ = (isA 10 x2 ∧ Cl d m_Ways_tryPlanks [.ref x2, .long x1, .long x0] τ (fun v τ' => Ru M_H_planks d Q 93 [some (.ref a0), some (.int a1), some (.int a2), some (.long a3), none, none, none, none, none] (v.toList ++ []) τ'))) ∧
    (∀ (a0 : Nat) (a1 : Int32) (a2 : Int32) (a3 : Int64) (τ : St), Ru M_H_planks d Q 93 [some (.ref a0), some (.int a1), some (.int a2), some (.long a3), none, none, none, none, none] [] τ = Ru M_H_planks d Q 94 [some (.ref a0), some (.int a1), some (.int a2), some (.long a3), none, none, none, none, none] [.int 0] τ) ∧
    (∀ (a0 : Nat) (a1 : Int32) (a2 : Int32) (a3 : Int64) (x0 : Int32) (τ : St), Ru M_H_planks d Q 94 [some (.ref a0), some (.int a1), some (.int a2), some (.long a3), none, none, none, none, none] [.int x0] τ = Rs M_H_planks d Q 96 [some (.ref a0), some (.int a1), some (.int a2), some (.long a3), none, some (.int x0), none, none, none] [] τ) ∧
    (∀ (a0 : Nat) (a1 : Int32) (a2 : Int32) (a3 : Int64) (a5 : Int32) (a6 : Option Value) (a7 : Option Value) (τ : St), Ru M_H_planks d Q 96 [some (.ref a0), some (.int a1), some (.int a2), some (.long a3), none, some (.int a5), a6, a7, none] [] τ = Ru M_H_planks d Q 98 [some (.ref a0), some (.int a1), some (.int a2), some (.long a3), none, some (.int a5), a6, a7, none] [.int a5] τ) ∧
    (∀ (a0 : Nat) (a1 : Int32) (a2 : Int32) (a3 : Int64) (a5 : Int32) (a6 : Option Value) (a7 : Option Value) (x0 : Int32) (τ : St), Ru M_H_planks d Q 98 [some (.ref a0), some (.int a1), some (.int a2), some (.long a3), none, some (.int a5), a6, a7, none] [.int x0] τ = Ru M_H_planks d Q 99 [some (.ref a0), some (.int a1), some (.int a2), some (.long a3), none, some (.int a5), a6, a7, none] [.ref a0, .int x0] τ) ∧
    (∀ (a0 : Nat) (a1 : Int32) (a2 : Int32) (a3 : Int64) (a5 : Int32) (a6 : Option Value) (a7 : Option Value) (x0 : Nat) (x1 : Int32) (τ : St), Ru M_H_planks d Q 99 [some (.ref a0), some (.int a1), some (.int a2), some (.long a3), none, some (.int a5), a6, a7, none] [.ref x0, .int x1] τ = (isA 11 x0 ∧ Ru M_H_planks d Q 102 [some (.ref a0), some (.int a1), some (.int a2), some (.long a3), none, some (.int a5), a6, a7, none] [.ref (rtab x0 2), .int x1] τ)) ∧
    (∀ (a0 : Nat) (a1 : Int32) (a2 : Int32) (a3 : Int64) (a5 : Int32) (a6 : Option Value) (a7 : Option Value) (x0 : Nat) (x1 : Int32) (τ : St), Ru M_H_planks d Q 102 [some (.ref a0), some (.int a1), some (.int a2), some (.long a3), none, some (.int a5), a6, a7, none] [.ref x0, .int x1] τ = (isA 0 x0 ∧ Ru M_H_planks d Q 105 [some (.ref a0), some (.int a1), some (.int a2), some (.long a3), none, some (.int a5), a6, a7, none] [.int (τ.1 x0 2), .int x1] τ)) ∧
    (∀ (a0 : Nat) (a1 : Int32) (a2 : Int32) (a3 : Int64) (a5 : Int32) (a6 : Option Value) (a7 : Option Value) (x0 : Int32) (x1 : Int32) (τ : St), Ru M_H_planks d Q 105 [some (.ref a0), some (.int a1), some (.int a2), some (.long a3), none, some (.int a5), a6, a7, none] [.int x0, .int x1] τ = ((x0 ≤ x1 → Ru M_H_planks d Q 179 [some (.ref a0), some (.int a1), some (.int a2), some (.long a3), none, some (.int a5), a6, a7, none] [] τ) ∧ (¬ x0 ≤ x1 → Ru M_H_planks d Q 108 [some (.ref a0), some (.int a1), some (.int a2), some (.long a3), none, some (.int a5), a6, a7, none] [] τ))) ∧
    (∀ (a0 : Nat) (a1 : Int32) (a2 : Int32) (a3 : Int64) (a5 : Int32) (a6 : Option Value) (a7 : Option Value) (τ : St), Ru M_H_planks d Q 108 [some (.ref a0), some (.int a1), some (.int a2), some (.long a3), none, some (.int a5), a6, a7, none] [] τ = Ru M_H_planks d Q 109 [some (.ref a0), some (.int a1), some (.int a2), some (.long a3), none, some (.int a5), a6, a7, none] [.int 0] τ) ∧
    (∀ (a0 : Nat) (a1 : Int32) (a2 : Int32) (a3 : Int64) (a5 : Int32) (a6 : Option Value) (a7 : Option Value) (x0 : Int32) (τ : St), Ru M_H_planks d Q 109 [some (.ref a0), some (.int a1), some (.int a2), some (.long a3), none, some (.int a5), a6, a7, none] [.int x0] τ = Rs M_H_planks d Q 111 [some (.ref a0), some (.int a1), some (.int a2), some (.long a3), none, some (.int a5), some (.int x0), a7, none] [] τ) ∧
    (∀ (a0 : Nat) (a1 : Int32) (a2 : Int32) (a3 : Int64) (a5 : Int32) (a6 : Int32) (a7 : Option Value) (τ : St), Ru M_H_planks d Q 111 [some (.ref a0), some (.int a1), some (.int a2), some (.long a3), none, some (.int a5), some (.int a6), a7, none] [] τ = Ru M_H_planks d Q 113 [some (.ref a0), some (.int a1), some (.int a2), some (.long a3), none, some (.int a5), some (.int a6), a7, none] [.int a6] τ) ∧
    (∀ (a0 : Nat) (a1 : Int32) (a2 : Int32) (a3 : Int64) (a5 : Int32) (a6 : Int32) (a7 : Option Value) (x0 : Int32) (τ : St), Ru M_H_planks d Q 113 [some (.ref a0), some (.int a1), some (.int a2), some (.long a3), none, some (.int a5), some (.int a6), a7, none] [.int x0] τ = Ru M_H_planks d Q 115 [some (.ref a0), some (.int a1), some (.int a2), some (.long a3), none, some (.int a5), some (.int a6), a7, none] [.int a5, .int x0] τ) ∧
    (∀ (a0 : Nat) (a1 : Int32) (a2 : Int32) (a3 : Int64) (a5 : Int32) (a6 : Int32) (a7 : Option Value) (x0 : Int32) (x1 : Int32) (τ : St), Ru M_H_planks d Q 115 [some (.ref a0), some (.int a1), some (.int a2), some (.long a3), none, some (.int a5), some (.int a6), a7, none] [.int x0, .int x1] τ = ((x0 < x1 → Ru M_H_planks d Q 173 [some (.ref a0), some (.int a1), some (.int a2), some (.long a3), none, some (.int a5), some (.int a6), a7, none] [] τ) ∧ (¬ x0 < x1 → Ru M_H_planks d Q 118 [some (.ref a0), some (.int a1), some (.int a2), some (.long a3), none, some (.int a5), some (.int a6), a7, none] [] τ))) ∧
    (∀ (a0 : Nat) (a1 : Int32) (a2 : Int32) (a3 : Int64) (a5 : Int32) (a6 : Int32) (a7 : Option Value) (τ : St), Ru M_H_planks d Q 118 [some (.ref a0), some (.int a1), some (.int a2), some (.long a3), none, some (.int a5), some (.int a6), a7, none] [] τ = Ru M_H_planks d Q 119 [some (.ref a0), some (.int a1), some (.int a2), some (.long a3), none, some (.int a5), some (.int a6), a7, none] [.long 1] τ) ∧
    (∀ (a0 : Nat) (a1 : Int32) (a2 : Int32) (a3 : Int64) (a5 : Int32) (a6 : Int32) (a7 : Option Value) (x0 : Int64) (τ : St), Ru M_H_planks d Q 119 [some (.ref a0), some (.int a1), some (.int a2), some (.long a3), none, some (.int a5), some (.int a6), a7, none] [.long x0] τ = Ru M_H_planks d Q 121 [some (.ref a0), some (.int a1), some (.int a2), some (.long a3), none, some (.int a5), some (.int a6), a7, none] [.int a5, .long x0] τ) ∧
    (∀ (a0 : Nat) (a1 : Int32) (a2 : Int32) (a3 : Int64) (a5 : Int32) (a6 : Int32) (a7 : Option Value) (x0 : Int32) (x1 : Int64) (τ : St), Ru M_H_planks d Q 121 [some (.ref a0), some (.int a1), some (.int a2), some (.long a3), none, some (.int a5), some (.int a6), a7, none] [.int x0, .long x1] τ = Ru M_H_planks d Q 122 [some (.ref a0), some (.int a1), some (.int a2), some (.long a3), none, some (.int a5), some (.int a6), a7, none] [.long (x1 <<< (x0.toInt64 &&& 63))] τ) ∧
    (∀ (a0 : Nat) (a1 : Int32) (a2 : Int32) (a3 : Int64) (a5 : Int32) (a6 : Int32) (a7 : Option Value) (x0 : Int64) (τ : St), Ru M_H_planks d Q 122 [some (.ref a0), some (.int a1), some (.int a2), some (.long a3), none, some (.int a5), some (.int a6), a7, none] [.long x0] τ = Ru M_H_planks d Q 123 [some (.ref a0), some (.int a1), some (.int a2), some (.long a3), none, some (.int a5), some (.int a6), a7, none] [.long 1, .long x0] τ) ∧
    (∀ (a0 : Nat) (a1 : Int32) (a2 : Int32) (a3 : Int64) (a5 : Int32) (a6 : Int32) (a7 : Option Value) (x0 : Int64) (x1 : Int64) (τ : St), Ru M_H_planks d Q 123 [some (.ref a0), some (.int a1), some (.int a2), some (.long a3), none, some (.int a5), some (.int a6), a7, none] [.long x0, .long x1] τ = Ru M_H_planks d Q 125 [some (.ref a0), some (.int a1), some (.int a2), some (.long a3), none, some (.int a5), some (.int a6), a7, none] [.int a6, .long x0, .long x1] τ) ∧
    (∀ (a0 : Nat) (a1 : Int32) (a2 : Int32) (a3 : Int64) (a5 : Int32) (a6 : Int32) (a7 : Option Value) (x0 : Int32) (x1 : Int64) (x2 : Int64) (τ : St), Ru M_H_planks d Q 125 [some (.ref a0), some (.int a1), some (.int a2), some (.long a3), none, some (.int a5), some (.int a6), a7, none] [.int x0, .long x1, .long x2] τ = Ru M_H_planks d Q 126 [some (.ref a0), some (.int a1), some (.int a2), some (.long a3), none, some (.int a5), some (.int a6), a7, none] [.long (x1 <<< (x0.toInt64 &&& 63)), .long x2] τ) ∧
    (∀ (a0 : Nat) (a1 : Int32) (a2 : Int32) (a3 : Int64) (a5 : Int32) (a6 : Int32) (a7 : Option Value) (x0 : Int64) (x1 : Int64) (τ : St), Ru M_H_planks d Q 126 [some (.ref a0), some (.int a1), some (.int a2), some (.long a3), none, some (.int a5), some (.int a6), a7, none] [.long x0, .long x1] τ = Ru M_H_planks d Q 127 [some (.ref a0), some (.int a1), some (.int a2), some (.long a3), none, some (.int a5), some (.int a6), a7, none] [.long (x1 ||| x0)] τ) ∧
    (∀ (a0 : Nat) (a1 : Int32) (a2 : Int32) (a3 : Int64) (a5 : Int32) (a6 : Int32) (a7 : Option Value) (x0 : Int64) (τ : St), Ru M_H_planks d Q 127 [some (.ref a0), some (.int a1), some (.int a2), some (.long a3), none, some (.int a5), some (.int a6), a7, none] [.long x0] τ = Ru M_H_planks d Q 129 [some (.ref a0), some (.int a1), some (.int a2), some (.long a3), none, some (.int a5), some (.int a6), some (.long x0), none] [] τ) ∧
    (∀ (a0 : Nat) (a1 : Int32) (a2 : Int32) (a3 : Int64) (a5 : Int32) (a6 : Int32) (a7 : Int64) (τ : St), Ru M_H_planks d Q 129 [some (.ref a0), some (.int a1), some (.int a2), some (.long a3), none, some (.int a5), some (.int a6), some (.long a7), none] [] τ = Ru M_H_planks d Q 131 [some (.ref a0), some (.int a1), some (.int a2), some (.long a3), none, some (.int a5), some (.int a6), some (.long a7), none] [.long a7] τ) ∧
    (∀ (a0 : Nat) (a1 : Int32) (a2 : Int32) (a3 : Int64) (a5 : Int32) (a6 : Int32) (a7 : Int64) (x0 : Int64) (τ : St), Ru M_H_planks d Q 131 [some (.ref a0), some (.int a1), some (.int a2), some (.long a3), none, some (.int a5), some (.int a6), some (.long a7), none] [.long x0] τ = Cl d m_bitsL [.long x0] τ (fun v τ' => Ru M_H_planks d Q 134 [some (.ref a0), some (.int a1), some (.int a2), some (.long a3), none, some (.int a5), some (.int a6), some (.long a7), none] (v.toList ++ []) τ')) ∧
    (∀ (a0 : Nat) (a1 : Int32) (a2 : Int32) (a3 : Int64) (a5 : Int32) (a6 : Int32) (a7 : Int64) (x0 : Int32) (τ : St), Ru M_H_planks d Q 134 [some (.ref a0), some (.int a1), some (.int a2), some (.long a3), none, some (.int a5), some (.int a6), some (.long a7), none] [.int x0] τ = Ru M_H_planks d Q 135 [some (.ref a0), some (.int a1), some (.int a2), some (.long a3), none, some (.int a5), some (.int a6), some (.long a7), none] [.int a2, .int x0] τ) ∧
    (∀ (a0 : Nat) (a1 : Int32) (a2 : Int32) (a3 : Int64) (a5 : Int32) (a6 : Int32) (a7 : Int64) (x0 : Int32) (x1 : Int32) (τ : St), Ru M_H_planks d Q 135 [some (.ref a0), some (.int a1), some (.int a2), some (.long a3), none, some (.int a5), some (.int a6), some (.long a7), none] [.int x0, .int x1] τ = ((¬ x1 = x0 → Ru M_H_planks d Q 167 [some (.ref a0), some (.int a1), some (.int a2), some (.long a3), none, some (.int a5), some (.int a6), some (.long a7), none] [] τ) ∧ (x1 = x0 → Ru M_H_planks d Q 138 [some (.ref a0), some (.int a1), some (.int a2), some (.long a3), none, some (.int a5), some (.int a6), some (.long a7), none] [] τ))) ∧
    (∀ (a0 : Nat) (a1 : Int32) (a2 : Int32) (a3 : Int64) (a5 : Int32) (a6 : Int32) (a7 : Int64) (τ : St), Ru M_H_planks d Q 138 [some (.ref a0), some (.int a1), some (.int a2), some (.long a3), none, some (.int a5), some (.int a6), some (.long a7), none] [] τ = Ru M_H_planks d Q 140 [some (.ref a0), some (.int a1), some (.int a2), some (.long a3), none, some (.int a5), some (.int a6), some (.long a7), none] [.long a7] τ) ∧
    (∀ (a0 : Nat) (a1 : Int32) (a2 : Int32) (a3 : Int64) (a5 : Int32) (a6 : Int32) (a7 : Int64) (x0 : Int64) (τ : St), Ru M_H_planks d Q 140 [some (.ref a0), some (.int a1), some (.int a2), some (.long a3), none, some (.int a5), some (.int a6), some (.long a7), none] [.long x0] τ = Ru M_H_planks d Q 141 [some (.ref a0), some (.int a1), some (.int a2), some (.long a3), none, some (.int a5), some (.int a6), some (.long a7), none] [.long a3, .long x0] τ) ∧
    (∀ (a0 : Nat) (a1 : Int32) (a2 : Int32) (a3 : Int64) (a5 : Int32) (a6 : Int32) (a7 : Int64) (x0 : Int64) (x1 : Int64) (τ : St), Ru M_H_planks d Q 141 [some (.ref a0), some (.int a1), some (.int a2), some (.long a3), none, some (.int a5), some (.int a6), some (.long a7), none] [.long x0, .long x1] τ = Ru M_H_planks d Q 144 [some (.ref a0), some (.int a1), some (.int a2), some (.long a3), none, some (.int a5), some (.int a6), some (.long a7), none] [.long (-1), .long x0, .long x1] τ) ∧
    (∀ (a0 : Nat) (a1 : Int32) (a2 : Int32) (a3 : Int64) (a5 : Int32) (a6 : Int32) (a7 : Int64) (x0 : Int64) (x1 : Int64) (x2 : Int64) (τ : St), Ru M_H_planks d Q 144 [some (.ref a0), some (.int a1), some (.int a2), some (.long a3), none, some (.int a5), some (.int a6), some (.long a7), none] [.long x0, .long x1, .long x2] τ = Ru M_H_planks d Q 145 [some (.ref a0), some (.int a1), some (.int a2), some (.long a3), none, some (.int a5), some (.int a6), some (.long a7), none] [.long (x1 ^^^ x0), .long x2] τ) ∧
    (∀ (a0 : Nat) (a1 : Int32) (a2 : Int32) (a3 : Int64) (a5 : Int32) (a6 : Int32) (a7 : Int64) (x0 : Int64) (x1 : Int64) (τ : St), Ru M_H_planks d Q 145 [some (.ref a0), some (.int a1), some (.int a2), some (.long a3), none, some (.int a5), some (.int a6), some (.long a7), none] [.long x0, .long x1] τ = Ru M_H_planks d Q 146 [some (.ref a0), some (.int a1), some (.int a2), some (.long a3), none, some (.int a5), some (.int a6), some (.long a7), none] [.long (x1 &&& x0)] τ) ∧
    (∀ (a0 : Nat) (a1 : Int32) (a2 : Int32) (a3 : Int64) (a5 : Int32) (a6 : Int32) (a7 : Int64) (x0 : Int64) (τ : St), Ru M_H_planks d Q 146 [some (.ref a0), some (.int a1), some (.int a2), some (.long a3), none, some (.int a5), some (.int a6), some (.long a7), none] [.long x0] τ = Ru M_H_planks d Q 147 [some (.ref a0), some (.int a1), some (.int a2), some (.long a3), none, some (.int a5), some (.int a6), some (.long a7), none] [.long 0, .long x0] τ) ∧
    (∀ (a0 : Nat) (a1 : Int32) (a2 : Int32) (a3 : Int64) (a5 : Int32) (a6 : Int32) (a7 : Int64) (x0 : Int64) (x1 : Int64) (τ : St), Ru M_H_planks d Q 147 [some (.ref a0), some (.int a1), some (.int a2), some (.long a3), none, some (.int a5), some (.int a6), some (.long a7), none] [.long x0, .long x1] τ = Ru M_H_planks d Q 148 [some (.ref a0), some (.int a1), some (.int a2), some (.long a3), none, some (.int a5), some (.int a6), some (.long a7), none] [.int (lg_cmp x1 x0)] τ) ∧
    (∀ (a0 : Nat) (a1 : Int32) (a2 : Int32) (a3 : Int64) (a5 : Int32) (a6 : Int32) (a7 : Int64) (x0 : Int32) (τ : St), Ru M_H_planks d Q 148 [some (.ref a0), some (.int a1), some (.int a2), some (.long a3), none, some (.int a5), some (.int a6), some (.long a7), none] [.int x0] τ = ((¬ x0 = 0 → Ru M_H_planks d Q 167 [some (.ref a0), some (.int a1), some (.int a2), some (.long a3), none, some (.int a5), some (.int a6), some (.long a7), none] [] τ) ∧ (x0 = 0 → Ru M_H_planks d Q 151 [some (.ref a0), some (.int a1), some (.int a2), some (.long a3), none, some (.int a5), some (.int a6), some (.long a7), none] [] τ))) ∧
    (∀ (a0 : Nat) (a1 : Int32) (a2 : Int32) (a3 : Int64) (a5 : Int32) (a6 : Int32) (a7 : Int64) (τ : St), Ru M_H_planks d Q 151 [some (.ref a0), some (.int a1), some (.int a2), some (.long a3), none, some (.int a5), some (.int a6), some (.long a7), none] [] τ = Ru M_H_planks d Q 152 [some (.ref a0), some (.int a1), some (.int a2), some (.long a3), none, some (.int a5), some (.int a6), some (.long a7), none] [.ref a0] τ) ∧
    (∀ (a0 : Nat) (a1 : Int32) (a2 : Int32) (a3 : Int64) (a5 : Int32) (a6 : Int32) (a7 : Int64) (x0 : Nat) (τ : St), Ru M_H_planks d Q 152 [some (.ref a0), some (.int a1), some (.int a2), some (.long a3), none, some (.int a5), some (.int a6), some (.long a7), none] [.ref x0] τ = (isA 11 x0 ∧ Ru M_H_planks d Q 155 [some (.ref a0), some (.int a1), some (.int a2), some (.long a3), none, some (.int a5), some (.int a6), some (.long a7), none] [.ref (rtab x0 12)] τ)) ∧
    (∀ (a0 : Nat) (a1 : Int32) (a2 : Int32) (a3 : Int64) (a5 : Int32) (a6 : Int32) (a7 : Int64) (x0 : Nat) (τ : St), Ru M_H_planks d Q 155 [some (.ref a0), some (.int a1), some (.int a2), some (.long a3), none, some (.int a5), some (.int a6), some (.long a7), none] [.ref x0] τ = Ru M_H_planks d Q 156 [some (.ref a0), some (.int a1), some (.int a2), some (.long a3), none, some (.int a5), some (.int a6), some (.long a7), none] [.ref a0, .ref x0] τ) ∧
    (∀ (a0 : Nat) (a1 : Int32) (a2 : Int32) (a3 : Int64) (a5 : Int32) (a6 : Int32) (a7 : Int64) (x0 : Nat) (x1 : Nat) (τ : St), Ru M_H_planks d Q 156 [some (.ref a0), some (.int a1), some (.int a2), some (.long a3), none, some (.int a5), some (.int a6), some (.long a7), none] [.ref x0, .ref x1] τ = (isA 11 x0 ∧ Ru M_H_planks d Q 159 [some (.ref a0), some (.int a1), some (.int a2), some (.long a3), none, some (.int a5), some (.int a6), some (.long a7), none] [.ref (rtab x0 3), .ref x1] τ)) ∧
    (∀ (a0 : Nat) (a1 : Int32) (a2 : Int32) (a3 : Int64) (a5 : Int32) (a6 : Int32) (a7 : Int64) (x0 : Nat) (x1 : Nat) (τ : St), Ru M_H_planks d Q 159 [some (.ref a0), some (.int a1), some (.int a2), some (.long a3), none, some (.int a5), some (.int a6), some (.long a7), none] [.ref x0, .ref x1] τ = (isA 1 x0 ∧ Ru M_H_planks d Q 162 [some (.ref a0), some (.int a1), some (.int a2), some (.long a3), none, some (.int a5), some (.int a6), some (.long a7), none] [.long (τ.2 x0 3), .ref x1] τ)) ∧
    (∀ (a0 : Nat) (a1 : Int32) (a2 : Int32) (a3 : Int64) (a5 : Int32) (a6 : Int32) (a7 : Int64) (x0 : Int64) (x1 : Nat) (τ : St), Ru M_H_planks d Q 162 [some (.ref a0), some (.int a1), some (.int a2), some (.long a3), none, some (.int a5), some (.int a6), some (.long a7), none] [.long x0, .ref x1] τ = Ru M_H_planks d Q 164 [some (.ref a0), some (.int a1), some (.int a2), some (.long a3), none, some (.int a5), some (.int a6), some (.long a7), none] [.long a7, .long x0, .ref x1] τ) ∧
    (∀ (a0 : Nat) (a1 : Int32) (a2 : Int32) (a3 : Int64) (a5 : Int32) (a6 : Int32) (a7 : Int64) (x0 : Int64) (x1 : Int64) (x2 : Nat) (τ : St), Ru M_H_planks d Q 164 [some (.ref a0), some (.int a1), some (.int a2), some (.long a3), none, some (.int a5), some (.int a6), some (.long a7), none] [.long x0, .long x1, .ref x2] τ = (isA 10 x2 ∧ Cl d m_Ways_tryPlanks [.ref x2, .long x1, .long x0] τ (fun v τ' => Ru M_H_planks d Q 167 [some (.ref a0), some (.int a1), some (.int a2), some (.long a3), none, some (.int a5), some (.int a6), some (.long a7), none] (v.toList ++ []) τ'))) ∧
    (∀ (a0 : Nat) (a1 : Int32) (a2 : Int32) (a3 : Int64) (a5 : Int32) (a6 : Int32) (a7 : Int64) (τ : St), Ru M_H_planks d Q 167 [some (.ref a0), some (.int a1), some (.int a2), some (.long a3), none, some (.int a5), some (.int a6), some (.long a7), none] [] τ = Ru M_H_planks d Q 170 [some (.ref a0), some (.int a1), some (.int a2), some (.long a3), none, some (.int a5), some (.int (a6 + 1)), some (.long a7), none] [] τ) ∧
    (∀ (a0 : Nat) (a1 : Int32) (a2 : Int32) (a3 : Int64) (a5 : Int32) (a6 : Int32) (a7 : Int64) (τ : St), Ru M_H_planks d Q 170 [some (.ref a0), some (.int a1), some (.int a2), some (.long a3), none, some (.int a5), some (.int a6), some (.long a7), none] [] τ = Rs M_H_planks d Q 111 [some (.ref a0), some (.int a1), some (.int a2), some (.long a3), none, some (.int a5), some (.int a6), some (.long a7), none] [] τ) ∧
    (∀ (a0 : Nat) (a1 : Int32) (a2 : Int32) (a3 : Int64) (a5 : Int32) (a6 : Int32) (a7 : Option Value) (τ : St), Ru M_H_planks d Q 173 [some (.ref a0), some (.int a1), some (.int a2), some (.long a3), none, some (.int a5), some (.int a6), a7, none] [] τ = Ru M_H_planks d Q 176 [some (.ref a0), some (.int a1), some (.int a2), some (.long a3), none, some (.int (a5 + 1)), some (.int a6), a7, none] [] τ) ∧
    (∀ (a0 : Nat) (a1 : Int32) (a2 : Int32) (a3 : Int64) (a5 : Int32) (a6 : Int32) (a7 : Option Value) (τ : St), Ru M_H_planks d Q 176 [some (.ref a0), some (.int a1), some (.int a2), some (.long a3), none, some (.int a5), some (.int a6), a7, none] [] τ = Rs M_H_planks d Q 96 [some (.ref a0), some (.int a1), some (.int a2), some (.long a3), none, some (.int a5), some (.int a6), a7, none] [] τ) ∧
    (∀ (a0 : Nat) (a1 : Int32) (a2 : Int32) (a3 : Int64) (a5 : Int32) (a6 : Option Value) (a7 : Option Value) (τ : St), Ru M_H_planks d Q 179 [some (.ref a0), some (.int a1), some (.int a2), some (.long a3), none, some (.int a5), a6, a7, none] [] τ = Ru M_H_planks d Q 180 [some (.ref a0), some (.int a1), some (.int a2), some (.long a3), none, some (.int a5), a6, a7, none] [.ref a0] τ) ∧
    (∀ (a0 : Nat) (a1 : Int32) (a2 : Int32) (a3 : Int64) (a5 : Int32) (a6 : Option Value) (a7 : Option Value) (x0 : Nat) (τ : St), Ru M_H_planks d Q 180 [some (.ref a0), some (.int a1), some (.int a2), some (.long a3), none, some (.int a5), a6, a7, none] [.ref x0] τ = (isA 11 x0 ∧ Ru M_H_planks d Q 183 [some (.ref a0), some (.int a1), some (.int a2), some (.long a3), none, some (.int a5), a6, a7, none] [.ref (rtab x0 1)] τ)) ∧
    (∀ (a0 : Nat) (a1 : Int32) (a2 : Int32) (a3 : Int64) (a5 : Int32) (a6 : Option Value) (a7 : Option Value) (x0 : Nat) (τ : St), Ru M_H_planks d Q 183 [some (.ref a0), some (.int a1), some (.int a2), some (.long a3), none, some (.int a5), a6, a7, none] [.ref x0] τ = Ru M_H_planks d Q 184 [some (.ref a0), some (.int a1), some (.int a2), some (.long a3), none, some (.int a5), a6, a7, none] [.ref a0, .ref x0] τ) ∧
    (∀ (a0 : Nat) (a1 : Int32) (a2 : Int32) (a3 : Int64) (a5 : Int32) (a6 : Option Value) (a7 : Option Value) (x0 : Nat) (x1 : Nat) (τ : St), Ru M_H_planks d Q 184 [some (.ref a0), some (.int a1), some (.int a2), some (.long a3), none, some (.int a5), a6, a7, none] [.ref x0, .ref x1] τ = (isA 11 x0 ∧ Ru M_H_planks d Q 187 [some (.ref a0), some (.int a1), some (.int a2), some (.long a3), none, some (.int a5), a6, a7, none] [.ref (rtab x0 12), .ref x1] τ)) ∧
    (∀ (a0 : Nat) (a1 : Int32) (a2 : Int32) (a3 : Int64) (a5 : Int32) (a6 : Option Value) (a7 : Option Value) (x0 : Nat) (x1 : Nat) (τ : St), Ru M_H_planks d Q 187 [some (.ref a0), some (.int a1), some (.int a2), some (.long a3), none, some (.int a5), a6, a7, none] [.ref x0, .ref x1] τ = (isA 10 x0 ∧ Ru M_H_planks d Q 190 [some (.ref a0), some (.int a1), some (.int a2), some (.long a3), none, some (.int a5), a6, a7, none] [.long (τ.2 x0 7), .ref x1] τ)) ∧
    (∀ (a0 : Nat) (a1 : Int32) (a2 : Int32) (a3 : Int64) (a5 : Int32) (a6 : Option Value) (a7 : Option Value) (x0 : Int64) (x1 : Nat) (τ : St), Ru M_H_planks d Q 190 [some (.ref a0), some (.int a1), some (.int a2), some (.long a3), none, some (.int a5), a6, a7, none] [.long x0, .ref x1] τ = (isA 4 x1 ∧ Cl d m_Row_only [.ref x1, .long x0] τ (fun v τ' => Ru M_H_planks d Q 193 [some (.ref a0), some (.int a1), some (.int a2), some (.long a3), none, some (.int a5), a6, a7, none] (v.toList ++ []) τ'))) ∧
    (∀ (a0 : Nat) (a1 : Int32) (a2 : Int32) (a3 : Int64) (a5 : Int32) (a6 : Option Value) (a7 : Option Value) (τ : St), Ru M_H_planks d Q 193 [some (.ref a0), some (.int a1), some (.int a2), some (.long a3), none, some (.int a5), a6, a7, none] [] τ = Ru M_H_planks d Q 194 [some (.ref a0), some (.int a1), some (.int a2), some (.long a3), none, some (.int a5), a6, a7, none] [.ref a0] τ) ∧
    (∀ (a0 : Nat) (a1 : Int32) (a2 : Int32) (a3 : Int64) (a5 : Int32) (a6 : Option Value) (a7 : Option Value) (x0 : Nat) (τ : St), Ru M_H_planks d Q 194 [some (.ref a0), some (.int a1), some (.int a2), some (.long a3), none, some (.int a5), a6, a7, none] [.ref x0] τ = (isA 11 x0 ∧ Ru M_H_planks d Q 197 [some (.ref a0), some (.int a1), some (.int a2), some (.long a3), none, some (.int a5), a6, a7, none] [.ref (rtab x0 12)] τ)) ∧
    (∀ (a0 : Nat) (a1 : Int32) (a2 : Int32) (a3 : Int64) (a5 : Int32) (a6 : Option Value) (a7 : Option Value) (x0 : Nat) (τ : St), Ru M_H_planks d Q 197 [some (.ref a0), some (.int a1), some (.int a2), some (.long a3), none, some (.int a5), a6, a7, none] [.ref x0] τ = (isA 10 x0 ∧ Ru M_H_planks d Q 200 [some (.ref a0), some (.int a1), some (.int a2), some (.long a3), none, some (.int a5), a6, a7, none] [.int (τ.1 x0 6)] τ)) ∧
    (∀ (a0 : Nat) (a1 : Int32) (a2 : Int32) (a3 : Int64) (a5 : Int32) (a6 : Option Value) (a7 : Option Value) (x0 : Int32) (τ : St), Ru M_H_planks d Q 200 [some (.ref a0), some (.int a1), some (.int a2), some (.long a3), none, some (.int a5), a6, a7, none] [.int x0] τ = Q (some (.int x0)) τ) := ⟨
  fun _ _ _ _ => (R_at ok_H_planks rfl).trans (e_ild rfl),
  fun _ _ _ x0 _ => (R_at ok_H_planks rfl).trans (e_cs [.int x0] rfl rfl rfl),
  fun _ _ _ _ _ => (R_at ok_H_planks rfl).trans e_if,
  fun _ _ _ _ => (R_at ok_H_planks rfl).trans (e_ild rfl),
  fun _ _ _ _ _ => (R_at ok_H_planks rfl).trans e_if,
  fun _ _ _ _ => (R_at ok_H_planks rfl).trans (e_ild rfl),
  fun _ _ _ _ _ => (R_at ok_H_planks rfl).trans e_push,
  fun _ _ _ _ _ _ => (R_at ok_H_planks rfl).trans e_ic,
  fun _ _ _ _ => (R_at ok_H_planks rfl).trans e_push,
  fun _ _ _ _ _ => (R_at ok_H_planks rfl).trans e_iret,
  fun _ _ _ _ => (R_at ok_H_planks rfl).trans (e_ald rfl),
  fun _ _ _ _ _ => (R_at ok_H_planks rfl).trans e_gR,
  fun _ _ _ _ _ => (R_at ok_H_planks rfl).trans e_gL,
  fun _ _ _ _ _ => (R_at ok_H_planks rfl).trans (e_ald rfl),
  fun _ _ _ _ _ _ => (R_at ok_H_planks rfl).trans e_gR,
  fun _ _ _ _ _ _ => (R_at ok_H_planks rfl).trans e_gL,
  fun _ _ _ _ _ _ => (R_at ok_H_planks rfl).trans e_push,
  fun _ _ _ _ _ _ _ => (R_at ok_H_planks rfl).trans e_lbin,
  fun _ _ _ _ _ _ => (R_at ok_H_planks rfl).trans e_lbin,
  fun _ _ _ _ _ => (R_at ok_H_planks rfl).trans e_lst,
  fun _ _ _ _ _ => (R_at ok_H_planks rfl).trans (e_ald rfl),
  fun _ _ _ _ _ _ => (R_at ok_H_planks rfl).trans (e_ild rfl),
  fun _ _ _ _ x0 _ _ => (R_at ok_H_planks rfl).trans (e_cv [.int x0] rfl rfl rfl),
  fun _ _ _ _ _ => (R_at ok_H_planks rfl).trans (e_lld rfl),
  fun _ _ _ _ x0 _ => (R_at ok_H_planks rfl).trans (e_cs [.long x0] rfl rfl rfl),
  fun _ _ _ _ _ _ => (R_at ok_H_planks rfl).trans (e_ild rfl),
  fun _ _ _ _ _ _ _ => (R_at ok_H_planks rfl).trans e_ic,
  fun _ _ _ _ _ => (R_at ok_H_planks rfl).trans (e_ald rfl),
  fun _ _ _ _ _ _ => (R_at ok_H_planks rfl).trans e_gR,
  fun _ _ _ _ _ _ => (R_at ok_H_planks rfl).trans e_push,
  fun _ _ _ _ x0 _ _ => (R_at ok_H_planks rfl).trans (e_cv [.int x0] rfl rfl rfl),
  fun _ _ _ _ _ _ => (R_at ok_H_planks rfl).trans e_ifn,
  fun _ _ _ _ _ => (R_at ok_H_planks rfl).trans e_push,
  fun _ _ _ _ _ _ => (R_at ok_H_planks rfl).trans e_iret,
  fun _ _ _ _ _ => (R_at ok_H_planks rfl).trans (e_ald rfl),
  fun _ _ _ _ _ _ => (R_at ok_H_planks rfl).trans e_gR,
  fun _ _ _ _ _ _ => (R_at ok_H_planks rfl).trans (e_cv [] rfl rfl rfl),
  fun _ _ _ _ _ => (R_at ok_H_planks rfl).trans (e_ild rfl),
  fun _ _ _ _ _ _ => (R_at ok_H_planks rfl).trans e_ifn,
  fun _ _ _ _ _ => (R_at ok_H_planks rfl).trans (e_ald rfl),
  fun _ _ _ _ _ _ => (R_at ok_H_planks rfl).trans e_gR,
  fun _ _ _ _ _ _ => (R_at ok_H_planks rfl).trans (e_ald rfl),
  fun _ _ _ _ _ _ _ => (R_at ok_H_planks rfl).trans e_gR,
  fun _ _ _ _ _ _ _ => (R_at ok_H_planks rfl).trans e_gL,
  fun _ _ _ _ _ _ _ => (R_at ok_H_planks rfl).trans e_push,
  fun _ _ _ _ x0 x1 _ _ => (R_at ok_H_planks rfl).trans (e_cv [.long x1, .long x0] rfl rfl rfl),
  fun _ _ _ _ _ => (R_at ok_H_planks rfl).trans e_push,
  fun _ _ _ _ _ _ => (R_at ok_H_planks rfl).trans e_ist,
  fun _ _ _ _ _ _ _ _ => (R_at ok_H_planks rfl).trans (e_ild rfl),
  fun _ _ _ _ _ _ _ _ _ => (R_at ok_H_planks rfl).trans (e_ald rfl),
  fun _ _ _ _ _ _ _ _ _ _ => (R_at ok_H_planks rfl).trans e_gR,
  fun _ _ _ _ _ _ _ _ _ _ => (R_at ok_H_planks rfl).trans e_gI,
  fun _ _ _ _ _ _ _ _ _ _ => (R_at ok_H_planks rfl).trans e_ic,
  fun _ _ _ _ _ _ _ _ => (R_at ok_H_planks rfl).trans e_push,
  fun _ _ _ _ _ _ _ _ _ => (R_at ok_H_planks rfl).trans e_ist,
  fun _ _ _ _ _ _ _ _ => (R_at ok_H_planks rfl).trans (e_ild rfl),
  fun _ _ _ _ _ _ _ _ _ => (R_at ok_H_planks rfl).trans (e_ild rfl),
  fun _ _ _ _ _ _ _ _ _ _ => (R_at ok_H_planks rfl).trans e_ic,
  fun _ _ _ _ _ _ _ _ => (R_at ok_H_planks rfl).trans e_push,
  fun _ _ _ _ _ _ _ _ _ => (R_at ok_H_planks rfl).trans (e_ild rfl),
  fun _ _ _ _ _ _ _ _ _ _ => (R_at ok_H_planks rfl).trans e_lsh,
  fun _ _ _ _ _ _ _ _ _ => (R_at ok_H_planks rfl).trans e_push,
  fun _ _ _ _ _ _ _ _ _ _ => (R_at ok_H_planks rfl).trans (e_ild rfl),
  fun _ _ _ _ _ _ _ _ _ _ _ => (R_at ok_H_planks rfl).trans e_lsh,
  fun _ _ _ _ _ _ _ _ _ _ => (R_at ok_H_planks rfl).trans e_lbin,
  fun _ _ _ _ _ _ _ _ _ => (R_at ok_H_planks rfl).trans e_lst,
  fun _ _ _ _ _ _ _ _ => (R_at ok_H_planks rfl).trans (e_lld rfl),
  fun _ _ _ _ _ _ _ x0 _ => (R_at ok_H_planks rfl).trans (e_cs [.long x0] rfl rfl rfl),
  fun _ _ _ _ _ _ _ _ _ => (R_at ok_H_planks rfl).trans (e_ild rfl),
  fun _ _ _ _ _ _ _ _ _ _ => (R_at ok_H_planks rfl).trans e_icn,
  fun _ _ _ _ _ _ _ _ => (R_at ok_H_planks rfl).trans (e_lld rfl),
  fun _ _ _ _ _ _ _ _ _ => (R_at ok_H_planks rfl).trans (e_lld rfl),
  fun _ _ _ _ _ _ _ _ _ _ => (R_at ok_H_planks rfl).trans e_push,
  fun _ _ _ _ _ _ _ _ _ _ _ => (R_at ok_H_planks rfl).trans e_lbin,
  fun _ _ _ _ _ _ _ _ _ _ => (R_at ok_H_planks rfl).trans e_lbin,
  fun _ _ _ _ _ _ _ _ _ => (R_at ok_H_planks rfl).trans e_push,
  fun _ _ _ _ _ _ _ _ _ _ => (R_at ok_H_planks rfl).trans e_lcmp,
  fun _ _ _ _ _ _ _ _ _ => (R_at ok_H_planks rfl).trans e_ifn,
  fun _ _ _ _ _ _ _ _ => (R_at ok_H_planks rfl).trans (e_ald rfl),
  fun _ _ _ _ _ _ _ _ _ => (R_at ok_H_planks rfl).trans e_gR,
  fun _ _ _ _ _ _ _ _ _ => (R_at ok_H_planks rfl).trans (e_ald rfl),
  fun _ _ _ _ _ _ _ _ _ _ => (R_at ok_H_planks rfl).trans e_gR,
  fun _ _ _ _ _ _ _ _ _ _ => (R_at ok_H_planks rfl).trans e_gL,
  fun _ _ _ _ _ _ _ _ _ _ => (R_at ok_H_planks rfl).trans (e_lld rfl),
  fun _ _ _ _ _ _ _ x0 x1 _ _ => (R_at ok_H_planks rfl).trans (e_cv [.long x1, .long x0] rfl rfl rfl),
  fun _ _ _ _ _ _ _ _ => (R_at ok_H_planks rfl).trans (e_iinc rfl),
  fun _ _ _ _ _ _ _ _ => (R_at ok_H_planks rfl).trans e_goto,
  fun _ _ _ _ _ _ _ _ => (R_at ok_H_planks rfl).trans (e_iinc rfl),
  fun _ _ _ _ _ _ _ _ => (R_at ok_H_planks rfl).trans e_goto,
  fun _ _ _ _ _ _ _ _ => (R_at ok_H_planks rfl).trans (e_ald rfl),
  fun _ _ _ _ _ _ _ _ _ => (R_at ok_H_planks rfl).trans e_gR,
  fun _ _ _ _ _ _ _ _ _ => (R_at ok_H_planks rfl).trans (e_ald rfl),
  fun _ _ _ _ _ _ _ _ _ _ => (R_at ok_H_planks rfl).trans e_gR,
  fun _ _ _ _ _ _ _ _ _ _ => (R_at ok_H_planks rfl).trans e_gL,
  fun _ _ _ _ _ _ _ x0 _ _ => (R_at ok_H_planks rfl).trans (e_cv [.long x0] rfl rfl rfl),
  fun _ _ _ _ _ _ _ _ => (R_at ok_H_planks rfl).trans (e_ald rfl),
  fun _ _ _ _ _ _ _ _ _ => (R_at ok_H_planks rfl).trans e_gR,
  fun _ _ _ _ _ _ _ _ _ => (R_at ok_H_planks rfl).trans e_gI,
  fun _ _ _ _ _ _ _ _ _ => (R_at ok_H_planks rfl).trans e_iret⟩
set_option maxHeartbeats 4000000 in
theorem N_H_over (d : Nat) (Q : Qt) : ∀ (x0 : Nat) (x1 : Int32) (τ : St), Cl (d + 1) m_H_over [.ref x0, .int x1] τ Q = Ru M_H_over d Q 0 [some (.ref x0), some (.int x1), none] [] τ := fun _ _ _ => propext ⟨fun h => h.2, fun h => ⟨Nat.le_of_ble_eq_true rfl, h⟩⟩
set_option maxHeartbeats 4000000 in
theorem E_H_over (d : Nat) (Q : Qt) :
    (∀ (a0 : Nat) (a1 : Int32) (τ : St), Ru M_H_over d Q 0 [some (.ref a0), some (.int a1), none] [] τ = Ru M_H_over d Q 1 [some (.ref a0), some (.int a1), none] [.ref a0] τ) ∧
    (∀ (a0 : Nat) (a1 : Int32) (x0 : Nat) (τ : St), Ru M_H_over d Q 1 [some (.ref a0), some (.int a1), none] [.ref x0] τ = Ru M_H_over d Q 2 [some (.ref a0), some (.int a1), none] [.int a1, .ref x0] τ) ∧
    (∀ (a0 : Nat) (a1 : Int32) (x0 : Int32) (x1 : Nat) (τ : St), Ru M_H_over d Q 2 [some (.ref a0), some (.int a1), none] [.int x0, .ref x1] τ = (isA 11 x1 ∧ Cl d m_H_hasShip [.ref x1, .int x0] τ (fun v τ' => Ru M_H_over d Q 5 [some (.ref a0), some (.int a1), none] (v.toList ++ []) τ'))) ∧
    (∀ (a0 : Nat) (a1 : Int32) (x0 : Int32) (τ : St), Ru M_H_over d Q 5 [some (.ref a0), some (.int a1), none] [.int x0] τ = ((¬ x0 = 0 → Ru M_H_over d Q 10 [some (.ref a0), some (.int a1), none] [] τ) ∧ (x0 = 0 → Ru M_H_over d Q 8 [some (.ref a0), some (.int a1), none] [] τ))) ∧
    (∀ (a0 : Nat) (a1 : Int32) (τ : St), Ru M_H_over d Q 8 [some (.ref a0), some (.int a1), none] [] τ = Ru M_H_over d Q 9 [some (.ref a0), some (.int a1), none] [.int (-1)] τ) ∧
    (∀ (a0 : Nat) (a1 : Int32) (x0 : Int32) (τ : St), Ru M_H_over d Q 9 [some (.ref a0), some (.int a1), none] [.int x0] τ = Q (some (.int x0)) τ) ∧
    (∀ (a0 : Nat) (a1 : Int32) (τ : St), Ru M_H_over d Q 10 [some (.ref a0), some (.int a1), none] [] τ = Ru M_H_over d Q 11 [some (.ref a0), some (.int a1), none] [.ref a0] τ) ∧
    (∀ (a0 : Nat) (a1 : Int32) (x0 : Nat) (τ : St), Ru M_H_over d Q 11 [some (.ref a0), some (.int a1), none] [.ref x0] τ = Ru M_H_over d Q 12 [some (.ref a0), some (.int a1), none] [.ref a0, .ref x0] τ) ∧
    (∀ (a0 : Nat) (a1 : Int32) (x0 : Nat) (x1 : Nat) (τ : St), Ru M_H_over d Q 12 [some (.ref a0), some (.int a1), none] [.ref x0, .ref x1] τ = (isA 11 x0 ∧ Ru M_H_over d Q 15 [some (.ref a0), some (.int a1), none] [.ref (rtab x0 10), .ref x1] τ)) ∧
    (∀ (a0 : Nat) (a1 : Int32) (x0 : Nat) (x1 : Nat) (τ : St), Ru M_H_over d Q 15 [some (.ref a0), some (.int a1), none] [.ref x0, .ref x1] τ = Ru M_H_over d Q 16 [some (.ref a0), some (.int a1), none] [.int a1, .ref x0, .ref x1] τ) ∧
    (∀ (a0 : Nat) (a1 : Int32) (x0 : Int32) (x1 : Nat) (x2 : Nat) (τ : St), Ru M_H_over d Q 16 [some (.ref a0), some (.int a1), none] [.int x0, .ref x1, .ref x2] τ = (isA 11 x2 ∧ Cl d m_H_hoursOver [.ref x2, .ref x1, .int x0] τ (fun v τ' => Ru M_H_over d Q 19 [some (.ref a0), some (.int a1), none] (v.toList ++ []) τ'))) ∧
    (∀ (a0 : Nat) (a1 : Int32) (x0 : Int32) (τ : St), Ru M_H_over d Q 19 [some (.ref a0), some (.int a1), none] [.int x0] τ = Ru M_H_over d Q 20 [some (.ref a0), some (.int a1), some (.int x0)] [] τ) ∧
    (∀ (a0 : Nat) (a1 : Int32) (a2 : Int32) (τ : St), Ru M_H_over d Q 20 [some (.ref a0), some (.int a1), some (.int a2)] [] τ = Ru M_H_over d Q 21 [some (.ref a0), some (.int a1), some (.int a2)] [.int a2] τ) ∧
    (∀ (a0 : Nat) (a1 : Int32) (a2 : Int32) (x0 : Int32) (τ : St), Ru M_H_over d Q 21 [some (.ref a0), some (.int a1), some (.int a2)] [.int x0] τ = Ru M_H_over d Q 23 [some (.ref a0), some (.int a1), some (.int a2)] [.int 61, .int x0] τ) ∧
    (∀ (a0 : Nat) (a1 : Int32) (a2 : Int32) (x0 : Int32) (x1 : Int32) (τ : St), Ru M_H_over d Q 23 [some (.ref a0), some (.int a1), some (.int a2)] [.int x0, .int x1] τ = ((¬ x1 = x0 → Ru M_H_over d Q 31 [some (.ref a0), some (.int a1), some (.int a2)] [] τ) ∧ (x1 = x0 → Ru M_H_over d Q 26 [some (.ref a0), some (.int a1), some (.int a2)] [] τ))) ∧
    (∀ (a0 : Nat) (a1 : Int32) (a2 : Int32) (τ : St), Ru M_H_over d Q 26 [some (.ref a0), some (.int a1), some (.int a2)] [] τ = Ru M_H_over d Q 28 [some (.ref a0), some (.int a1), some (.int a2)] [.int (-2)] τ) ∧
    (∀ (a0 : Nat) (a1 : Int32) (a2 : Int32) (x0 : Int32) (τ : St), Ru M_H_over d Q 28 [some (.ref a0), some (.int a1), some (.int a2)] [.int x0] τ = Ru M_H_over d Q 32 [some (.ref a0), some (.int a1), some (.int a2)] [.int x0] τ) ∧
    (∀ (a0 : Nat) (a1 : Int32) (a2 : Int32) (τ : St), Ru M_H_over d Q 31 [some (.ref a0), some (.int a1), some (.int a2)] [] τ = Ru M_H_over d Q 32 [some (.ref a0), some (.int a1), some (.int a2)] [.int a2] τ) ∧
    (∀ (a0 : Nat) (a1 : Int32) (a2 : Int32) (x0 : Int32) (τ : St), Ru M_H_over d Q 32 [some (.ref a0), some (.int a1), some (.int a2)] [.int x0] τ = Q (some (.int x0)) τ) := ⟨
  fun _ _ _ => (R_at ok_H_over rfl).trans (e_ald rfl),
  fun _ _ _ _ => (R_at ok_H_over rfl).trans (e_ild rfl),
  fun _ _ x0 _ _ => (R_at ok_H_over rfl).trans (e_cv [.int x0] rfl rfl rfl),
  fun _ _ _ _ => (R_at ok_H_over rfl).trans e_ifn,
  fun _ _ _ => (R_at ok_H_over rfl).trans e_push,
  fun _ _ _ _ => (R_at ok_H_over rfl).trans e_iret,
  fun _ _ _ => (R_at ok_H_over rfl).trans (e_ald rfl),
  fun _ _ _ _ => (R_at ok_H_over rfl).trans (e_ald rfl),
  fun _ _ _ _ _ => (R_at ok_H_over rfl).trans e_gR,
  fun _ _ _ _ _ => (R_at ok_H_over rfl).trans (e_ild rfl),
  fun _ _ x0 x1 _ _ => (R_at ok_H_over rfl).trans (e_cv [.ref x1, .int x0] rfl rfl rfl),
  fun _ _ _ _ => (R_at ok_H_over rfl).trans e_ist,
  fun _ _ _ _ => (R_at ok_H_over rfl).trans (e_ild rfl),
  fun _ _ _ _ _ => (R_at ok_H_over rfl).trans e_push,
  fun _ _ _ _ _ _ => (R_at ok_H_over rfl).trans e_icn,
  fun _ _ _ _ => (R_at ok_H_over rfl).trans e_push,
  fun _ _ _ _ _ => (R_at ok_H_over rfl).trans e_goto,
  fun _ _ _ _ => (R_at ok_H_over rfl).trans (e_ild rfl),
  fun _ _ _ _ _ => (R_at ok_H_over rfl).trans e_iret⟩
set_option maxHeartbeats 4000000 in
theorem N_H_hoursOver (d : Nat) (Q : Qt) : ∀ (x0 : Nat) (x1 : Nat) (x2 : Int32) (τ : St), Cl (d + 1) m_H_hoursOver [.ref x0, .ref x1, .int x2] τ Q = Ru M_H_hoursOver d Q 0 [some (.ref x0), some (.ref x1), some (.int x2), none, none, none, none] [] τ := fun _ _ _ _ => propext ⟨fun h => h.2, fun h => ⟨Nat.le_of_ble_eq_true rfl, h⟩⟩
set_option maxHeartbeats 4000000 in
theorem E_H_hoursOver (d : Nat) (Q : Qt) :
    (∀ (a0 : Nat) (a1 : Nat) (a2 : Int32) (τ : St), Ru M_H_hoursOver d Q 0 [some (.ref a0), some (.ref a1), some (.int a2), none, none, none, none] [] τ = Ru M_H_hoursOver d Q 1 [some (.ref a0), some (.ref a1), some (.int a2), none, none, none, none] [.ref a0] τ) ∧
    (∀ (a0 : Nat) (a1 : Nat) (a2 : Int32) (x0 : Nat) (τ : St), Ru M_H_hoursOver d Q 1 [some (.ref a0), some (.ref a1), some (.int a2), none, none, none, none] [.ref x0] τ = Ru M_H_hoursOver d Q 2 [some (.ref a0), some (.ref a1), some (.int a2), none, none, none, none] [.int a2, .ref x0] τ) ∧
    (∀ (a0 : Nat) (a1 : Nat) (a2 : Int32) (x0 : Int32) (x1 : Nat) (τ : St), Ru M_H_hoursOver d Q 2 [some (.ref a0), some (.ref a1), some (.int a2), none, none, none, none] [.int x0, .ref x1] τ = (isA 11 x1 ∧ Cl d m_H_hasShip [.ref x1, .int x0] τ (fun v τ' => Ru M_H_hoursOver d Q 5 [some (.ref a0), some (.ref a1), some (.int a2), none, none, none, none] (v.toList ++ []) τ'))) ∧
    (∀ (a0 : Nat) (a1 : Nat) (a2 : Int32) (x0 : Int32) (τ : St), Ru M_H_hoursOver d Q 5 [some (.ref a0), some (.ref a1), some (.int a2), none, none, none, none] [.int x0] τ = ((¬ x0 = 0 → Ru M_H_hoursOver d Q 11 [some (.ref a0), some (.ref a1), some (.int a2), none, none, none, none] [] τ) ∧ (x0 = 0 → Ru M_H_hoursOver d Q 8 [some (.ref a0), some (.ref a1), some (.int a2), none, none, none, none] [] τ))) ∧
    (∀ (a0 : Nat) (a1 : Nat) (a2 : Int32) (τ : St), Ru M_H_hoursOver d Q 8 [some (.ref a0), some (.ref a1), some (.int a2), none, none, none, none] [] τ = Ru M_H_hoursOver d Q 10 [some (.ref a0), some (.ref a1), some (.int a2), none, none, none, none] [.int 61] τ) ∧
    (∀ (a0 : Nat) (a1 : Nat) (a2 : Int32) (x0 : Int32) (τ : St), Ru M_H_hoursOver d Q 10 [some (.ref a0), some (.ref a1), some (.int a2), none, none, none, none] [.int x0] τ = Q (some (.int x0)) τ) ∧
    (∀ (a0 : Nat) (a1 : Nat) (a2 : Int32) (τ : St), Ru M_H_hoursOver d Q 11 [some (.ref a0), some (.ref a1), some (.int a2), none, none, none, none] [] τ = Ru M_H_hoursOver d Q 12 [some (.ref a0), some (.ref a1), some (.int a2), none, none, none, none] [.ref a0] τ) ∧
    (∀ (a0 : Nat) (a1 : Nat) (a2 : Int32) (x0 : Nat) (τ : St), Ru M_H_hoursOver d Q 12 [some (.ref a0), some (.ref a1), some (.int a2), none, none, none, none] [.ref x0] τ = Ru M_H_hoursOver d Q 13 [some (.ref a0), some (.ref a1), some (.int a2), none, none, none, none] [.int a2, .ref x0] τ) ∧
    (∀ (a0 : Nat) (a1 : Nat) (a2 : Int32) (x0 : Int32) (x1 : Nat) (τ : St), Ru M_H_hoursOver d Q 13 [some (.ref a0), some (.ref a1), some (.int a2), none, none, none, none] [.int x0, .ref x1] τ = (isA 11 x1 ∧ Cl d m_H_isOver [.ref x1, .int x0] τ (fun v τ' => Ru M_H_hoursOver d Q 16 [some (.ref a0), some (.ref a1), some (.int a2), none, none, none, none] (v.toList ++ []) τ'))) ∧
    (∀ (a0 : Nat) (a1 : Nat) (a2 : Int32) (x0 : Int32) (τ : St), Ru M_H_hoursOver d Q 16 [some (.ref a0), some (.ref a1), some (.int a2), none, none, none, none] [.int x0] τ = ((x0 = 0 → Ru M_H_hoursOver d Q 21 [some (.ref a0), some (.ref a1), some (.int a2), none, none, none, none] [] τ) ∧ (¬ x0 = 0 → Ru M_H_hoursOver d Q 19 [some (.ref a0), some (.ref a1), some (.int a2), none, none, none, none] [] τ))) ∧
    (∀ (a0 : Nat) (a1 : Nat) (a2 : Int32) (τ : St), Ru M_H_hoursOver d Q 19 [some (.ref a0), some (.ref a1), some (.int a2), none, none, none, none] [] τ = Ru M_H_hoursOver d Q 20 [some (.ref a0), some (.ref a1), some (.int a2), none, none, none, none] [.int 0] τ) ∧
    (∀ (a0 : Nat) (a1 : Nat) (a2 : Int32) (x0 : Int32) (τ : St), Ru M_H_hoursOver d Q 20 [some (.ref a0), some (.ref a1), some (.int a2), none, none, none, none] [.int x0] τ = Q (some (.int x0)) τ) ∧
    (∀ (a0 : Nat) (a1 : Nat) (a2 : Int32) (τ : St), Ru M_H_hoursOver d Q 21 [some (.ref a0), some (.ref a1), some (.int a2), none, none, none, none] [] τ = Ru M_H_hoursOver d Q 22 [some (.ref a0), some (.ref a1), some (.int a2), none, none, none, none] [.ref a0] τ) ∧
    (∀ (a0 : Nat) (a1 : Nat) (a2 : Int32) (x0 : Nat) (τ : St), Ru M_H_hoursOver d Q 22 [some (.ref a0), some (.ref a1), some (.int a2), none, none, none, none] [.ref x0] τ = (isA 11 x0 ∧ Ru M_H_hoursOver d Q 25 [some (.ref a0), some (.ref a1), some (.int a2), none, none, none, none] [.ref (rtab x0 12)] τ)) ∧
    (∀ (a0 : Nat) (a1 : Nat) (a2 : Int32) (x0 : Nat) (τ : St), Ru M_H_hoursOver d Q 25 [some (.ref a0), some (.ref a1), some (.int a2), none, none, none, none] [.ref x0] τ = Ru M_H_hoursOver d Q 26 [some (.ref a0), some (.ref a1), some (.int a2), none, none, none, none] [.ref a1, .ref x0] τ) ∧
    (∀ (a0 : Nat) (a1 : Nat) (a2 : Int32) (x0 : Nat) (x1 : Nat) (τ : St), Ru M_H_hoursOver d Q 26 [some (.ref a0), some (.ref a1), some (.int a2), none, none, none, none] [.ref x0, .ref x1] τ = Ru M_H_hoursOver d Q 27 [some (.ref a0), some (.ref a1), some (.int a2), none, none, none, none] [.ref a0, .ref x0, .ref x1] τ) ∧
    (∀ (a0 : Nat) (a1 : Nat) (a2 : Int32) (x0 : Nat) (x1 : Nat) (x2 : Nat) (τ : St), Ru M_H_hoursOver d Q 27 [some (.ref a0), some (.ref a1), some (.int a2), none, none, none, none] [.ref x0, .ref x1, .ref x2] τ = (isA 11 x0 ∧ Ru M_H_hoursOver d Q 30 [some (.ref a0), some (.ref a1), some (.int a2), none, none, none, none] [.ref (rtab x0 7), .ref x1, .ref x2] τ)) ∧
    (∀ (a0 : Nat) (a1 : Nat) (a2 : Int32) (x0 : Nat) (x1 : Nat) (x2 : Nat) (τ : St), Ru M_H_hoursOver d Q 30 [some (.ref a0), some (.ref a1), some (.int a2), none, none, none, none] [.ref x0, .ref x1, .ref x2] τ = Ru M_H_hoursOver d Q 31 [some (.ref a0), some (.ref a1), some (.int a2), none, none, none, none] [.int a2, .ref x0, .ref x1, .ref x2] τ) ∧
    (∀ (a0 : Nat) (a1 : Nat) (a2 : Int32) (x0 : Int32) (x1 : Nat) (x2 : Nat) (x3 : Nat) (τ : St), Ru M_H_hoursOver d Q 31 [some (.ref a0), some (.ref a1), some (.int a2), none, none, none, none] [.int x0, .ref x1, .ref x2, .ref x3] τ = (isA 14 x1 ∧ vp_in x0 (len x1) ∧ Ru M_H_hoursOver d Q 32 [some (.ref a0), some (.ref a1), some (.int a2), none, none, none, none] [.int (τ.1 x1 x0.toNatClampNeg), .ref x2, .ref x3] τ)) ∧
    (∀ (a0 : Nat) (a1 : Nat) (a2 : Int32) (x0 : Int32) (x1 : Nat) (x2 : Nat) (τ : St), Ru M_H_hoursOver d Q 32 [some (.ref a0), some (.ref a1), some (.int a2), none, none, none, none] [.int x0, .ref x1, .ref x2] τ = Ru M_H_hoursOver d Q 33 [some (.ref a0), some (.ref a1), some (.int a2), none, none, none, none] [.ref a0, .int x0, .ref x1, .ref x2] τ) ∧
    (∀ (a0 : Nat) (a1 : Nat) (a2 : Int32) (x0 : Nat) (x1 : Int32) (x2 : Nat) (x3 : Nat) (τ : St), Ru M_H_hoursOver d Q 33 [some (.ref a0), some (.ref a1), some (.int a2), none, none, none, none] [.ref x0, .int x1, .ref x2, .ref x3] τ = (isA 11 x0 ∧ Ru M_H_hoursOver d Q 36 [some (.ref a0), some (.ref a1), some (.int a2), none, none, none, none] [.ref (rtab x0 3), .int x1, .ref x2, .ref x3] τ)) ∧
    (∀ (a0 : Nat) (a1 : Nat) (a2 : Int32) (x0 : Nat) (x1 : Int32) (x2 : Nat) (x3 : Nat) (τ : St), Ru M_H_hoursOver d Q 36 [some (.ref a0), some (.ref a1), some (.int a2), none, none, none, none] [.ref x0, .int x1, .ref x2, .ref x3] τ = (isA 1 x0 ∧ Ru M_H_hoursOver d Q 39 [some (.ref a0), some (.ref a1), some (.int a2), none, none, none, none] [.long (τ.2 x0 3), .int x1, .ref x2, .ref x3] τ)) ∧
    (∀ (a0 : Nat) (a1 : Nat) (a2 : Int32) (x0 : Int64) (x1 : Int32) (x2 : Nat) (x3 : Nat) (τ : St), Ru M_H_hoursOver d Q 39 [some (.ref a0), some (.ref a1), some (.int a2), none, none, none, none] [.long x0, .int x1, .ref x2, .ref x3] τ = (isA 10 x3 ∧ Cl d m_Ways_start [.ref x3, .ref x2, .int x1, .long x0] τ (fun v τ' => Ru M_H_hoursOver d Q 42 [some (.ref a0), some (.ref a1), some (.int a2), none, none, none, none] (v.toList ++ []) τ'))) ∧
    (∀ (a0 : Nat) (a1 : Nat) (a2 : Int32) (τ : St), Ru M_H_hoursOver d Q 42 [some (.ref a0), some (.ref a1), some (.int a2), none, none, none, none] [] τ = Ru M_H_hoursOver d Q 43 [some (.ref a0), some (.ref a1), some (.int a2), none, none, none, none] [.long 1] τ) ∧
    (∀ (a0 : Nat) (a1 : Nat) (a2 : Int32) (x0 : Int64) (τ : St), Ru M_H_hoursOver d Q 43 [some (.ref a0), some (.ref a1), some (.int a2), none, none, none, none] [.long x0] τ = Ru M_H_hoursOver d Q 44 [some (.ref a0), some (.ref a1), some (.int a2), none, none, none, none] [.ref a0, .long x0] τ) ∧
    (∀ (a0 : Nat) (a1 : Nat) (a2 : Int32) (x0 : Nat) (x1 : Int64) (τ : St), Ru M_H_hoursOver d Q 44 [some (.ref a0), some (.ref a1), some (.int a2), none, none, none, none] [.ref x0, .long x1] τ = (isA 11 x0 ∧ Ru M_H_hoursOver d Q 47 [some (.ref a0), some (.ref a1), some (.int a2), none, none, none, none] [.ref (rtab x0 3), .long x1] τ)) ∧
    (∀ (a0 : Nat) (a1 : Nat) (a2 : Int32) (x0 : Nat) (x1 : Int64) (τ : St), Ru M_H_hoursOver d Q 47 [some (.ref a0), some (.ref a1), some (.int a2), none, none, none, none] [.ref x0, .long x1] τ = Ru M_H_hoursOver d Q 48 [some (.ref a0), some (.ref a1), some (.int a2), none, none, none, none] [.int a2, .ref x0, .long x1] τ) ∧
    (∀ (a0 : Nat) (a1 : Nat) (a2 : Int32) (x0 : Int32) (x1 : Nat) (x2 : Int64) (τ : St), Ru M_H_hoursOver d Q 48 [some (.ref a0), some (.ref a1), some (.int a2), none, none, none, none] [.int x0, .ref x1, .long x2] τ = (isA 1 x1 ∧ Cl d m_Moment_placeOf [.ref x1, .int x0] τ (fun v τ' => Ru M_H_hoursOver d Q 51 [some (.ref a0), some (.ref a1), some (.int a2), none, none, none, none] (v.toList ++ [.long x2]) τ'))) ∧
    (∀ (a0 : Nat) (a1 : Nat) (a2 : Int32) (x0 : Int32) (x1 : Int64) (τ : St), Ru M_H_hoursOver d Q 51 [some (.ref a0), some (.ref a1), some (.int a2), none, none, none, none] [.int x0, .long x1] τ = Ru M_H_hoursOver d Q 52 [some (.ref a0), some (.ref a1), some (.int a2), none, none, none, none] [.long (x1 <<< (x0.toInt64 &&& 63))] τ) ∧
    (∀ (a0 : Nat) (a1 : Nat) (a2 : Int32) (x0 : Int64) (τ : St), Ru M_H_hoursOver d Q 52 [some (.ref a0), some (.ref a1), some (.int a2), none, none, none, none] [.long x0] τ = Ru M_H_hoursOver d Q 53 [some (.ref a0), some (.ref a1), some (.int a2), some (.long x0), none, none, none] [] τ) ∧
    (∀ (a0 : Nat) (a1 : Nat) (a2 : Int32) (a3 : Int64) (τ : St), Ru M_H_hoursOver d Q 53 [some (.ref a0), some (.ref a1), some (.int a2), some (.long a3), none, none, none] [] τ = Ru M_H_hoursOver d Q 54 [some (.ref a0), some (.ref a1), some (.int a2), some (.long a3), none, none, none] [.int 0] τ) ∧
    (∀ (a0 : Nat) (a1 : Nat) (a2 : Int32) (a3 : Int64) (x0 : Int32) (τ : St), Ru M_H_hoursOver d Q 54 [some (.ref a0), some (.ref a1), some (.int a2), some (.long a3), none, none, none] [.int x0] τ = Rs M_H_hoursOver d Q 56 [some (.ref a0), some (.ref a1), some (.int a2), some (.long a3), none, some (.int x0), none] [] τ) ∧
    (∀ (a0 : Nat) (a1 : Nat) (a2 : Int32) (a3 : Int64) (a5 : Int32) (a6 : Option Value) (τ : St), Ru M_H_hoursOver d Q 56 [some (.ref a0), some (.ref a1), some (.int a2), some (.long a3), none, some (.int a5), a6] [] τ = Ru M_H_hoursOver d Q 58 [some (.ref a0), some (.ref a1), some (.int a2), some (.long a3), none, some (.int a5), a6] [.int a5] τ) ∧
    (∀ (a0 : Nat) (a1 : Nat) (a2 : Int32) (a3 : Int64) (a5 : Int32) (a6 : Option Value) (x0 : Int32) (τ : St), Ru M_H_hoursOver d Q 58 [some (.ref a0), some (.ref a1), some (.int a2), some (.long a3), none, some (.int a5), a6] [.int x0] τ = Ru M_H_hoursOver d Q 60 [some (.ref a0), some (.ref a1), some (.int a2), some (.long a3), none, some (.int a5), a6] [.int 60, .int x0] τ) ∧
    (∀ (a0 : Nat) (a1 : Nat) (a2 : Int32) (a3 : Int64) (a5 : Int32) (a6 : Option Value) (x0 : Int32) (x1 : Int32) (τ : St), Ru M_H_hoursOver d Q 60 [some (.ref a0), some (.ref a1), some (.int a2), some (.long a3), none, some (.int a5), a6] [.int x0, .int x1] τ = ((x0 ≤ x1 → Ru M_H_hoursOver d Q 144 [some (.ref a0), some (.ref a1), some (.int a2), some (.long a3), none, some (.int a5), a6] [] τ) ∧ (¬ x0 ≤ x1 → Ru M_H_hoursOver d Q 63 [some (.ref a0), some (.ref a1), some (.int a2), some (.long a3), none, some (.int a5), a6] [] τ))) ∧
    (∀ (a0 : Nat) (a1 : Nat) (a2 : Int32) (a3 : Int64) (a5 : Int32) (a6 : Option Value) (τ : St), Ru M_H_hoursOver d Q 63 [some (.ref a0), some (.ref a1), some (.int a2), some (.long a3), none, some (.int a5), a6] [] τ = Ru M_H_hoursOver d Q 64 [some (.ref a0), some (.ref a1), some (.int a2), some (.long a3), none, some (.int a5), a6] [.ref a0] τ) ∧
    (∀ (a0 : Nat) (a1 : Nat) (a2 : Int32) (a3 : Int64) (a5 : Int32) (a6 : Option Value) (x0 : Nat) (τ : St), Ru M_H_hoursOver d Q 64 [some (.ref a0), some (.ref a1), some (.int a2), some (.long a3), none, some (.int a5), a6] [.ref x0] τ = (isA 11 x0 ∧ Ru M_H_hoursOver d Q 67 [some (.ref a0), some (.ref a1), some (.int a2), some (.long a3), none, some (.int a5), a6] [.ref (rtab x0 3)] τ)) ∧
    (∀ (a0 : Nat) (a1 : Nat) (a2 : Int32) (a3 : Int64) (a5 : Int32) (a6 : Option Value) (x0 : Nat) (τ : St), Ru M_H_hoursOver d Q 67 [some (.ref a0), some (.ref a1), some (.int a2), some (.long a3), none, some (.int a5), a6] [.ref x0] τ = (isA 1 x0 ∧ Ru M_H_hoursOver d Q 70 [some (.ref a0), some (.ref a1), some (.int a2), some (.long a3), none, some (.int a5), a6] [.int (τ.1 x0 6)] τ)) ∧
    (∀ (a0 : Nat) (a1 : Nat) (a2 : Int32) (a3 : Int64) (a5 : Int32) (a6 : Option Value) (x0 : Int32) (τ : St), Ru M_H_hoursOver d Q 70 [some (.ref a0), some (.ref a1), some (.int a2), some (.long a3), none, some (.int a5), a6] [.int x0] τ = Ru M_H_hoursOver d Q 72 [some (.ref a0), some (.ref a1), some (.int a2), some (.long a3), none, some (.int a5), a6] [.int a5, .int x0] τ) ∧
    (∀ (a0 : Nat) (a1 : Nat) (a2 : Int32) (a3 : Int64) (a5 : Int32) (a6 : Option Value) (x0 : Int32) (x1 : Int32) (τ : St), Ru M_H_hoursOver d Q 72 [some (.ref a0), some (.ref a1), some (.int a2), some (.long a3), none, some (.int a5), a6] [.int x0, .int x1] τ = Ru M_H_hoursOver d Q 73 [some (.ref a0), some (.ref a1), some (.int a2), some (.long a3), none, some (.int a5), a6] [.int (x1 + x0)] τ) ∧
    (∀ (a0 : Nat) (a1 : Nat) (a2 : Int32) (a3 : Int64) (a5 : Int32) (a6 : Option Value) (x0 : Int32) (τ : St), Ru M_H_hoursOver d Q 73 [some (.ref a0), some (.ref a1), some (.int a2), some (.long a3), none, some (.int a5), a6] [.int x0] τ = Ru M_H_hoursOver d Q 75 [some (.ref a0), some (.ref a1), some (.int a2), some (.long a3), none, some (.int a5), some (.int x0)] [] τ) ∧
    (∀ (a0 : Nat) (a1 : Nat) (a2 : Int32) (a3 : Int64) (a5 : Int32) (a6 : Int32) (τ : St), Ru M_H_hoursOver d Q 75 [some (.ref a0), some (.ref a1), some (.int a2), some (.long a3), none, some (.int a5), some (.int a6)] [] τ = Ru M_H_hoursOver d Q 76 [some (.ref a0), some (.ref a1), some (.int a2), some (.long a3), none, some (.int a5), some (.int a6)] [.ref a0] τ) ∧
    (∀ (a0 : Nat) (a1 : Nat) (a2 : Int32) (a3 : Int64) (a5 : Int32) (a6 : Int32) (x0 : Nat) (τ : St), Ru M_H_hoursOver d Q 76 [some (.ref a0), some (.ref a1), some (.int a2), some (.long a3), none, some (.int a5), some (.int a6)] [.ref x0] τ = (isA 11 x0 ∧ Ru M_H_hoursOver d Q 79 [some (.ref a0), some (.ref a1), some (.int a2), some (.long a3), none, some (.int a5), some (.int a6)] [.ref (rtab x0 12)] τ)) ∧
    (∀ (a0 : Nat) (a1 : Nat) (a2 : Int32) (a3 : Int64) (a5 : Int32) (a6 : Int32) (x0 : Nat) (τ : St), Ru M_H_hoursOver d Q 79 [some (.ref a0), some (.ref a1), some (.int a2), some (.long a3), none, some (.int a5), some (.int a6)] [.ref x0] τ = Ru M_H_hoursOver d Q 81 [some (.ref a0), some (.ref a1), some (.int a2), some (.long a3), none, some (.int a5), some (.int a6)] [.int a6, .ref x0] τ) ∧
    (∀ (a0 : Nat) (a1 : Nat) (a2 : Int32) (a3 : Int64) (a5 : Int32) (a6 : Int32) (x0 : Int32) (x1 : Nat) (τ : St), Ru M_H_hoursOver d Q 81 [some (.ref a0), some (.ref a1), some (.int a2), some (.long a3), none, some (.int a5), some (.int a6)] [.int x0, .ref x1] τ = Ru M_H_hoursOver d Q 83 [some (.ref a0), some (.ref a1), some (.int a2), some (.long a3), none, some (.int a5), some (.int a6)] [.int 10, .int x0, .ref x1] τ) ∧
    (∀ (a0 : Nat) (a1 : Nat) (a2 : Int32) (a3 : Int64) (a5 : Int32) (a6 : Int32) (x0 : Int32) (x1 : Int32) (x2 : Nat) (τ : St), Ru M_H_hoursOver d Q 83 [some (.ref a0), some (.ref a1), some (.int a2), some (.long a3), none, some (.int a5), some (.int a6)] [.int x0, .int x1, .ref x2] τ = (¬ x0 = 0 ∧ Ru M_H_hoursOver d Q 84 [some (.ref a0), some (.ref a1), some (.int a2), some (.long a3), none, some (.int a5), some (.int a6)] [.int (x1 - x1 / x0 * x0), .ref x2] τ)) ∧
    (∀ (a0 : Nat) (a1 : Nat) (a2 : Int32) (a3 : Int64) (a5 : Int32) (a6 : Int32) (x0 : Int32) (x1 : Nat) (τ : St), Ru M_H_hoursOver d Q 84 [some (.ref a0), some (.ref a1), some (.int a2), some (.long a3), none, some (.int a5), some (.int a6)] [.int x0, .ref x1] τ = Ru M_H_hoursOver d Q 85 [some (.ref a0), some (.ref a1), some (.int a2), some (.long a3), none, some (.int a5), some (.int a6)] [.ref a0, .int x0, .ref x1] τ) ∧
    (∀ (a0 : Nat) (a1 : Nat) (a2 : Int32) (a3 : Int64) (a5 : Int32) (a6 : Int32) (x0 : Nat) (x1 : Int32) (x2 : Nat) (τ : St), Ru M_H_hoursOver d Q 85 [some (.ref a0), some (.ref a1), some (.int a2), some (.long a3), none, some (.int a5), some (.int a6)] [.ref x0, .int x1, .ref x2] τ = (isA 11 x0 ∧ Ru M_H_hoursOver d Q 88 [some (.ref a0), some (.ref a1), some (.int a2), some (.long a3), none, some (.int a5), some (.int a6)] [.ref (rtab x0 3), .int x1, .ref x2] τ)) ∧
    (∀ (a0 : Nat) (a1 : Nat) (a2 : Int32) (a3 : Int64) (a5 : Int32) (a6 : Int32) (x0 : Nat) (x1 : Int32) (x2 : Nat) (τ : St), Ru M_H_hoursOver d Q 88 [some (.ref a0), some (.ref a1), some (.int a2), some (.long a3), none, some (.int a5), some (.int a6)] [.ref x0, .int x1, .ref x2] τ = (isA 1 x0 ∧ Ru M_H_hoursOver d Q 91 [some (.ref a0), some (.ref a1), some (.int a2), some (.long a3), none, some (.int a5), some (.int a6)] [.int (τ.1 x0 5), .int x1, .ref x2] τ)) ∧
    (∀ (a0 : Nat) (a1 : Nat) (a2 : Int32) (a3 : Int64) (a5 : Int32) (a6 : Int32) (x0 : Int32) (x1 : Int32) (x2 : Nat) (τ : St), Ru M_H_hoursOver d Q 91 [some (.ref a0), some (.ref a1), some (.int a2), some (.long a3), none, some (.int a5), some (.int a6)] [.int x0, .int x1, .ref x2] τ = Ru M_H_hoursOver d Q 93 [some (.ref a0), some (.ref a1), some (.int a2), some (.long a3), none, some (.int a5), some (.int a6)] [.int a6, .int x0, .int x1, .ref x2] τ) ∧
    (∀ (a0 : Nat) (a1 : Nat) (a2 : Int32) (a3 : Int64) (a5 : Int32) (a6 : Int32) (x0 : Int32) (x1 : Int32) (x2 : Int32) (x3 : Nat) (τ : St), Ru M_H_hoursOver d Q 93 [some (.ref a0), some (.ref a1), some (.int a2), some (.long a3), none, some (.int a5), some (.int a6)] [.int x0, .int x1, .int x2, .ref x3] τ = Ru M_H_hoursOver d Q 95 [some (.ref a0), some (.ref a1), some (.int a2), some (.long a3), none, some (.int a5), some (.int a6)] [.int 10, .int x0, .int x1, .int x2, .ref x3] τ) ∧
    (∀ (a0 : Nat) (a1 : Nat) (a2 : Int32) (a3 : Int64) (a5 : Int32) (a6 : Int32) (x0 : Int32) (x1 : Int32) (x2 : Int32) (x3 : Int32) (x4 : Nat) (τ : St), Ru M_H_hoursOver d Q 95 [some (.ref a0), some (.ref a1), some (.int a2), some (.long a3), none, some (.int a5), some (.int a6)] [.int x0, .int x1, .int x2, .int x3, .ref x4] τ = (¬ x0 = 0 ∧ Ru M_H_hoursOver d Q 96 [some (.ref a0), some (.ref a1), some (.int a2), some (.long a3), none, some (.int a5), some (.int a6)] [.int (x1 / x0), .int x2, .int x3, .ref x4] τ)) ∧
    (∀ (a0 : Nat) (a1 : Nat) (a2 : Int32) (a3 : Int64) (a5 : Int32) (a6 : Int32) (x0 : Int32) (x1 : Int32) (x2 : Int32) (x3 : Nat) (τ : St), Ru M_H_hoursOver d Q 96 [some (.ref a0), some (.ref a1), some (.int a2), some (.long a3), none, some (.int a5), some (.int a6)] [.int x0, .int x1, .int x2, .ref x3] τ = Ru M_H_hoursOver d Q 97 [some (.ref a0), some (.ref a1), some (.int a2), some (.long a3), none, some (.int a5), some (.int a6)] [.int (x1 + x0), .int x2, .ref x3] τ) ∧
    (∀ (a0 : Nat) (a1 : Nat) (a2 : Int32) (a3 : Int64) (a5 : Int32) (a6 : Int32) (x0 : Int32) (x1 : Int32) (x2 : Nat) (τ : St), Ru M_H_hoursOver d Q 97 [some (.ref a0), some (.ref a1), some (.int a2), some (.long a3), none, some (.int a5), some (.int a6)] [.int x0, .int x1, .ref x2] τ = Cl d m_H_kindOf [.int x0] τ (fun v τ' => Ru M_H_hoursOver d Q 100 [some (.ref a0), some (.ref a1), some (.int a2), some (.long a3), none, some (.int a5), some (.int a6)] (v.toList ++ [.int x1, .ref x2]) τ')) ∧
    (∀ (a0 : Nat) (a1 : Nat) (a2 : Int32) (a3 : Int64) (a5 : Int32) (a6 : Int32) (x0 : Int32) (x1 : Int32) (x2 : Nat) (τ : St), Ru M_H_hoursOver d Q 100 [some (.ref a0), some (.ref a1), some (.int a2), some (.long a3), none, some (.int a5), some (.int a6)] [.int x0, .int x1, .ref x2] τ = (isA 10 x2 ∧ Cl d m_Ways_turnTo [.ref x2, .int x1, .int x0] τ (fun v τ' => Ru M_H_hoursOver d Q 103 [some (.ref a0), some (.ref a1), some (.int a2), some (.long a3), none, some (.int a5), some (.int a6)] (v.toList ++ []) τ'))) ∧
    (∀ (a0 : Nat) (a1 : Nat) (a2 : Int32) (a3 : Int64) (a5 : Int32) (a6 : Int32) (τ : St), Ru M_H_hoursOver d Q 103 [some (.ref a0), some (.ref a1), some (.int a2), some (.long a3), none, some (.int a5), some (.int a6)] [] τ = Ru M_H_hoursOver d Q 104 [some (.ref a0), some (.ref a1), some (.int a2), some (.long a3), none, some (.int a5), some (.int a6)] [.long a3] τ) ∧
    (∀ (a0 : Nat) (a1 : Nat) (a2 : Int32) (a3 : Int64) (a5 : Int32) (a6 : Int32) (x0 : Int64) (τ : St), Ru M_H_hoursOver d Q 104 [some (.ref a0), some (.ref a1), some (.int a2), some (.long a3), none, some (.int a5), some (.int a6)] [.long x0] τ = Ru M_H_hoursOver d Q 105 [some (.ref a0), some (.ref a1), some (.int a2), some (.long a3), none, some (.int a5), some (.int a6)] [.ref a0, .long x0] τ) ∧
    (∀ (a0 : Nat) (a1 : Nat) (a2 : Int32) (a3 : Int64) (a5 : Int32) (a6 : Int32) (x0 : Nat) (x1 : Int64) (τ : St), Ru M_H_hoursOver d Q 105 [some (.ref a0), some (.ref a1), some (.int a2), some (.long a3), none, some (.int a5), some (.int a6)] [.ref x0, .long x1] τ = (isA 11 x0 ∧ Ru M_H_hoursOver d Q 108 [some (.ref a0), some (.ref a1), some (.int a2), some (.long a3), none, some (.int a5), some (.int a6)] [.ref (rtab x0 12), .long x1] τ)) ∧
    (∀ (a0 : Nat) (a1 : Nat) (a2 : Int32) (a3 : Int64) (a5 : Int32) (a6 : Int32) (x0 : Nat) (x1 : Int64) (τ : St), Ru M_H_hoursOver d Q 108 [some (.ref a0), some (.ref a1), some (.int a2), some (.long a3), none, some (.int a5), some (.int a6)] [.ref x0, .long x1] τ = Ru M_H_hoursOver d Q 109 [some (.ref a0), some (.ref a1), some (.int a2), some (.long a3), none, some (.int a5), some (.int a6)] [.long a3, .ref x0, .long x1] τ) ∧
    (∀ (a0 : Nat) (a1 : Nat) (a2 : Int32) (a3 : Int64) (a5 : Int32) (a6 : Int32) (x0 : Int64) (x1 : Nat) (x2 : Int64) (τ : St), Ru M_H_hoursOver d Q 109 [some (.ref a0), some (.ref a1), some (.int a2), some (.long a3), none, some (.int a5), some (.int a6)] [.long x0, .ref x1, .long x2] τ = Ru M_H_hoursOver d Q 110 [some (.ref a0), some (.ref a1), some (.int a2), some (.long a3), none, some (.int a5), some (.int a6)] [.long a3, .long x0, .ref x1, .long x2] τ) ∧
    (∀ (a0 : Nat) (a1 : Nat) (a2 : Int32) (a3 : Int64) (a5 : Int32) (a6 : Int32) (x0 : Int64) (x1 : Int64) (x2 : Nat) (x3 : Int64) (τ : St), Ru M_H_hoursOver d Q 110 [some (.ref a0), some (.ref a1), some (.int a2), some (.long a3), none, some (.int a5), some (.int a6)] [.long x0, .long x1, .ref x2, .long x3] τ = Ru M_H_hoursOver d Q 111 [some (.ref a0), some (.ref a1), some (.int a2), some (.long a3), none, some (.int a5), some (.int a6)] [.ref a0, .long x0, .long x1, .ref x2, .long x3] τ) ∧
    (∀ (a0 : Nat) (a1 : Nat) (a2 : Int32) (a3 : Int64) (a5 : Int32) (a6 : Int32) (x0 : Nat) (x1 : Int64) (x2 : Int64) (x3 : Nat) (x4 : Int64) (τ : St), Ru M_H_hoursOver d Q 111 [some (.ref a0), some (.ref a1), some (.int a2), some (.long a3), none, some (.int a5), some (.int a6)] [.ref x0, .long x1, .long x2, .ref x3, .long x4] τ = (isA 11 x0 ∧ Ru M_H_hoursOver d Q 114 [some (.ref a0), some (.ref a1), some (.int a2), some (.long a3), none, some (.int a5), some (.int a6)] [.int (τ.1 x0 8), .long x1, .long x2, .ref x3, .long x4] τ)) ∧
    (∀ (a0 : Nat) (a1 : Nat) (a2 : Int32) (a3 : Int64) (a5 : Int32) (a6 : Int32) (x0 : Int32) (x1 : Int64) (x2 : Int64) (x3 : Nat) (x4 : Int64) (τ : St), Ru M_H_hoursOver d Q 114 [some (.ref a0), some (.ref a1), some (.int a2), some (.long a3), none, some (.int a5), some (.int a6)] [.int x0, .long x1, .long x2, .ref x3, .long x4] τ = (isA 10 x3 ∧ Cl d m_Ways_oneDragFrom [.ref x3, .long x2, .long x1, .int x0] τ (fun v τ' => Ru M_H_hoursOver d Q 117 [some (.ref a0), some (.ref a1), some (.int a2), some (.long a3), none, some (.int a5), some (.int a6)] (v.toList ++ [.long x4]) τ'))) ∧
    (∀ (a0 : Nat) (a1 : Nat) (a2 : Int32) (a3 : Int64) (a5 : Int32) (a6 : Int32) (x0 : Int64) (x1 : Int64) (τ : St), Ru M_H_hoursOver d Q 117 [some (.ref a0), some (.ref a1), some (.int a2), some (.long a3), none, some (.int a5), some (.int a6)] [.long x0, .long x1] τ = Ru M_H_hoursOver d Q 118 [some (.ref a0), some (.ref a1), some (.int a2), some (.long a3), none, some (.int a5), some (.int a6)] [.long (x1 ||| x0)] τ) ∧
    (∀ (a0 : Nat) (a1 : Nat) (a2 : Int32) (a3 : Int64) (a5 : Int32) (a6 : Int32) (x0 : Int64) (τ : St), Ru M_H_hoursOver d Q 118 [some (.ref a0), some (.ref a1), some (.int a2), some (.long a3), none, some (.int a5), some (.int a6)] [.long x0] τ = Ru M_H_hoursOver d Q 119 [some (.ref a0), some (.ref a1), some (.int a2), some (.long x0), none, some (.int a5), some (.int a6)] [] τ) ∧
    (∀ (a0 : Nat) (a1 : Nat) (a2 : Int32) (a3 : Int64) (a5 : Int32) (a6 : Int32) (τ : St), Ru M_H_hoursOver d Q 119 [some (.ref a0), some (.ref a1), some (.int a2), some (.long a3), none, some (.int a5), some (.int a6)] [] τ = Ru M_H_hoursOver d Q 120 [some (.ref a0), some (.ref a1), some (.int a2), some (.long a3), none, some (.int a5), some (.int a6)] [.long a3] τ) ∧
    (∀ (a0 : Nat) (a1 : Nat) (a2 : Int32) (a3 : Int64) (a5 : Int32) (a6 : Int32) (x0 : Int64) (τ : St), Ru M_H_hoursOver d Q 120 [some (.ref a0), some (.ref a1), some (.int a2), some (.long a3), none, some (.int a5), some (.int a6)] [.long x0] τ = Ru M_H_hoursOver d Q 121 [some (.ref a0), some (.ref a1), some (.int a2), some (.long a3), none, some (.int a5), some (.int a6)] [.ref a0, .long x0] τ) ∧
    (∀ (a0 : Nat) (a1 : Nat) (a2 : Int32) (a3 : Int64) (a5 : Int32) (a6 : Int32) (x0 : Nat) (x1 : Int64) (τ : St), Ru M_H_hoursOver d Q 121 [some (.ref a0), some (.ref a1), some (.int a2), some (.long a3), none, some (.int a5), some (.int a6)] [.ref x0, .long x1] τ = (isA 11 x0 ∧ Ru M_H_hoursOver d Q 124 [some (.ref a0), some (.ref a1), some (.int a2), some (.long a3), none, some (.int a5), some (.int a6)] [.ref (rtab x0 2), .long x1] τ)) ∧
    (∀ (a0 : Nat) (a1 : Nat) (a2 : Int32) (a3 : Int64) (a5 : Int32) (a6 : Int32) (x0 : Nat) (x1 : Int64) (τ : St), Ru M_H_hoursOver d Q 124 [some (.ref a0), some (.ref a1), some (.int a2), some (.long a3), none, some (.int a5), some (.int a6)] [.ref x0, .long x1] τ = (isA 0 x0 ∧ Ru M_H_hoursOver d Q 127 [some (.ref a0), some (.ref a1), some (.int a2), some (.long a3), none, some (.int a5), some (.int a6)] [.long (τ.2 x0 8), .long x1] τ)) ∧
    (∀ (a0 : Nat) (a1 : Nat) (a2 : Int32) (a3 : Int64) (a5 : Int32) (a6 : Int32) (x0 : Int64) (x1 : Int64) (τ : St), Ru M_H_hoursOver d Q 127 [some (.ref a0), some (.ref a1), some (.int a2), some (.long a3), none, some (.int a5), some (.int a6)] [.long x0, .long x1] τ = Ru M_H_hoursOver d Q 128 [some (.ref a0), some (.ref a1), some (.int a2), some (.long a3), none, some (.int a5), some (.int a6)] [.long (x1 &&& x0)] τ) ∧
    (∀ (a0 : Nat) (a1 : Nat) (a2 : Int32) (a3 : Int64) (a5 : Int32) (a6 : Int32) (x0 : Int64) (τ : St), Ru M_H_hoursOver d Q 128 [some (.ref a0), some (.ref a1), some (.int a2), some (.long a3), none, some (.int a5), some (.int a6)] [.long x0] τ = Ru M_H_hoursOver d Q 129 [some (.ref a0), some (.ref a1), some (.int a2), some (.long a3), none, some (.int a5), some (.int a6)] [.long 0, .long x0] τ) ∧
    (∀ (a0 : Nat) (a1 : Nat) (a2 : Int32) (a3 : Int64) (a5 : Int32) (a6 : Int32) (x0 : Int64) (x1 : Int64) (τ : St), Ru M_H_hoursOver d Q 129 [some (.ref a0), some (.ref a1), some (.int a2), some (.long a3), none, some (.int a5), some (.int a6)] [.long x0, .long x1] τ = Ru M_H_hoursOver d Q 130 [some (.ref a0), some (.ref a1), some (.int a2), some (.long a3), none, some (.int a5), some (.int a6)] [.int (lg_cmp x1 x0)] τ) ∧
    (∀ (a0 : Nat) (a1 : Nat) (a2 : Int32) (a3 : Int64) (a5 : Int32) (a6 : Int32) (x0 : Int32) (τ : St), Ru M_H_hoursOver d Q 130 [some (.ref a0), some (.ref a1), some (.int a2), some (.long a3), none, some (.int a5), some (.int a6)] [.int x0] τ = ((x0 = 0 → Ru M_H_hoursOver d Q 138 [some (.ref a0), some (.ref a1), some (.int a2), some (.long a3), none, some (.int a5), some (.int a6)] [] τ) ∧ (¬ x0 = 0 → Ru M_H_hoursOver d Q 133 [some (.ref a0), some (.ref a1), some (.int a2), some (.long a3), none, some (.int a5), some (.int a6)] [] τ))) ∧
    (∀ (a0 : Nat) (a1 : Nat) (a2 : Int32) (a3 : Int64) (a5 : Int32) (a6 : Int32) (τ : St), Ru M_H_hoursOver d Q 133 [some (.ref a0), some (.ref a1), some (.int a2), some (.long a3), none, some (.int a5), some (.int a6)] [] τ = Ru M_H_hoursOver d Q 135 [some (.ref a0), some (.ref a1), some (.int a2), some (.long a3), none, some (.int a5), some (.int a6)] [.int a5] τ) ∧
    (∀ (a0 : Nat) (a1 : Nat) (a2 : Int32) (a3 : Int64) (a5 : Int32) (a6 : Int32) (x0 : Int32) (τ : St), Ru M_H_hoursOver d Q 135 [some (.ref a0), some (.ref a1), some (.int a2), some (.long a3), none, some (.int a5), some (.int a6)] [.int x0] τ = Ru M_H_hoursOver d Q 136 [some (.ref a0), some (.ref a1), some (.int a2), some (.long a3), none, some (.int a5), some (.int a6)] [.int 1, .int x0] τ) ∧
    (∀ (a0 : Nat) (a1 : Nat) (a2 : Int32) (a3 : Int64) (a5 : Int32) (a6 : Int32) (x0 : Int32) (x1 : Int32) (τ : St), Ru M_H_hoursOver d Q 136 [some (.ref a0), some (.ref a1), some (.int a2), some (.long a3), none, some (.int a5), some (.int a6)] [.int x0, .int x1] τ = Ru M_H_hoursOver d Q 137 [some (.ref a0), some (.ref a1), some (.int a2), some (.long a3), none, some (.int a5), some (.int a6)] [.int (x1 + x0)] τ) ∧
    (∀ (a0 : Nat) (a1 : Nat) (a2 : Int32) (a3 : Int64) (a5 : Int32) (a6 : Int32) (x0 : Int32) (τ : St), Ru M_H_hoursOver d Q 137 [some (.ref a0), some (.ref a1), some (.int a2), some (.long a3), none, some (.int a5), some (.int a6)] [.int x0] τ = Q (some (.int x0)) τ) ∧
    (∀ (a0 : Nat) (a1 : Nat) (a2 : Int32) (a3 : Int64) (a5 : Int32) (a6 : Int32) (τ : St), Ru M_H_hoursOver d Q 138 [some (.ref a0), some (.ref a1), some (.int a2), some (.long a3), none, some (.int a5), some (.int a6)] [] τ = Ru M_H_hoursOver d Q 141 [some (.ref a0), some (.ref a1), some (.int a2), some (.long a3), none, some (.int (a5 + 1)), some (.int a6)] [] τ) ∧
    (∀ (a0 : Nat) (a1 : Nat) (a2 : Int32) (a3 : Int64) (a5 : Int32) (a6 : Int32) (τ : St), Ru M_H_hoursOver d Q 141 [some (.ref a0), some (.ref a1), some (.int a2), some (.long a3), none, some (.int a5), some (.int a6)] [] τ = Rs M_H_hoursOver d Q 56 [some (.ref a0), some (.ref a1), some (.int a2), some (.long a3), none, some (.int a5), some (.int a6)] [] τ) ∧
    (∀ (a0 : Nat) (a1 : Nat) (a2 : Int32) (a3 : Int64) (a5 : Int32) (a6 : Option Value) (τ : St), Ru M_H_hoursOver d Q 144 [some (.ref a0), some (.ref a1), some (.int a2), some (.long a3), none, some (.int a5), a6] [] τ = Ru M_H_hoursOver d Q 146 [some (.ref a0), some (.ref a1), some (.int a2), some (.long a3), none, some (.int a5), a6] [.int 61] τ) ∧
    (∀ (a0 : Nat) (a1 : Nat) (a2 : Int32) (a3 : Int64) (a5 : Int32) (a6 : Option Value) (x0 : Int32) (τ : St), Ru M_H_hoursOver d Q 146 [some (.ref a0), some (.ref a1), some (.int a2), some (.long a3), none, some (.int a5), a6] [.int x0] τ = Q (some (.int x0)) τ) := ⟨
  fun _ _ _ _ => (R_at ok_H_hoursOver rfl).trans (e_ald rfl),
  fun _ _ _ _ _ => (R_at ok_H_hoursOver rfl).trans (e_ild rfl),
  fun _ _ _ x0 _ _ => (R_at ok_H_hoursOver rfl).trans (e_cv [.int x0] rfl rfl rfl),
  fun _ _ _ _ _ => (R_at ok_H_hoursOver rfl).trans e_ifn,
  fun _ _ _ _ => (R_at ok_H_hoursOver rfl).trans e_push,
  fun _ _ _ _ _ => (R_at ok_H_hoursOver rfl).trans e_iret,
  fun _ _ _ _ => (R_at ok_H_hoursOver rfl).trans (e_ald rfl),
  fun _ _ _ _ _ => (R_at ok_H_hoursOver rfl).trans (e_ild rfl),
  fun _ _ _ x0 _ _ => (R_at ok_H_hoursOver rfl).trans (e_cv [.int x0] rfl rfl rfl),
  fun _ _ _ _ _ => (R_at ok_H_hoursOver rfl).trans e_if,
  fun _ _ _ _ => (R_at ok_H_hoursOver rfl).trans e_push,
  fun _ _ _ _ _ => (R_at ok_H_hoursOver rfl).trans e_iret,
  fun _ _ _ _ => (R_at ok_H_hoursOver rfl).trans (e_ald rfl),
  fun _ _ _ _ _ => (R_at ok_H_hoursOver rfl).trans e_gR,
  fun _ _ _ _ _ => (R_at ok_H_hoursOver rfl).trans (e_ald rfl),
  fun _ _ _ _ _ _ => (R_at ok_H_hoursOver rfl).trans (e_ald rfl),
  fun _ _ _ _ _ _ _ => (R_at ok_H_hoursOver rfl).trans e_gR,
  fun _ _ _ _ _ _ _ => (R_at ok_H_hoursOver rfl).trans (e_ild rfl),
  fun _ _ _ _ _ _ _ _ => (R_at ok_H_hoursOver rfl).trans e_al,
  fun _ _ _ _ _ _ _ => (R_at ok_H_hoursOver rfl).trans (e_ald rfl),
  fun _ _ _ _ _ _ _ _ => (R_at ok_H_hoursOver rfl).trans e_gR,
  fun _ _ _ _ _ _ _ _ => (R_at ok_H_hoursOver rfl).trans e_gL,
  fun _ _ _ x0 x1 x2 _ _ => (R_at ok_H_hoursOver rfl).trans (e_cv [.ref x2, .int x1, .long x0] rfl rfl rfl),
  fun _ _ _ _ => (R_at ok_H_hoursOver rfl).trans e_push,
  fun _ _ _ _ _ => (R_at ok_H_hoursOver rfl).trans (e_ald rfl),
  fun _ _ _ _ _ _ => (R_at ok_H_hoursOver rfl).trans e_gR,
  fun _ _ _ _ _ _ => (R_at ok_H_hoursOver rfl).trans (e_ild rfl),
  fun _ _ _ x0 _ _ _ => (R_at ok_H_hoursOver rfl).trans (e_cv [.int x0] rfl rfl rfl),
  fun _ _ _ _ _ _ => (R_at ok_H_hoursOver rfl).trans e_lsh,
  fun _ _ _ _ _ => (R_at ok_H_hoursOver rfl).trans e_lst,
  fun _ _ _ _ _ => (R_at ok_H_hoursOver rfl).trans e_push,
  fun _ _ _ _ _ _ => (R_at ok_H_hoursOver rfl).trans e_ist,
  fun _ _ _ _ _ _ _ => (R_at ok_H_hoursOver rfl).trans (e_ild rfl),
  fun _ _ _ _ _ _ _ _ => (R_at ok_H_hoursOver rfl).trans e_push,
  fun _ _ _ _ _ _ _ _ _ => (R_at ok_H_hoursOver rfl).trans e_ic,
  fun _ _ _ _ _ _ _ => (R_at ok_H_hoursOver rfl).trans (e_ald rfl),
  fun _ _ _ _ _ _ _ _ => (R_at ok_H_hoursOver rfl).trans e_gR,
  fun _ _ _ _ _ _ _ _ => (R_at ok_H_hoursOver rfl).trans e_gI,
  fun _ _ _ _ _ _ _ _ => (R_at ok_H_hoursOver rfl).trans (e_ild rfl),
  fun _ _ _ _ _ _ _ _ _ => (R_at ok_H_hoursOver rfl).trans e_bin,
  fun _ _ _ _ _ _ _ _ => (R_at ok_H_hoursOver rfl).trans e_ist,
  fun _ _ _ _ _ _ _ => (R_at ok_H_hoursOver rfl).trans (e_ald rfl),
  fun _ _ _ _ _ _ _ _ => (R_at ok_H_hoursOver rfl).trans e_gR,
  fun _ _ _ _ _ _ _ _ => (R_at ok_H_hoursOver rfl).trans (e_ild rfl),
  fun _ _ _ _ _ _ _ _ _ => (R_at ok_H_hoursOver rfl).trans e_push,
  fun _ _ _ _ _ _ _ _ _ _ => (R_at ok_H_hoursOver rfl).trans e_binz,
  fun _ _ _ _ _ _ _ _ _ => (R_at ok_H_hoursOver rfl).trans (e_ald rfl),
  fun _ _ _ _ _ _ _ _ _ _ => (R_at ok_H_hoursOver rfl).trans e_gR,
  fun _ _ _ _ _ _ _ _ _ _ => (R_at ok_H_hoursOver rfl).trans e_gI,
  fun _ _ _ _ _ _ _ _ _ _ => (R_at ok_H_hoursOver rfl).trans (e_ild rfl),
  fun _ _ _ _ _ _ _ _ _ _ _ => (R_at ok_H_hoursOver rfl).trans e_push,
  fun _ _ _ _ _ _ _ _ _ _ _ _ => (R_at ok_H_hoursOver rfl).trans e_binz,
  fun _ _ _ _ _ _ _ _ _ _ _ => (R_at ok_H_hoursOver rfl).trans e_bin,
  fun _ _ _ _ _ _ x0 _ _ _ => (R_at ok_H_hoursOver rfl).trans (e_cs [.int x0] rfl rfl rfl),
  fun _ _ _ _ _ _ x0 x1 _ _ => (R_at ok_H_hoursOver rfl).trans (e_cv [.int x1, .int x0] rfl rfl rfl),
  fun _ _ _ _ _ _ _ => (R_at ok_H_hoursOver rfl).trans (e_lld rfl),
  fun _ _ _ _ _ _ _ _ => (R_at ok_H_hoursOver rfl).trans (e_ald rfl),
  fun _ _ _ _ _ _ _ _ _ => (R_at ok_H_hoursOver rfl).trans e_gR,
  fun _ _ _ _ _ _ _ _ _ => (R_at ok_H_hoursOver rfl).trans (e_lld rfl),
  fun _ _ _ _ _ _ _ _ _ _ => (R_at ok_H_hoursOver rfl).trans (e_lld rfl),
  fun _ _ _ _ _ _ _ _ _ _ _ => (R_at ok_H_hoursOver rfl).trans (e_ald rfl),
  fun _ _ _ _ _ _ _ _ _ _ _ _ => (R_at ok_H_hoursOver rfl).trans e_gI,
  fun _ _ _ _ _ _ x0 x1 x2 _ _ _ => (R_at ok_H_hoursOver rfl).trans (e_cv [.long x2, .long x1, .int x0] rfl rfl rfl),
  fun _ _ _ _ _ _ _ _ _ => (R_at ok_H_hoursOver rfl).trans e_lbin,
  fun _ _ _ _ _ _ _ _ => (R_at ok_H_hoursOver rfl).trans e_lst,
  fun _ _ _ _ _ _ _ => (R_at ok_H_hoursOver rfl).trans (e_lld rfl),
  fun _ _ _ _ _ _ _ _ => (R_at ok_H_hoursOver rfl).trans (e_ald rfl),
  fun _ _ _ _ _ _ _ _ _ => (R_at ok_H_hoursOver rfl).trans e_gR,
  fun _ _ _ _ _ _ _ _ _ => (R_at ok_H_hoursOver rfl).trans e_gL,
  fun _ _ _ _ _ _ _ _ _ => (R_at ok_H_hoursOver rfl).trans e_lbin,
  fun _ _ _ _ _ _ _ _ => (R_at ok_H_hoursOver rfl).trans e_push,
  fun _ _ _ _ _ _ _ _ _ => (R_at ok_H_hoursOver rfl).trans e_lcmp,
  fun _ _ _ _ _ _ _ _ => (R_at ok_H_hoursOver rfl).trans e_if,
  fun _ _ _ _ _ _ _ => (R_at ok_H_hoursOver rfl).trans (e_ild rfl),
  fun _ _ _ _ _ _ _ _ => (R_at ok_H_hoursOver rfl).trans e_push,
  fun _ _ _ _ _ _ _ _ _ => (R_at ok_H_hoursOver rfl).trans e_bin,
  fun _ _ _ _ _ _ _ _ => (R_at ok_H_hoursOver rfl).trans e_iret,
  fun _ _ _ _ _ _ _ => (R_at ok_H_hoursOver rfl).trans (e_iinc rfl),
  fun _ _ _ _ _ _ _ => (R_at ok_H_hoursOver rfl).trans e_goto,
  fun _ _ _ _ _ _ _ => (R_at ok_H_hoursOver rfl).trans e_push,
  fun _ _ _ _ _ _ _ _ => (R_at ok_H_hoursOver rfl).trans e_iret⟩
set_option maxHeartbeats 4000000 in
theorem N_H_kind (d : Nat) (Q : Qt) : ∀ (x0 : Nat) (x1 : Int32) (x2 : Int32) (τ : St), Cl (d + 1) m_H_kind [.ref x0, .int x1, .int x2] τ Q = Ru M_H_kind d Q 0 [some (.ref x0), some (.int x1), some (.int x2), none] [] τ := fun _ _ _ _ => propext ⟨fun h => h.2, fun h => ⟨Nat.le_of_ble_eq_true rfl, h⟩⟩
set_option maxHeartbeats 4000000 in
theorem E_H_kind (d : Nat) (Q : Qt) :
    (∀ (a0 : Nat) (a1 : Int32) (a2 : Int32) (τ : St), Ru M_H_kind d Q 0 [some (.ref a0), some (.int a1), some (.int a2), none] [] τ = Ru M_H_kind d Q 1 [some (.ref a0), some (.int a1), some (.int a2), none] [.int a1] τ) ∧
    (∀ (a0 : Nat) (a1 : Int32) (a2 : Int32) (x0 : Int32) (τ : St), Ru M_H_kind d Q 1 [some (.ref a0), some (.int a1), some (.int a2), none] [.int x0] τ = ((x0 < 0 → Ru M_H_kind d Q 21 [some (.ref a0), some (.int a1), some (.int a2), none] [] τ) ∧ (¬ x0 < 0 → Ru M_H_kind d Q 4 [some (.ref a0), some (.int a1), some (.int a2), none] [] τ))) ∧
    (∀ (a0 : Nat) (a1 : Int32) (a2 : Int32) (τ : St), Ru M_H_kind d Q 4 [some (.ref a0), some (.int a1), some (.int a2), none] [] τ = Ru M_H_kind d Q 5 [some (.ref a0), some (.int a1), some (.int a2), none] [.int a1] τ) ∧
    (∀ (a0 : Nat) (a1 : Int32) (a2 : Int32) (x0 : Int32) (τ : St), Ru M_H_kind d Q 5 [some (.ref a0), some (.int a1), some (.int a2), none] [.int x0] τ = Ru M_H_kind d Q 7 [some (.ref a0), some (.int a1), some (.int a2), none] [.int 99, .int x0] τ) ∧
    (∀ (a0 : Nat) (a1 : Int32) (a2 : Int32) (x0 : Int32) (x1 : Int32) (τ : St), Ru M_H_kind d Q 7 [some (.ref a0), some (.int a1), some (.int a2), none] [.int x0, .int x1] τ = ((x0 < x1 → Ru M_H_kind d Q 21 [some (.ref a0), some (.int a1), some (.int a2), none] [] τ) ∧ (¬ x0 < x1 → Ru M_H_kind d Q 10 [some (.ref a0), some (.int a1), some (.int a2), none] [] τ))) ∧
    (∀ (a0 : Nat) (a1 : Int32) (a2 : Int32) (τ : St), Ru M_H_kind d Q 10 [some (.ref a0), some (.int a1), some (.int a2), none] [] τ = Ru M_H_kind d Q 11 [some (.ref a0), some (.int a1), some (.int a2), none] [.int a2] τ) ∧
    (∀ (a0 : Nat) (a1 : Int32) (a2 : Int32) (x0 : Int32) (τ : St), Ru M_H_kind d Q 11 [some (.ref a0), some (.int a1), some (.int a2), none] [.int x0] τ = ((x0 < 0 → Ru M_H_kind d Q 21 [some (.ref a0), some (.int a1), some (.int a2), none] [] τ) ∧ (¬ x0 < 0 → Ru M_H_kind d Q 14 [some (.ref a0), some (.int a1), some (.int a2), none] [] τ))) ∧
    (∀ (a0 : Nat) (a1 : Int32) (a2 : Int32) (τ : St), Ru M_H_kind d Q 14 [some (.ref a0), some (.int a1), some (.int a2), none] [] τ = Ru M_H_kind d Q 15 [some (.ref a0), some (.int a1), some (.int a2), none] [.int a2] τ) ∧
    (∀ (a0 : Nat) (a1 : Int32) (a2 : Int32) (x0 : Int32) (τ : St), Ru M_H_kind d Q 15 [some (.ref a0), some (.int a1), some (.int a2), none] [.int x0] τ = Ru M_H_kind d Q 18 [some (.ref a0), some (.int a1), some (.int a2), none] [.int 9999, .int x0] τ) ∧
    (∀ (a0 : Nat) (a1 : Int32) (a2 : Int32) (x0 : Int32) (x1 : Int32) (τ : St), Ru M_H_kind d Q 18 [some (.ref a0), some (.int a1), some (.int a2), none] [.int x0, .int x1] τ = ((x1 ≤ x0 → Ru M_H_kind d Q 23 [some (.ref a0), some (.int a1), some (.int a2), none] [] τ) ∧ (¬ x1 ≤ x0 → Ru M_H_kind d Q 21 [some (.ref a0), some (.int a1), some (.int a2), none] [] τ))) ∧
    (∀ (a0 : Nat) (a1 : Int32) (a2 : Int32) (τ : St), Ru M_H_kind d Q 21 [some (.ref a0), some (.int a1), some (.int a2), none] [] τ = Ru M_H_kind d Q 22 [some (.ref a0), some (.int a1), some (.int a2), none] [.int (-1)] τ) ∧
    (∀ (a0 : Nat) (a1 : Int32) (a2 : Int32) (x0 : Int32) (τ : St), Ru M_H_kind d Q 22 [some (.ref a0), some (.int a1), some (.int a2), none] [.int x0] τ = Q (some (.int x0)) τ) ∧
    (∀ (a0 : Nat) (a1 : Int32) (a2 : Int32) (τ : St), Ru M_H_kind d Q 23 [some (.ref a0), some (.int a1), some (.int a2), none] [] τ = Ru M_H_kind d Q 24 [some (.ref a0), some (.int a1), some (.int a2), none] [.ref a0] τ) ∧
    (∀ (a0 : Nat) (a1 : Int32) (a2 : Int32) (x0 : Nat) (τ : St), Ru M_H_kind d Q 24 [some (.ref a0), some (.int a1), some (.int a2), none] [.ref x0] τ = (isA 11 x0 ∧ Ru M_H_kind d Q 27 [some (.ref a0), some (.int a1), some (.int a2), none] [.ref (rtab x0 3)] τ)) ∧
    (∀ (a0 : Nat) (a1 : Int32) (a2 : Int32) (x0 : Nat) (τ : St), Ru M_H_kind d Q 27 [some (.ref a0), some (.int a1), some (.int a2), none] [.ref x0] τ = (isA 1 x0 ∧ Ru M_H_kind d Q 30 [some (.ref a0), some (.int a1), some (.int a2), none] [.int (τ.1 x0 5)] τ)) ∧
    (∀ (a0 : Nat) (a1 : Int32) (a2 : Int32) (x0 : Int32) (τ : St), Ru M_H_kind d Q 30 [some (.ref a0), some (.int a1), some (.int a2), none] [.int x0] τ = Ru M_H_kind d Q 31 [some (.ref a0), some (.int a1), some (.int a2), none] [.int a1, .int x0] τ) ∧
    (∀ (a0 : Nat) (a1 : Int32) (a2 : Int32) (x0 : Int32) (x1 : Int32) (τ : St), Ru M_H_kind d Q 31 [some (.ref a0), some (.int a1), some (.int a2), none] [.int x0, .int x1] τ = Ru M_H_kind d Q 32 [some (.ref a0), some (.int a1), some (.int a2), none] [.int (x1 + x0)] τ) ∧
    (∀ (a0 : Nat) (a1 : Int32) (a2 : Int32) (x0 : Int32) (τ : St), Ru M_H_kind d Q 32 [some (.ref a0), some (.int a1), some (.int a2), none] [.int x0] τ = Cl d m_H_kindOf [.int x0] τ (fun v τ' => Ru M_H_kind d Q 35 [some (.ref a0), some (.int a1), some (.int a2), none] (v.toList ++ []) τ')) ∧
    (∀ (a0 : Nat) (a1 : Int32) (a2 : Int32) (x0 : Int32) (τ : St), Ru M_H_kind d Q 35 [some (.ref a0), some (.int a1), some (.int a2), none] [.int x0] τ = Ru M_H_kind d Q 36 [some (.ref a0), some (.int a1), some (.int a2), some (.int x0)] [] τ) ∧
    (∀ (a0 : Nat) (a1 : Int32) (a2 : Int32) (a3 : Int32) (τ : St), Ru M_H_kind d Q 36 [some (.ref a0), some (.int a1), some (.int a2), some (.int a3)] [] τ = Ru M_H_kind d Q 37 [some (.ref a0), some (.int a1), some (.int a2), some (.int a3)] [.ref a0] τ) ∧
    (∀ (a0 : Nat) (a1 : Int32) (a2 : Int32) (a3 : Int32) (x0 : Nat) (τ : St), Ru M_H_kind d Q 37 [some (.ref a0), some (.int a1), some (.int a2), some (.int a3)] [.ref x0] τ = (isA 11 x0 ∧ Ru M_H_kind d Q 40 [some (.ref a0), some (.int a1), some (.int a2), some (.int a3)] [.ref (rtab x0 1)] τ)) ∧
    (∀ (a0 : Nat) (a1 : Int32) (a2 : Int32) (a3 : Int32) (x0 : Nat) (τ : St), Ru M_H_kind d Q 40 [some (.ref a0), some (.int a1), some (.int a2), some (.int a3)] [.ref x0] τ = Ru M_H_kind d Q 41 [some (.ref a0), some (.int a1), some (.int a2), some (.int a3)] [.int a2, .ref x0] τ) ∧
    (∀ (a0 : Nat) (a1 : Int32) (a2 : Int32) (a3 : Int32) (x0 : Int32) (x1 : Nat) (τ : St), Ru M_H_kind d Q 41 [some (.ref a0), some (.int a1), some (.int a2), some (.int a3)] [.int x0, .ref x1] τ = Ru M_H_kind d Q 42 [some (.ref a0), some (.int a1), some (.int a2), some (.int a3)] [.int a3, .int x0, .ref x1] τ) ∧
    (∀ (a0 : Nat) (a1 : Int32) (a2 : Int32) (a3 : Int32) (x0 : Int32) (x1 : Int32) (x2 : Nat) (τ : St), Ru M_H_kind d Q 42 [some (.ref a0), some (.int a1), some (.int a2), some (.int a3)] [.int x0, .int x1, .ref x2] τ = Cl d m_H_noiseOf [.int x1, .int x0] τ (fun v τ' => Ru M_H_kind d Q 45 [some (.ref a0), some (.int a1), some (.int a2), some (.int a3)] (v.toList ++ [.ref x2]) τ')) ∧
    (∀ (a0 : Nat) (a1 : Int32) (a2 : Int32) (a3 : Int32) (x0 : Int32) (x1 : Nat) (τ : St), Ru M_H_kind d Q 45 [some (.ref a0), some (.int a1), some (.int a2), some (.int a3)] [.int x0, .ref x1] τ = Ru M_H_kind d Q 46 [some (.ref a0), some (.int a1), some (.int a2), some (.int a3)] [.long x0.toInt64, .ref x1] τ) ∧
    (∀ (a0 : Nat) (a1 : Int32) (a2 : Int32) (a3 : Int32) (x0 : Int64) (x1 : Nat) (τ : St), Ru M_H_kind d Q 46 [some (.ref a0), some (.int a1), some (.int a2), some (.int a3)] [.long x0, .ref x1] τ = (isA 4 x1 ∧ Cl d m_Row_only [.ref x1, .long x0] τ (fun v τ' => Ru M_H_kind d Q 49 [some (.ref a0), some (.int a1), some (.int a2), some (.int a3)] (v.toList ++ []) τ'))) ∧
    (∀ (a0 : Nat) (a1 : Int32) (a2 : Int32) (a3 : Int32) (τ : St), Ru M_H_kind d Q 49 [some (.ref a0), some (.int a1), some (.int a2), some (.int a3)] [] τ = Ru M_H_kind d Q 50 [some (.ref a0), some (.int a1), some (.int a2), some (.int a3)] [.int a3] τ) ∧
    (∀ (a0 : Nat) (a1 : Int32) (a2 : Int32) (a3 : Int32) (x0 : Int32) (τ : St), Ru M_H_kind d Q 50 [some (.ref a0), some (.int a1), some (.int a2), some (.int a3)] [.int x0] τ = Q (some (.int x0)) τ) := ⟨
  fun _ _ _ _ => (R_at ok_H_kind rfl).trans (e_ild rfl),
  fun _ _ _ _ _ => (R_at ok_H_kind rfl).trans e_if,
  fun _ _ _ _ => (R_at ok_H_kind rfl).trans (e_ild rfl),
  fun _ _ _ _ _ => (R_at ok_H_kind rfl).trans e_push,
  fun _ _ _ _ _ _ => (R_at ok_H_kind rfl).trans e_ic,
  fun _ _ _ _ => (R_at ok_H_kind rfl).trans (e_ild rfl),
  fun _ _ _ _ _ => (R_at ok_H_kind rfl).trans e_if,
  fun _ _ _ _ => (R_at ok_H_kind rfl).trans (e_ild rfl),
  fun _ _ _ _ _ => (R_at ok_H_kind rfl).trans e_push,
  fun _ _ _ _ _ _ => (R_at ok_H_kind rfl).trans e_ic,
  fun _ _ _ _ => (R_at ok_H_kind rfl).trans e_push,
  fun _ _ _ _ _ => (R_at ok_H_kind rfl).trans e_iret,
  fun _ _ _ _ => (R_at ok_H_kind rfl).trans (e_ald rfl),
  fun _ _ _ _ _ => (R_at ok_H_kind rfl).trans e_gR,
  fun _ _ _ _ _ => (R_at ok_H_kind rfl).trans e_gI,
  fun _ _ _ _ _ => (R_at ok_H_kind rfl).trans (e_ild rfl),
  fun _ _ _ _ _ _ => (R_at ok_H_kind rfl).trans e_bin,
  fun _ _ _ x0 _ => (R_at ok_H_kind rfl).trans (e_cs [.int x0] rfl rfl rfl),
  fun _ _ _ _ _ => (R_at ok_H_kind rfl).trans e_ist,
  fun _ _ _ _ _ => (R_at ok_H_kind rfl).trans (e_ald rfl),
  fun _ _ _ _ _ _ => (R_at ok_H_kind rfl).trans e_gR,
  fun _ _ _ _ _ _ => (R_at ok_H_kind rfl).trans (e_ild rfl),
  fun _ _ _ _ _ _ _ => (R_at ok_H_kind rfl).trans (e_ild rfl),
  fun _ _ _ _ x0 x1 _ _ => (R_at ok_H_kind rfl).trans (e_cs [.int x1, .int x0] rfl rfl rfl),
  fun _ _ _ _ _ _ _ => (R_at ok_H_kind rfl).trans e_il,
  fun _ _ _ _ x0 _ _ => (R_at ok_H_kind rfl).trans (e_cv [.long x0] rfl rfl rfl),
  fun _ _ _ _ _ => (R_at ok_H_kind rfl).trans (e_ild rfl),
  fun _ _ _ _ _ _ => (R_at ok_H_kind rfl).trans e_iret⟩
set_option maxHeartbeats 4000000 in
theorem N_H_quiet (d : Nat) (Q : Qt) : ∀ (x0 : Nat) (x1 : Int32) (τ : St), Cl (d + 1) m_H_quiet [.ref x0, .int x1] τ Q = Ru M_H_quiet d Q 0 [some (.ref x0), some (.int x1), none, none] [] τ := fun _ _ _ => propext ⟨fun h => h.2, fun h => ⟨Nat.le_of_ble_eq_true rfl, h⟩⟩
set_option maxHeartbeats 4000000 in
theorem E_H_quiet (d : Nat) (Q : Qt) :
    (∀ (a0 : Nat) (a1 : Int32) (τ : St), Ru M_H_quiet d Q 0 [some (.ref a0), some (.int a1), none, none] [] τ = Ru M_H_quiet d Q 1 [some (.ref a0), some (.int a1), none, none] [.int a1] τ) ∧
    (∀ (a0 : Nat) (a1 : Int32) (x0 : Int32) (τ : St), Ru M_H_quiet d Q 1 [some (.ref a0), some (.int a1), none, none] [.int x0] τ = ((x0 < 0 → Ru M_H_quiet d Q 10 [some (.ref a0), some (.int a1), none, none] [] τ) ∧ (¬ x0 < 0 → Ru M_H_quiet d Q 4 [some (.ref a0), some (.int a1), none, none] [] τ))) ∧
    (∀ (a0 : Nat) (a1 : Int32) (τ : St), Ru M_H_quiet d Q 4 [some (.ref a0), some (.int a1), none, none] [] τ = Ru M_H_quiet d Q 5 [some (.ref a0), some (.int a1), none, none] [.int a1] τ) ∧
    (∀ (a0 : Nat) (a1 : Int32) (x0 : Int32) (τ : St), Ru M_H_quiet d Q 5 [some (.ref a0), some (.int a1), none, none] [.int x0] τ = Ru M_H_quiet d Q 7 [some (.ref a0), some (.int a1), none, none] [.int 99, .int x0] τ) ∧
    (∀ (a0 : Nat) (a1 : Int32) (x0 : Int32) (x1 : Int32) (τ : St), Ru M_H_quiet d Q 7 [some (.ref a0), some (.int a1), none, none] [.int x0, .int x1] τ = ((x1 ≤ x0 → Ru M_H_quiet d Q 12 [some (.ref a0), some (.int a1), none, none] [] τ) ∧ (¬ x1 ≤ x0 → Ru M_H_quiet d Q 10 [some (.ref a0), some (.int a1), none, none] [] τ))) ∧
    (∀ (a0 : Nat) (a1 : Int32) (τ : St), Ru M_H_quiet d Q 10 [some (.ref a0), some (.int a1), none, none] [] τ = Ru M_H_quiet d Q 11 [some (.ref a0), some (.int a1), none, none] [.int (-1)] τ) ∧
    (∀ (a0 : Nat) (a1 : Int32) (x0 : Int32) (τ : St), Ru M_H_quiet d Q 11 [some (.ref a0), some (.int a1), none, none] [.int x0] τ = Q (some (.int x0)) τ) ∧
    (∀ (a0 : Nat) (a1 : Int32) (τ : St), Ru M_H_quiet d Q 12 [some (.ref a0), some (.int a1), none, none] [] τ = Ru M_H_quiet d Q 13 [some (.ref a0), some (.int a1), none, none] [.ref a0] τ) ∧
    (∀ (a0 : Nat) (a1 : Int32) (x0 : Nat) (τ : St), Ru M_H_quiet d Q 13 [some (.ref a0), some (.int a1), none, none] [.ref x0] τ = (isA 11 x0 ∧ Ru M_H_quiet d Q 16 [some (.ref a0), some (.int a1), none, none] [.ref (rtab x0 3)] τ)) ∧
    (∀ (a0 : Nat) (a1 : Int32) (x0 : Nat) (τ : St), Ru M_H_quiet d Q 16 [some (.ref a0), some (.int a1), none, none] [.ref x0] τ = (isA 1 x0 ∧ Ru M_H_quiet d Q 19 [some (.ref a0), some (.int a1), none, none] [.int (τ.1 x0 5)] τ)) ∧
    (∀ (a0 : Nat) (a1 : Int32) (x0 : Int32) (τ : St), Ru M_H_quiet d Q 19 [some (.ref a0), some (.int a1), none, none] [.int x0] τ = Ru M_H_quiet d Q 20 [some (.ref a0), some (.int a1), none, none] [.int a1, .int x0] τ) ∧
    (∀ (a0 : Nat) (a1 : Int32) (x0 : Int32) (x1 : Int32) (τ : St), Ru M_H_quiet d Q 20 [some (.ref a0), some (.int a1), none, none] [.int x0, .int x1] τ = Ru M_H_quiet d Q 21 [some (.ref a0), some (.int a1), none, none] [.int (x1 + x0)] τ) ∧
    (∀ (a0 : Nat) (a1 : Int32) (x0 : Int32) (τ : St), Ru M_H_quiet d Q 21 [some (.ref a0), some (.int a1), none, none] [.int x0] τ = Cl d m_H_kindOf [.int x0] τ (fun v τ' => Ru M_H_quiet d Q 24 [some (.ref a0), some (.int a1), none, none] (v.toList ++ []) τ')) ∧
    (∀ (a0 : Nat) (a1 : Int32) (x0 : Int32) (τ : St), Ru M_H_quiet d Q 24 [some (.ref a0), some (.int a1), none, none] [.int x0] τ = Ru M_H_quiet d Q 25 [some (.ref a0), some (.int a1), some (.int x0), none] [] τ) ∧
    (∀ (a0 : Nat) (a1 : Int32) (a2 : Int32) (τ : St), Ru M_H_quiet d Q 25 [some (.ref a0), some (.int a1), some (.int a2), none] [] τ = Ru M_H_quiet d Q 26 [some (.ref a0), some (.int a1), some (.int a2), none] [.ref a0] τ) ∧
    (∀ (a0 : Nat) (a1 : Int32) (a2 : Int32) (x0 : Nat) (τ : St), Ru M_H_quiet d Q 26 [some (.ref a0), some (.int a1), some (.int a2), none] [.ref x0] τ = (isA 11 x0 ∧ Ru M_H_quiet d Q 29 [some (.ref a0), some (.int a1), some (.int a2), none] [.int (τ.1 x0 9)] τ)) ∧
    (∀ (a0 : Nat) (a1 : Int32) (a2 : Int32) (x0 : Int32) (τ : St), Ru M_H_quiet d Q 29 [some (.ref a0), some (.int a1), some (.int a2), none] [.int x0] τ = Ru M_H_quiet d Q 30 [some (.ref a0), some (.int a1), some (.int a2), some (.int x0)] [] τ) ∧
    (∀ (a0 : Nat) (a1 : Int32) (a2 : Int32) (a3 : Int32) (τ : St), Ru M_H_quiet d Q 30 [some (.ref a0), some (.int a1), some (.int a2), some (.int a3)] [] τ = Ru M_H_quiet d Q 31 [some (.ref a0), some (.int a1), some (.int a2), some (.int a3)] [.int a2] τ) ∧
    (∀ (a0 : Nat) (a1 : Int32) (a2 : Int32) (a3 : Int32) (x0 : Int32) (τ : St), Ru M_H_quiet d Q 31 [some (.ref a0), some (.int a1), some (.int a2), some (.int a3)] [.int x0] τ = Ru M_H_quiet d Q 32 [some (.ref a0), some (.int a1), some (.int a2), some (.int a3)] [.int 1, .int x0] τ) ∧
    (∀ (a0 : Nat) (a1 : Int32) (a2 : Int32) (a3 : Int32) (x0 : Int32) (x1 : Int32) (τ : St), Ru M_H_quiet d Q 32 [some (.ref a0), some (.int a1), some (.int a2), some (.int a3)] [.int x0, .int x1] τ = ((¬ x1 = x0 → Ru M_H_quiet d Q 47 [some (.ref a0), some (.int a1), some (.int a2), some (.int a3)] [] τ) ∧ (x1 = x0 → Ru M_H_quiet d Q 35 [some (.ref a0), some (.int a1), some (.int a2), some (.int a3)] [] τ))) ∧
    (∀ (a0 : Nat) (a1 : Int32) (a2 : Int32) (a3 : Int32) (τ : St), Ru M_H_quiet d Q 35 [some (.ref a0), some (.int a1), some (.int a2), some (.int a3)] [] τ = Ru M_H_quiet d Q 36 [some (.ref a0), some (.int a1), some (.int a2), some (.int a3)] [.ref a0] τ) ∧
    (∀ (a0 : Nat) (a1 : Int32) (a2 : Int32) (a3 : Int32) (x0 : Nat) (τ : St), Ru M_H_quiet d Q 36 [some (.ref a0), some (.int a1), some (.int a2), some (.int a3)] [.ref x0] τ = (isA 11 x0 ∧ Ru M_H_quiet d Q 39 [some (.ref a0), some (.int a1), some (.int a2), some (.int a3)] [.int (τ.1 x0 9)] τ)) ∧
    (∀ (a0 : Nat) (a1 : Int32) (a2 : Int32) (a3 : Int32) (x0 : Int32) (τ : St), Ru M_H_quiet d Q 39 [some (.ref a0), some (.int a1), some (.int a2), some (.int a3)] [.int x0] τ = Ru M_H_quiet d Q 40 [some (.ref a0), some (.int a1), some (.int a2), some (.int a3)] [.int 2, .int x0] τ) ∧
    (∀ (a0 : Nat) (a1 : Int32) (a2 : Int32) (a3 : Int32) (x0 : Int32) (x1 : Int32) (τ : St), Ru M_H_quiet d Q 40 [some (.ref a0), some (.int a1), some (.int a2), some (.int a3)] [.int x0, .int x1] τ = Ru M_H_quiet d Q 41 [some (.ref a0), some (.int a1), some (.int a2), some (.int a3)] [.int (x1 * x0)] τ) ∧
    (∀ (a0 : Nat) (a1 : Int32) (a2 : Int32) (a3 : Int32) (x0 : Int32) (τ : St), Ru M_H_quiet d Q 41 [some (.ref a0), some (.int a1), some (.int a2), some (.int a3)] [.int x0] τ = Ru M_H_quiet d Q 42 [some (.ref a0), some (.int a1), some (.int a2), some (.int a3)] [.int 1, .int x0] τ) ∧
    (∀ (a0 : Nat) (a1 : Int32) (a2 : Int32) (a3 : Int32) (x0 : Int32) (x1 : Int32) (τ : St), Ru M_H_quiet d Q 42 [some (.ref a0), some (.int a1), some (.int a2), some (.int a3)] [.int x0, .int x1] τ = Ru M_H_quiet d Q 43 [some (.ref a0), some (.int a1), some (.int a2), some (.int a3)] [.int (x1 + x0)] τ) ∧
    (∀ (a0 : Nat) (a1 : Int32) (a2 : Int32) (a3 : Int32) (x0 : Int32) (τ : St), Ru M_H_quiet d Q 43 [some (.ref a0), some (.int a1), some (.int a2), some (.int a3)] [.int x0] τ = Ru M_H_quiet d Q 44 [some (.ref a0), some (.int a1), some (.int a2), some (.int x0)] [] τ) ∧
    (∀ (a0 : Nat) (a1 : Int32) (a2 : Int32) (a3 : Int32) (τ : St), Ru M_H_quiet d Q 44 [some (.ref a0), some (.int a1), some (.int a2), some (.int a3)] [] τ = Ru M_H_quiet d Q 59 [some (.ref a0), some (.int a1), some (.int a2), some (.int a3)] [] τ) ∧
    (∀ (a0 : Nat) (a1 : Int32) (a2 : Int32) (a3 : Int32) (τ : St), Ru M_H_quiet d Q 47 [some (.ref a0), some (.int a1), some (.int a2), some (.int a3)] [] τ = Ru M_H_quiet d Q 48 [some (.ref a0), some (.int a1), some (.int a2), some (.int a3)] [.int a2] τ) ∧
    (∀ (a0 : Nat) (a1 : Int32) (a2 : Int32) (a3 : Int32) (x0 : Int32) (τ : St), Ru M_H_quiet d Q 48 [some (.ref a0), some (.int a1), some (.int a2), some (.int a3)] [.int x0] τ = Ru M_H_quiet d Q 49 [some (.ref a0), some (.int a1), some (.int a2), some (.int a3)] [.int 2, .int x0] τ) ∧
    (∀ (a0 : Nat) (a1 : Int32) (a2 : Int32) (a3 : Int32) (x0 : Int32) (x1 : Int32) (τ : St), Ru M_H_quiet d Q 49 [some (.ref a0), some (.int a1), some (.int a2), some (.int a3)] [.int x0, .int x1] τ = ((¬ x1 = x0 → Ru M_H_quiet d Q 59 [some (.ref a0), some (.int a1), some (.int a2), some (.int a3)] [] τ) ∧ (x1 = x0 → Ru M_H_quiet d Q 52 [some (.ref a0), some (.int a1), some (.int a2), some (.int a3)] [] τ))) ∧
    (∀ (a0 : Nat) (a1 : Int32) (a2 : Int32) (a3 : Int32) (τ : St), Ru M_H_quiet d Q 52 [some (.ref a0), some (.int a1), some (.int a2), some (.int a3)] [] τ = Ru M_H_quiet d Q 53 [some (.ref a0), some (.int a1), some (.int a2), some (.int a3)] [.ref a0] τ) ∧
    (∀ (a0 : Nat) (a1 : Int32) (a2 : Int32) (a3 : Int32) (x0 : Nat) (τ : St), Ru M_H_quiet d Q 53 [some (.ref a0), some (.int a1), some (.int a2), some (.int a3)] [.ref x0] τ = (isA 11 x0 ∧ Ru M_H_quiet d Q 56 [some (.ref a0), some (.int a1), some (.int a2), some (.int a3)] [.int (τ.1 x0 9)] τ)) ∧
    (∀ (a0 : Nat) (a1 : Int32) (a2 : Int32) (a3 : Int32) (x0 : Int32) (τ : St), Ru M_H_quiet d Q 56 [some (.ref a0), some (.int a1), some (.int a2), some (.int a3)] [.int x0] τ = Ru M_H_quiet d Q 57 [some (.ref a0), some (.int a1), some (.int a2), some (.int a3)] [.int 2, .int x0] τ) ∧
    (∀ (a0 : Nat) (a1 : Int32) (a2 : Int32) (a3 : Int32) (x0 : Int32) (x1 : Int32) (τ : St), Ru M_H_quiet d Q 57 [some (.ref a0), some (.int a1), some (.int a2), some (.int a3)] [.int x0, .int x1] τ = (¬ x0 = 0 ∧ Ru M_H_quiet d Q 58 [some (.ref a0), some (.int a1), some (.int a2), some (.int a3)] [.int (x1 / x0)] τ)) ∧
    (∀ (a0 : Nat) (a1 : Int32) (a2 : Int32) (a3 : Int32) (x0 : Int32) (τ : St), Ru M_H_quiet d Q 58 [some (.ref a0), some (.int a1), some (.int a2), some (.int a3)] [.int x0] τ = Ru M_H_quiet d Q 59 [some (.ref a0), some (.int a1), some (.int a2), some (.int x0)] [] τ) ∧
    (∀ (a0 : Nat) (a1 : Int32) (a2 : Int32) (a3 : Int32) (τ : St), Ru M_H_quiet d Q 59 [some (.ref a0), some (.int a1), some (.int a2), some (.int a3)] [] τ = Ru M_H_quiet d Q 62 [some (.ref a0), some (.int a1), some (.int a2), some (.int a3)] [.int 9999] τ) ∧
    (∀ (a0 : Nat) (a1 : Int32) (a2 : Int32) (a3 : Int32) (x0 : Int32) (τ : St), Ru M_H_quiet d Q 62 [some (.ref a0), some (.int a1), some (.int a2), some (.int a3)] [.int x0] τ = Ru M_H_quiet d Q 63 [some (.ref a0), some (.int a1), some (.int a2), some (.int a3)] [.int a3, .int x0] τ) ∧
    (∀ (a0 : Nat) (a1 : Int32) (a2 : Int32) (a3 : Int32) (x0 : Int32) (x1 : Int32) (τ : St), Ru M_H_quiet d Q 63 [some (.ref a0), some (.int a1), some (.int a2), some (.int a3)] [.int x0, .int x1] τ = Ru M_H_quiet d Q 65 [some (.ref a0), some (.int a1), some (.int a2), some (.int a3)] [.int 10, .int x0, .int x1] τ) ∧
    (∀ (a0 : Nat) (a1 : Int32) (a2 : Int32) (a3 : Int32) (x0 : Int32) (x1 : Int32) (x2 : Int32) (τ : St), Ru M_H_quiet d Q 65 [some (.ref a0), some (.int a1), some (.int a2), some (.int a3)] [.int x0, .int x1, .int x2] τ = Ru M_H_quiet d Q 66 [some (.ref a0), some (.int a1), some (.int a2), some (.int a3)] [.int (x1 * x0), .int x2] τ) ∧
    (∀ (a0 : Nat) (a1 : Int32) (a2 : Int32) (a3 : Int32) (x0 : Int32) (x1 : Int32) (τ : St), Ru M_H_quiet d Q 66 [some (.ref a0), some (.int a1), some (.int a2), some (.int a3)] [.int x0, .int x1] τ = Ru M_H_quiet d Q 68 [some (.ref a0), some (.int a1), some (.int a2), some (.int a3)] [.int 9, .int x0, .int x1] τ) ∧
    (∀ (a0 : Nat) (a1 : Int32) (a2 : Int32) (a3 : Int32) (x0 : Int32) (x1 : Int32) (x2 : Int32) (τ : St), Ru M_H_quiet d Q 68 [some (.ref a0), some (.int a1), some (.int a2), some (.int a3)] [.int x0, .int x1, .int x2] τ = Ru M_H_quiet d Q 69 [some (.ref a0), some (.int a1), some (.int a2), some (.int a3)] [.int (x1 + x0), .int x2] τ) ∧
    (∀ (a0 : Nat) (a1 : Int32) (a2 : Int32) (a3 : Int32) (x0 : Int32) (x1 : Int32) (τ : St), Ru M_H_quiet d Q 69 [some (.ref a0), some (.int a1), some (.int a2), some (.int a3)] [.int x0, .int x1] τ = Ru M_H_quiet d Q 72 [some (.ref a0), some (.int a1), some (.int a2), some (.int a3)] [.int (if x0 < x1 then x0 else x1)] τ) ∧
    (∀ (a0 : Nat) (a1 : Int32) (a2 : Int32) (a3 : Int32) (x0 : Int32) (τ : St), Ru M_H_quiet d Q 72 [some (.ref a0), some (.int a1), some (.int a2), some (.int a3)] [.int x0] τ = Q (some (.int x0)) τ) := ⟨
  fun _ _ _ => (R_at ok_H_quiet rfl).trans (e_ild rfl),
  fun _ _ _ _ => (R_at ok_H_quiet rfl).trans e_if,
  fun _ _ _ => (R_at ok_H_quiet rfl).trans (e_ild rfl),
  fun _ _ _ _ => (R_at ok_H_quiet rfl).trans e_push,
  fun _ _ _ _ _ => (R_at ok_H_quiet rfl).trans e_ic,
  fun _ _ _ => (R_at ok_H_quiet rfl).trans e_push,
  fun _ _ _ _ => (R_at ok_H_quiet rfl).trans e_iret,
  fun _ _ _ => (R_at ok_H_quiet rfl).trans (e_ald rfl),
  fun _ _ _ _ => (R_at ok_H_quiet rfl).trans e_gR,
  fun _ _ _ _ => (R_at ok_H_quiet rfl).trans e_gI,
  fun _ _ _ _ => (R_at ok_H_quiet rfl).trans (e_ild rfl),
  fun _ _ _ _ _ => (R_at ok_H_quiet rfl).trans e_bin,
  fun _ _ x0 _ => (R_at ok_H_quiet rfl).trans (e_cs [.int x0] rfl rfl rfl),
  fun _ _ _ _ => (R_at ok_H_quiet rfl).trans e_ist,
  fun _ _ _ _ => (R_at ok_H_quiet rfl).trans (e_ald rfl),
  fun _ _ _ _ _ => (R_at ok_H_quiet rfl).trans e_gI,
  fun _ _ _ _ _ => (R_at ok_H_quiet rfl).trans e_ist,
  fun _ _ _ _ _ => (R_at ok_H_quiet rfl).trans (e_ild rfl),
  fun _ _ _ _ _ _ => (R_at ok_H_quiet rfl).trans e_push,
  fun _ _ _ _ _ _ _ => (R_at ok_H_quiet rfl).trans e_icn,
  fun _ _ _ _ _ => (R_at ok_H_quiet rfl).trans (e_ald rfl),
  fun _ _ _ _ _ _ => (R_at ok_H_quiet rfl).trans e_gI,
  fun _ _ _ _ _ _ => (R_at ok_H_quiet rfl).trans e_push,
  fun _ _ _ _ _ _ _ => (R_at ok_H_quiet rfl).trans e_bin,
  fun _ _ _ _ _ _ => (R_at ok_H_quiet rfl).trans e_push,
  fun _ _ _ _ _ _ _ => (R_at ok_H_quiet rfl).trans e_bin,
  fun _ _ _ _ _ _ => (R_at ok_H_quiet rfl).trans e_ist,
  fun _ _ _ _ _ => (R_at ok_H_quiet rfl).trans e_goto,
  fun _ _ _ _ _ => (R_at ok_H_quiet rfl).trans (e_ild rfl),
  fun _ _ _ _ _ _ => (R_at ok_H_quiet rfl).trans e_push,
  fun _ _ _ _ _ _ _ => (R_at ok_H_quiet rfl).trans e_icn,
  fun _ _ _ _ _ => (R_at ok_H_quiet rfl).trans (e_ald rfl),
  fun _ _ _ _ _ _ => (R_at ok_H_quiet rfl).trans e_gI,
  fun _ _ _ _ _ _ => (R_at ok_H_quiet rfl).trans e_push,
  fun _ _ _ _ _ _ _ => (R_at ok_H_quiet rfl).trans e_binz,
  fun _ _ _ _ _ _ => (R_at ok_H_quiet rfl).trans e_ist,
  fun _ _ _ _ _ => (R_at ok_H_quiet rfl).trans e_push,
  fun _ _ _ _ _ _ => (R_at ok_H_quiet rfl).trans (e_ild rfl),
  fun _ _ _ _ _ _ _ => (R_at ok_H_quiet rfl).trans e_push,
  fun _ _ _ _ _ _ _ _ => (R_at ok_H_quiet rfl).trans e_bin,
  fun _ _ _ _ _ _ _ => (R_at ok_H_quiet rfl).trans e_push,
  fun _ _ _ _ _ _ _ _ => (R_at ok_H_quiet rfl).trans e_bin,
  fun _ _ _ _ _ _ _ => (R_at ok_H_quiet rfl).trans (e_mm rfl),
  fun _ _ _ _ _ _ => (R_at ok_H_quiet rfl).trans e_iret⟩
set_option maxHeartbeats 4000000 in
theorem N_H_night (d : Nat) (Q : Qt) : ∀ (x0 : Nat) (x1 : Int32) (x2 : Int32) (x3 : Int32) (τ : St), Cl (d + 1) m_H_night [.ref x0, .int x1, .int x2, .int x3] τ Q = Ru M_H_night d Q 0 [some (.ref x0), some (.int x1), some (.int x2), some (.int x3), none, none, none, none, none, none] [] τ := fun _ _ _ _ _ => propext ⟨fun h => h.2, fun h => ⟨Nat.le_of_ble_eq_true rfl, h⟩⟩
set_option maxHeartbeats 4000000 in
theorem E_H_night (d : Nat) (Q : Qt) :
    (∀ (a0 : Nat) (a1 : Int32) (a2 : Int32) (a3 : Int32) (τ : St), Ru M_H_night d Q 0 [some (.ref a0), some (.int a1), some (.int a2), some (.int a3), none, none, none, none, none, none] [] τ = Ru M_H_night d Q 1 [some (.ref a0), some (.int a1), some (.int a2), some (.int a3), none, none, none, none, none, none] [.ref a0] τ) ∧
    (∀ (a0 : Nat) (a1 : Int32) (a2 : Int32) (a3 : Int32) (x0 : Nat) (τ : St), Ru M_H_night d Q 1 [some (.ref a0), some (.int a1), some (.int a2), some (.int a3), none, none, none, none, none, none] [.ref x0] τ = Ru M_H_night d Q 2 [some (.ref a0), some (.int a1), some (.int a2), some (.int a3), none, none, none, none, none, none] [.int a1, .ref x0] τ) ∧
    (∀ (a0 : Nat) (a1 : Int32) (a2 : Int32) (a3 : Int32) (x0 : Int32) (x1 : Nat) (τ : St), Ru M_H_night d Q 2 [some (.ref a0), some (.int a1), some (.int a2), some (.int a3), none, none, none, none, none, none] [.int x0, .ref x1] τ = Ru M_H_night d Q 3 [some (.ref a0), some (.int a1), some (.int a2), some (.int a3), none, none, none, none, none, none] [.int a2, .int x0, .ref x1] τ) ∧
    (∀ (a0 : Nat) (a1 : Int32) (a2 : Int32) (a3 : Int32) (x0 : Int32) (x1 : Int32) (x2 : Nat) (τ : St), Ru M_H_night d Q 3 [some (.ref a0), some (.int a1), some (.int a2), some (.int a3), none, none, none, none, none, none] [.int x0, .int x1, .ref x2] τ = Ru M_H_night d Q 4 [some (.ref a0), some (.int a1), some (.int a2), some (.int a3), none, none, none, none, none, none] [.int a3, .int x0, .int x1, .ref x2] τ) ∧
    (∀ (a0 : Nat) (a1 : Int32) (a2 : Int32) (a3 : Int32) (x0 : Int32) (x1 : Int32) (x2 : Int32) (x3 : Nat) (τ : St), Ru M_H_night d Q 4 [some (.ref a0), some (.int a1), some (.int a2), some (.int a3), none, none, none, none, none, none] [.int x0, .int x1, .int x2, .ref x3] τ = (isA 11 x3 ∧ Cl d m_H_whyNoWay [.ref x3, .int x2, .int x1, .int x0] τ (fun v τ' => Ru M_H_night d Q 7 [some (.ref a0), some (.int a1), some (.int a2), some (.int a3), none, none, none, none, none, none] (v.toList ++ []) τ'))) ∧
    (∀ (a0 : Nat) (a1 : Int32) (a2 : Int32) (a3 : Int32) (x0 : Int32) (τ : St), Ru M_H_night d Q 7 [some (.ref a0), some (.int a1), some (.int a2), some (.int a3), none, none, none, none, none, none] [.int x0] τ = Ru M_H_night d Q 9 [some (.ref a0), some (.int a1), some (.int a2), some (.int a3), some (.int x0), none, none, none, none, none] [] τ) ∧
    (∀ (a0 : Nat) (a1 : Int32) (a2 : Int32) (a3 : Int32) (a4 : Int32) (τ : St), Ru M_H_night d Q 9 [some (.ref a0), some (.int a1), some (.int a2), some (.int a3), some (.int a4), none, none, none, none, none] [] τ = Ru M_H_night d Q 11 [some (.ref a0), some (.int a1), some (.int a2), some (.int a3), some (.int a4), none, none, none, none, none] [.int a4] τ) ∧
    (∀ (a0 : Nat) (a1 : Int32) (a2 : Int32) (a3 : Int32) (a4 : Int32) (x0 : Int32) (τ : St), Ru M_H_night d Q 11 [some (.ref a0), some (.int a1), some (.int a2), some (.int a3), some (.int a4), none, none, none, none, none] [.int x0] τ = ((x0 = 0 → Ru M_H_night d Q 17 [some (.ref a0), some (.int a1), some (.int a2), some (.int a3), some (.int a4), none, none, none, none, none] [] τ) ∧ (¬ x0 = 0 → Ru M_H_night d Q 14 [some (.ref a0), some (.int a1), some (.int a2), some (.int a3), some (.int a4), none, none, none, none, none] [] τ))) ∧
    (∀ (a0 : Nat) (a1 : Int32) (a2 : Int32) (a3 : Int32) (a4 : Int32) (τ : St), Ru M_H_night d Q 14 [some (.ref a0), some (.int a1), some (.int a2), some (.int a3), some (.int a4), none, none, none, none, none] [] τ = Ru M_H_night d Q 16 [some (.ref a0), some (.int a1), some (.int a2), some (.int a3), some (.int a4), none, none, none, none, none] [.int a4] τ) ∧
    (∀ (a0 : Nat) (a1 : Int32) (a2 : Int32) (a3 : Int32) (a4 : Int32) (x0 : Int32) (τ : St), Ru M_H_night d Q 16 [some (.ref a0), some (.int a1), some (.int a2), some (.int a3), some (.int a4), none, none, none, none, none] [.int x0] τ = Q (some (.int x0)) τ) ∧
    (∀ (a0 : Nat) (a1 : Int32) (a2 : Int32) (a3 : Int32) (a4 : Int32) (τ : St), Ru M_H_night d Q 17 [some (.ref a0), some (.int a1), some (.int a2), some (.int a3), some (.int a4), none, none, none, none, none] [] τ = Ru M_H_night d Q 18 [some (.ref a0), some (.int a1), some (.int a2), some (.int a3), some (.int a4), none, none, none, none, none] [.ref a0] τ) ∧
    (∀ (a0 : Nat) (a1 : Int32) (a2 : Int32) (a3 : Int32) (a4 : Int32) (x0 : Nat) (τ : St), Ru M_H_night d Q 18 [some (.ref a0), some (.int a1), some (.int a2), some (.int a3), some (.int a4), none, none, none, none, none] [.ref x0] τ = (isA 11 x0 ∧ Ru M_H_night d Q 21 [some (.ref a0), some (.int a1), some (.int a2), some (.int a3), some (.int a4), none, none, none, none, none] [.ref (rtab x0 12)] τ)) ∧
    (∀ (a0 : Nat) (a1 : Int32) (a2 : Int32) (a3 : Int32) (a4 : Int32) (x0 : Nat) (τ : St), Ru M_H_night d Q 21 [some (.ref a0), some (.int a1), some (.int a2), some (.int a3), some (.int a4), none, none, none, none, none] [.ref x0] τ = Ru M_H_night d Q 22 [some (.ref a0), some (.int a1), some (.int a2), some (.int a3), some (.int a4), none, none, none, none, none] [.ref a0, .ref x0] τ) ∧
    (∀ (a0 : Nat) (a1 : Int32) (a2 : Int32) (a3 : Int32) (a4 : Int32) (x0 : Nat) (x1 : Nat) (τ : St), Ru M_H_night d Q 22 [some (.ref a0), some (.int a1), some (.int a2), some (.int a3), some (.int a4), none, none, none, none, none] [.ref x0, .ref x1] τ = (isA 11 x0 ∧ Ru M_H_night d Q 25 [some (.ref a0), some (.int a1), some (.int a2), some (.int a3), some (.int a4), none, none, none, none, none] [.ref (rtab x0 10), .ref x1] τ)) ∧
    (∀ (a0 : Nat) (a1 : Int32) (a2 : Int32) (a3 : Int32) (a4 : Int32) (x0 : Nat) (x1 : Nat) (τ : St), Ru M_H_night d Q 25 [some (.ref a0), some (.int a1), some (.int a2), some (.int a3), some (.int a4), none, none, none, none, none] [.ref x0, .ref x1] τ = Ru M_H_night d Q 26 [some (.ref a0), some (.int a1), some (.int a2), some (.int a3), some (.int a4), none, none, none, none, none] [.int a1, .ref x0, .ref x1] τ) ∧
    (∀ (a0 : Nat) (a1 : Int32) (a2 : Int32) (a3 : Int32) (a4 : Int32) (x0 : Int32) (x1 : Nat) (x2 : Nat) (τ : St), Ru M_H_night d Q 26 [some (.ref a0), some (.int a1), some (.int a2), some (.int a3), some (.int a4), none, none, none, none, none] [.int x0, .ref x1, .ref x2] τ = Ru M_H_night d Q 27 [some (.ref a0), some (.int a1), some (.int a2), some (.int a3), some (.int a4), none, none, none, none, none] [.ref a0, .int x0, .ref x1, .ref x2] τ) ∧
    (∀ (a0 : Nat) (a1 : Int32) (a2 : Int32) (a3 : Int32) (a4 : Int32) (x0 : Nat) (x1 : Int32) (x2 : Nat) (x3 : Nat) (τ : St), Ru M_H_night d Q 27 [some (.ref a0), some (.int a1), some (.int a2), some (.int a3), some (.int a4), none, none, none, none, none] [.ref x0, .int x1, .ref x2, .ref x3] τ = (isA 11 x0 ∧ Ru M_H_night d Q 30 [some (.ref a0), some (.int a1), some (.int a2), some (.int a3), some (.int a4), none, none, none, none, none] [.ref (rtab x0 3), .int x1, .ref x2, .ref x3] τ)) ∧
    (∀ (a0 : Nat) (a1 : Int32) (a2 : Int32) (a3 : Int32) (a4 : Int32) (x0 : Nat) (x1 : Int32) (x2 : Nat) (x3 : Nat) (τ : St), Ru M_H_night d Q 30 [some (.ref a0), some (.int a1), some (.int a2), some (.int a3), some (.int a4), none, none, none, none, none] [.ref x0, .int x1, .ref x2, .ref x3] τ = (isA 1 x0 ∧ Ru M_H_night d Q 33 [some (.ref a0), some (.int a1), some (.int a2), some (.int a3), some (.int a4), none, none, none, none, none] [.long (τ.2 x0 3), .int x1, .ref x2, .ref x3] τ)) ∧
    (∀ (a0 : Nat) (a1 : Int32) (a2 : Int32) (a3 : Int32) (a4 : Int32) (x0 : Int64) (x1 : Int32) (x2 : Nat) (x3 : Nat) (τ : St), Ru M_H_night d Q 33 [some (.ref a0), some (.int a1), some (.int a2), some (.int a3), some (.int a4), none, none, none, none, none] [.long x0, .int x1, .ref x2, .ref x3] τ = (isA 10 x3 ∧ Cl d m_Ways_start [.ref x3, .ref x2, .int x1, .long x0] τ (fun v τ' => Ru M_H_night d Q 36 [some (.ref a0), some (.int a1), some (.int a2), some (.int a3), some (.int a4), none, none, none, none, none] (v.toList ++ []) τ'))) ∧
    (∀ (a0 : Nat) (a1 : Int32) (a2 : Int32) (a3 : Int32) (a4 : Int32) (τ : St), Ru M_H_night d Q 36 [some (.ref a0), some (.int a1), some (.int a2), some (.int a3), some (.int a4), none, none, none, none, none] [] τ = Ru M_H_night d Q 37 [some (.ref a0), some (.int a1), some (.int a2), some (.int a3), some (.int a4), none, none, none, none, none] [.int (-1)] τ) ∧
    (∀ (a0 : Nat) (a1 : Int32) (a2 : Int32) (a3 : Int32) (a4 : Int32) (x0 : Int32) (τ : St), Ru M_H_night d Q 37 [some (.ref a0), some (.int a1), some (.int a2), some (.int a3), some (.int a4), none, none, none, none, none] [.int x0] τ = Ru M_H_night d Q 39 [some (.ref a0), some (.int a1), some (.int a2), some (.int a3), some (.int a4), some (.int x0), none, none, none, none] [] τ) ∧
    (∀ (a0 : Nat) (a1 : Int32) (a2 : Int32) (a3 : Int32) (a4 : Int32) (a5 : Int32) (τ : St), Ru M_H_night d Q 39 [some (.ref a0), some (.int a1), some (.int a2), some (.int a3), some (.int a4), some (.int a5), none, none, none, none] [] τ = Ru M_H_night d Q 40 [some (.ref a0), some (.int a1), some (.int a2), some (.int a3), some (.int a4), some (.int a5), none, none, none, none] [.int 0] τ) ∧
    (∀ (a0 : Nat) (a1 : Int32) (a2 : Int32) (a3 : Int32) (a4 : Int32) (a5 : Int32) (x0 : Int32) (τ : St), Ru M_H_night d Q 40 [some (.ref a0), some (.int a1), some (.int a2), some (.int a3), some (.int a4), some (.int a5), none, none, none, none] [.int x0] τ = Ru M_H_night d Q 42 [some (.ref a0), some (.int a1), some (.int a2), some (.int a3), some (.int a4), some (.int a5), some (.int x0), none, none, none] [] τ) ∧
    (∀ (a0 : Nat) (a1 : Int32) (a2 : Int32) (a3 : Int32) (a4 : Int32) (a5 : Int32) (a6 : Int32) (τ : St), Ru M_H_night d Q 42 [some (.ref a0), some (.int a1), some (.int a2), some (.int a3), some (.int a4), some (.int a5), some (.int a6), none, none, none] [] τ = Ru M_H_night d Q 43 [some (.ref a0), some (.int a1), some (.int a2), some (.int a3), some (.int a4), some (.int a5), some (.int a6), none, none, none] [.int 0] τ) ∧
    (∀ (a0 : Nat) (a1 : Int32) (a2 : Int32) (a3 : Int32) (a4 : Int32) (a5 : Int32) (a6 : Int32) (x0 : Int32) (τ : St), Ru M_H_night d Q 43 [some (.ref a0), some (.int a1), some (.int a2), some (.int a3), some (.int a4), some (.int a5), some (.int a6), none, none, none] [.int x0] τ = Rs M_H_night d Q 45 [some (.ref a0), some (.int a1), some (.int a2), some (.int a3), some (.int a4), some (.int a5), some (.int a6), some (.int x0), none, none] [] τ) ∧
    (∀ (a0 : Nat) (a1 : Int32) (a2 : Int32) (a3 : Int32) (a4 : Int32) (a5 : Int32) (a6 : Int32) (a7 : Int32) (a8 : Option Value) (a9 : Option Value) (τ : St), Ru M_H_night d Q 45 [some (.ref a0), some (.int a1), some (.int a2), some (.int a3), some (.int a4), some (.int a5), some (.int a6), some (.int a7), a8, a9] [] τ = Ru M_H_night d Q 47 [some (.ref a0), some (.int a1), some (.int a2), some (.int a3), some (.int a4), some (.int a5), some (.int a6), some (.int a7), a8, a9] [.int a7] τ) ∧
    (∀ (a0 : Nat) (a1 : Int32) (a2 : Int32) (a3 : Int32) (a4 : Int32) (a5 : Int32) (a6 : Int32) (a7 : Int32) (a8 : Option Value) (a9 : Option Value) (x0 : Int32) (τ : St), Ru M_H_night d Q 47 [some (.ref a0), some (.int a1), some (.int a2), some (.int a3), some (.int a4), some (.int a5), some (.int a6), some (.int a7), a8, a9] [.int x0] τ = Ru M_H_night d Q 48 [some (.ref a0), some (.int a1), some (.int a2), some (.int a3), some (.int a4), some (.int a5), some (.int a6), some (.int a7), a8, a9] [.int 4, .int x0] τ) ∧
    (∀ (a0 : Nat) (a1 : Int32) (a2 : Int32) (a3 : Int32) (a4 : Int32) (a5 : Int32) (a6 : Int32) (a7 : Int32) (a8 : Option Value) (a9 : Option Value) (x0 : Int32) (x1 : Int32) (τ : St), Ru M_H_night d Q 48 [some (.ref a0), some (.int a1), some (.int a2), some (.int a3), some (.int a4), some (.int a5), some (.int a6), some (.int a7), a8, a9] [.int x0, .int x1] τ = ((x0 ≤ x1 → Ru M_H_night d Q 145 [some (.ref a0), some (.int a1), some (.int a2), some (.int a3), some (.int a4), some (.int a5), some (.int a6), some (.int a7), a8, a9] [] τ) ∧ (¬ x0 ≤ x1 → Ru M_H_night d Q 51 [some (.ref a0), some (.int a1), some (.int a2), some (.int a3), some (.int a4), some (.int a5), some (.int a6), some (.int a7), a8, a9] [] τ))) ∧
    (∀ (a0 : Nat) (a1 : Int32) (a2 : Int32) (a3 : Int32) (a4 : Int32) (a5 : Int32) (a6 : Int32) (a7 : Int32) (a8 : Option Value) (a9 : Option Value) (τ : St), Ru M_H_night d Q 51 [some (.ref a0), some (.int a1), some (.int a2), some (.int a3), some (.int a4), some (.int a5), some (.int a6), some (.int a7), a8, a9] [] τ = Ru M_H_night d Q 52 [some (.ref a0), some (.int a1), some (.int a2), some (.int a3), some (.int a4), some (.int a5), some (.int a6), some (.int a7), a8, a9] [.ref a0] τ) ∧
    (∀ (a0 : Nat) (a1 : Int32) (a2 : Int32) (a3 : Int32) (a4 : Int32) (a5 : Int32) (a6 : Int32) (a7 : Int32) (a8 : Option Value) (a9 : Option Value) (x0 : Nat) (τ : St), Ru M_H_night d Q 52 [some (.ref a0), some (.int a1), some (.int a2), some (.int a3), some (.int a4), some (.int a5), some (.int a6), some (.int a7), a8, a9] [.ref x0] τ = (isA 11 x0 ∧ Ru M_H_night d Q 55 [some (.ref a0), some (.int a1), some (.int a2), some (.int a3), some (.int a4), some (.int a5), some (.int a6), some (.int a7), a8, a9] [.ref (rtab x0 3)] τ)) ∧
    (∀ (a0 : Nat) (a1 : Int32) (a2 : Int32) (a3 : Int32) (a4 : Int32) (a5 : Int32) (a6 : Int32) (a7 : Int32) (a8 : Option Value) (a9 : Option Value) (x0 : Nat) (τ : St), Ru M_H_night d Q 55 [some (.ref a0), some (.int a1), some (.int a2), some (.int a3), some (.int a4), some (.int a5), some (.int a6), some (.int a7), a8, a9] [.ref x0] τ = (isA 1 x0 ∧ Ru M_H_night d Q 58 [some (.ref a0), some (.int a1), some (.int a2), some (.int a3), some (.int a4), some (.int a5), some (.int a6), some (.int a7), a8, a9] [.int (τ.1 x0 5)] τ)) ∧
    (∀ (a0 : Nat) (a1 : Int32) (a2 : Int32) (a3 : Int32) (a4 : Int32) (a5 : Int32) (a6 : Int32) (a7 : Int32) (a8 : Option Value) (a9 : Option Value) (x0 : Int32) (τ : St), Ru M_H_night d Q 58 [some (.ref a0), some (.int a1), some (.int a2), some (.int a3), some (.int a4), some (.int a5), some (.int a6), some (.int a7), a8, a9] [.int x0] τ = Ru M_H_night d Q 60 [some (.ref a0), some (.int a1), some (.int a2), some (.int a3), some (.int a4), some (.int a5), some (.int a6), some (.int a7), a8, a9] [.int a7, .int x0] τ) ∧
    (∀ (a0 : Nat) (a1 : Int32) (a2 : Int32) (a3 : Int32) (a4 : Int32) (a5 : Int32) (a6 : Int32) (a7 : Int32) (a8 : Option Value) (a9 : Option Value) (x0 : Int32) (x1 : Int32) (τ : St), Ru M_H_night d Q 60 [some (.ref a0), some (.int a1), some (.int a2), some (.int a3), some (.int a4), some (.int a5), some (.int a6), some (.int a7), a8, a9] [.int x0, .int x1] τ = Ru M_H_night d Q 61 [some (.ref a0), some (.int a1), some (.int a2), some (.int a3), some (.int a4), some (.int a5), some (.int a6), some (.int a7), a8, a9] [.int (x1 + x0)] τ) ∧
    (∀ (a0 : Nat) (a1 : Int32) (a2 : Int32) (a3 : Int32) (a4 : Int32) (a5 : Int32) (a6 : Int32) (a7 : Int32) (a8 : Option Value) (a9 : Option Value) (x0 : Int32) (τ : St), Ru M_H_night d Q 61 [some (.ref a0), some (.int a1), some (.int a2), some (.int a3), some (.int a4), some (.int a5), some (.int a6), some (.int a7), a8, a9] [.int x0] τ = Cl d m_H_kindOf [.int x0] τ (fun v τ' => Ru M_H_night d Q 64 [some (.ref a0), some (.int a1), some (.int a2), some (.int a3), some (.int a4), some (.int a5), some (.int a6), some (.int a7), a8, a9] (v.toList ++ []) τ')) ∧
    (∀ (a0 : Nat) (a1 : Int32) (a2 : Int32) (a3 : Int32) (a4 : Int32) (a5 : Int32) (a6 : Int32) (a7 : Int32) (a8 : Option Value) (a9 : Option Value) (x0 : Int32) (τ : St), Ru M_H_night d Q 64 [some (.ref a0), some (.int a1), some (.int a2), some (.int a3), some (.int a4), some (.int a5), some (.int a6), some (.int a7), a8, a9] [.int x0] τ = Ru M_H_night d Q 66 [some (.ref a0), some (.int a1), some (.int a2), some (.int a3), some (.int a4), some (.int a5), some (.int a6), some (.int a7), some (.int x0), a9] [] τ) ∧
    (∀ (a0 : Nat) (a1 : Int32) (a2 : Int32) (a3 : Int32) (a4 : Int32) (a5 : Int32) (a6 : Int32) (a7 : Int32) (a8 : Int32) (a9 : Option Value) (τ : St), Ru M_H_night d Q 66 [some (.ref a0), some (.int a1), some (.int a2), some (.int a3), some (.int a4), some (.int a5), some (.int a6), some (.int a7), some (.int a8), a9] [] τ = Ru M_H_night d Q 67 [some (.ref a0), some (.int a1), some (.int a2), some (.int a3), some (.int a4), some (.int a5), some (.int a6), some (.int a7), some (.int a8), a9] [.ref a0] τ) ∧
    (∀ (a0 : Nat) (a1 : Int32) (a2 : Int32) (a3 : Int32) (a4 : Int32) (a5 : Int32) (a6 : Int32) (a7 : Int32) (a8 : Int32) (a9 : Option Value) (x0 : Nat) (τ : St), Ru M_H_night d Q 67 [some (.ref a0), some (.int a1), some (.int a2), some (.int a3), some (.int a4), some (.int a5), some (.int a6), some (.int a7), some (.int a8), a9] [.ref x0] τ = (isA 11 x0 ∧ Ru M_H_night d Q 70 [some (.ref a0), some (.int a1), some (.int a2), some (.int a3), some (.int a4), some (.int a5), some (.int a6), some (.int a7), some (.int a8), a9] [.ref (rtab x0 12)] τ)) ∧
    (∀ (a0 : Nat) (a1 : Int32) (a2 : Int32) (a3 : Int32) (a4 : Int32) (a5 : Int32) (a6 : Int32) (a7 : Int32) (a8 : Int32) (a9 : Option Value) (x0 : Nat) (τ : St), Ru M_H_night d Q 70 [some (.ref a0), some (.int a1), some (.int a2), some (.int a3), some (.int a4), some (.int a5), some (.int a6), some (.int a7), some (.int a8), a9] [.ref x0] τ = Ru M_H_night d Q 71 [some (.ref a0), some (.int a1), some (.int a2), some (.int a3), some (.int a4), some (.int a5), some (.int a6), some (.int a7), some (.int a8), a9] [.int 0, .ref x0] τ) ∧
    (∀ (a0 : Nat) (a1 : Int32) (a2 : Int32) (a3 : Int32) (a4 : Int32) (a5 : Int32) (a6 : Int32) (a7 : Int32) (a8 : Int32) (a9 : Option Value) (x0 : Int32) (x1 : Nat) (τ : St), Ru M_H_night d Q 71 [some (.ref a0), some (.int a1), some (.int a2), some (.int a3), some (.int a4), some (.int a5), some (.int a6), some (.int a7), some (.int a8), a9] [.int x0, .ref x1] τ = Ru M_H_night d Q 73 [some (.ref a0), some (.int a1), some (.int a2), some (.int a3), some (.int a4), some (.int a5), some (.int a6), some (.int a7), some (.int a8), a9] [.int a8, .int x0, .ref x1] τ) ∧
    (∀ (a0 : Nat) (a1 : Int32) (a2 : Int32) (a3 : Int32) (a4 : Int32) (a5 : Int32) (a6 : Int32) (a7 : Int32) (a8 : Int32) (a9 : Option Value) (x0 : Int32) (x1 : Int32) (x2 : Nat) (τ : St), Ru M_H_night d Q 73 [some (.ref a0), some (.int a1), some (.int a2), some (.int a3), some (.int a4), some (.int a5), some (.int a6), some (.int a7), some (.int a8), a9] [.int x0, .int x1, .ref x2] τ = (isA 10 x2 ∧ Cl d m_Ways_turnTo [.ref x2, .int x1, .int x0] τ (fun v τ' => Ru M_H_night d Q 76 [some (.ref a0), some (.int a1), some (.int a2), some (.int a3), some (.int a4), some (.int a5), some (.int a6), some (.int a7), some (.int a8), a9] (v.toList ++ []) τ'))) ∧
    (∀ (a0 : Nat) (a1 : Int32) (a2 : Int32) (a3 : Int32) (a4 : Int32) (a5 : Int32) (a6 : Int32) (a7 : Int32) (a8 : Int32) (a9 : Option Value) (τ : St), Ru M_H_night d Q 76 [some (.ref a0), some (.int a1), some (.int a2), some (.int a3), some (.int a4), some (.int a5), some (.int a6), some (.int a7), some (.int a8), a9] [] τ = Ru M_H_night d Q 77 [some (.ref a0), some (.int a1), some (.int a2), some (.int a3), some (.int a4), some (.int a5), some (.int a6), some (.int a7), some (.int a8), a9] [.ref a0] τ) ∧
    (∀ (a0 : Nat) (a1 : Int32) (a2 : Int32) (a3 : Int32) (a4 : Int32) (a5 : Int32) (a6 : Int32) (a7 : Int32) (a8 : Int32) (a9 : Option Value) (x0 : Nat) (τ : St), Ru M_H_night d Q 77 [some (.ref a0), some (.int a1), some (.int a2), some (.int a3), some (.int a4), some (.int a5), some (.int a6), some (.int a7), some (.int a8), a9] [.ref x0] τ = (isA 11 x0 ∧ Ru M_H_night d Q 80 [some (.ref a0), some (.int a1), some (.int a2), some (.int a3), some (.int a4), some (.int a5), some (.int a6), some (.int a7), some (.int a8), a9] [.ref (rtab x0 12)] τ)) ∧
    (∀ (a0 : Nat) (a1 : Int32) (a2 : Int32) (a3 : Int32) (a4 : Int32) (a5 : Int32) (a6 : Int32) (a7 : Int32) (a8 : Int32) (a9 : Option Value) (x0 : Nat) (τ : St), Ru M_H_night d Q 80 [some (.ref a0), some (.int a1), some (.int a2), some (.int a3), some (.int a4), some (.int a5), some (.int a6), some (.int a7), some (.int a8), a9] [.ref x0] τ = Ru M_H_night d Q 81 [some (.ref a0), some (.int a1), some (.int a2), some (.int a3), some (.int a4), some (.int a5), some (.int a6), some (.int a7), some (.int a8), a9] [.int a3, .ref x0] τ) ∧
    (∀ (a0 : Nat) (a1 : Int32) (a2 : Int32) (a3 : Int32) (a4 : Int32) (a5 : Int32) (a6 : Int32) (a7 : Int32) (a8 : Int32) (a9 : Option Value) (x0 : Int32) (x1 : Nat) (τ : St), Ru M_H_night d Q 81 [some (.ref a0), some (.int a1), some (.int a2), some (.int a3), some (.int a4), some (.int a5), some (.int a6), some (.int a7), some (.int a8), a9] [.int x0, .ref x1] τ = Ru M_H_night d Q 84 [some (.ref a0), some (.int a1), some (.int a2), some (.int a3), some (.int a4), some (.int a5), some (.int a6), some (.int a7), some (.int a8), a9] [.int 1498, .int x0, .ref x1] τ) ∧
    (∀ (a0 : Nat) (a1 : Int32) (a2 : Int32) (a3 : Int32) (a4 : Int32) (a5 : Int32) (a6 : Int32) (a7 : Int32) (a8 : Int32) (a9 : Option Value) (x0 : Int32) (x1 : Int32) (x2 : Nat) (τ : St), Ru M_H_night d Q 84 [some (.ref a0), some (.int a1), some (.int a2), some (.int a3), some (.int a4), some (.int a5), some (.int a6), some (.int a7), some (.int a8), a9] [.int x0, .int x1, .ref x2] τ = Ru M_H_night d Q 86 [some (.ref a0), some (.int a1), some (.int a2), some (.int a3), some (.int a4), some (.int a5), some (.int a6), some (.int a7), some (.int a8), a9] [.int 64, .int x0, .int x1, .ref x2] τ) ∧
    (∀ (a0 : Nat) (a1 : Int32) (a2 : Int32) (a3 : Int32) (a4 : Int32) (a5 : Int32) (a6 : Int32) (a7 : Int32) (a8 : Int32) (a9 : Option Value) (x0 : Int32) (x1 : Int32) (x2 : Int32) (x3 : Nat) (τ : St), Ru M_H_night d Q 86 [some (.ref a0), some (.int a1), some (.int a2), some (.int a3), some (.int a4), some (.int a5), some (.int a6), some (.int a7), some (.int a8), a9] [.int x0, .int x1, .int x2, .ref x3] τ = (isA 10 x3 ∧ Cl d m_Ways_measure [.ref x3, .int x2, .int x1, .int x0] τ (fun v τ' => Ru M_H_night d Q 89 [some (.ref a0), some (.int a1), some (.int a2), some (.int a3), some (.int a4), some (.int a5), some (.int a6), some (.int a7), some (.int a8), a9] (v.toList ++ []) τ'))) ∧
    (∀ (a0 : Nat) (a1 : Int32) (a2 : Int32) (a3 : Int32) (a4 : Int32) (a5 : Int32) (a6 : Int32) (a7 : Int32) (a8 : Int32) (a9 : Option Value) (τ : St), Ru M_H_night d Q 89 [some (.ref a0), some (.int a1), some (.int a2), some (.int a3), some (.int a4), some (.int a5), some (.int a6), some (.int a7), some (.int a8), a9] [] τ = Ru M_H_night d Q 90 [some (.ref a0), some (.int a1), some (.int a2), some (.int a3), some (.int a4), some (.int a5), some (.int a6), some (.int a7), some (.int a8), a9] [.ref a0] τ) ∧
    (∀ (a0 : Nat) (a1 : Int32) (a2 : Int32) (a3 : Int32) (a4 : Int32) (a5 : Int32) (a6 : Int32) (a7 : Int32) (a8 : Int32) (a9 : Option Value) (x0 : Nat) (τ : St), Ru M_H_night d Q 90 [some (.ref a0), some (.int a1), some (.int a2), some (.int a3), some (.int a4), some (.int a5), some (.int a6), some (.int a7), some (.int a8), a9] [.ref x0] τ = (isA 11 x0 ∧ Ru M_H_night d Q 93 [some (.ref a0), some (.int a1), some (.int a2), some (.int a3), some (.int a4), some (.int a5), some (.int a6), some (.int a7), some (.int a8), a9] [.ref (rtab x0 12)] τ)) ∧
    (∀ (a0 : Nat) (a1 : Int32) (a2 : Int32) (a3 : Int32) (a4 : Int32) (a5 : Int32) (a6 : Int32) (a7 : Int32) (a8 : Int32) (a9 : Option Value) (x0 : Nat) (τ : St), Ru M_H_night d Q 93 [some (.ref a0), some (.int a1), some (.int a2), some (.int a3), some (.int a4), some (.int a5), some (.int a6), some (.int a7), some (.int a8), a9] [.ref x0] τ = Ru M_H_night d Q 94 [some (.ref a0), some (.int a1), some (.int a2), some (.int a3), some (.int a4), some (.int a5), some (.int a6), some (.int a7), some (.int a8), a9] [.int a2, .ref x0] τ) ∧
    (∀ (a0 : Nat) (a1 : Int32) (a2 : Int32) (a3 : Int32) (a4 : Int32) (a5 : Int32) (a6 : Int32) (a7 : Int32) (a8 : Int32) (a9 : Option Value) (x0 : Int32) (x1 : Nat) (τ : St), Ru M_H_night d Q 94 [some (.ref a0), some (.int a1), some (.int a2), some (.int a3), some (.int a4), some (.int a5), some (.int a6), some (.int a7), some (.int a8), a9] [.int x0, .ref x1] τ = (isA 10 x1 ∧ Cl d m_Ways_costFrom [.ref x1, .int x0] τ (fun v τ' => Ru M_H_night d Q 97 [some (.ref a0), some (.int a1), some (.int a2), some (.int a3), some (.int a4), some (.int a5), some (.int a6), some (.int a7), some (.int a8), a9] (v.toList ++ []) τ'))) ∧
    (∀ (a0 : Nat) (a1 : Int32) (a2 : Int32) (a3 : Int32) (a4 : Int32) (a5 : Int32) (a6 : Int32) (a7 : Int32) (a8 : Int32) (a9 : Option Value) (x0 : Int32) (τ : St), Ru M_H_night d Q 97 [some (.ref a0), some (.int a1), some (.int a2), some (.int a3), some (.int a4), some (.int a5), some (.int a6), some (.int a7), some (.int a8), a9] [.int x0] τ = Ru M_H_night d Q 100 [some (.ref a0), some (.int a1), some (.int a2), some (.int a3), some (.int a4), some (.int a5), some (.int a6), some (.int a7), some (.int a8), a9] [.int 1073741824, .int x0] τ) ∧
    (∀ (a0 : Nat) (a1 : Int32) (a2 : Int32) (a3 : Int32) (a4 : Int32) (a5 : Int32) (a6 : Int32) (a7 : Int32) (a8 : Int32) (a9 : Option Value) (x0 : Int32) (x1 : Int32) (τ : St), Ru M_H_night d Q 100 [some (.ref a0), some (.int a1), some (.int a2), some (.int a3), some (.int a4), some (.int a5), some (.int a6), some (.int a7), some (.int a8), a9] [.int x0, .int x1] τ = ((¬ x1 = x0 → Ru M_H_night d Q 106 [some (.ref a0), some (.int a1), some (.int a2), some (.int a3), some (.int a4), some (.int a5), some (.int a6), some (.int a7), some (.int a8), a9] [] τ) ∧ (x1 = x0 → Ru M_H_night d Q 103 [some (.ref a0), some (.int a1), some (.int a2), some (.int a3), some (.int a4), some (.int a5), some (.int a6), some (.int a7), some (.int a8), a9] [] τ))) ∧
    (∀ (a0 : Nat) (a1 : Int32) (a2 : Int32) (a3 : Int32) (a4 : Int32) (a5 : Int32) (a6 : Int32) (a7 : Int32) (a8 : Int32) (a9 : Option Value) (τ : St), Ru M_H_night d Q 103 [some (.ref a0), some (.int a1), some (.int a2), some (.int a3), some (.int a4), some (.int a5), some (.int a6), some (.int a7), some (.int a8), a9] [] τ = Ru M_H_night d Q 105 [some (.ref a0), some (.int a1), some (.int a2), some (.int a3), some (.int a4), some (.int a5), some (.int a6), some (.int a7), some (.int a8), a9] [.int (-2)] τ) ∧
    (∀ (a0 : Nat) (a1 : Int32) (a2 : Int32) (a3 : Int32) (a4 : Int32) (a5 : Int32) (a6 : Int32) (a7 : Int32) (a8 : Int32) (a9 : Option Value) (x0 : Int32) (τ : St), Ru M_H_night d Q 105 [some (.ref a0), some (.int a1), some (.int a2), some (.int a3), some (.int a4), some (.int a5), some (.int a6), some (.int a7), some (.int a8), a9] [.int x0] τ = Q (some (.int x0)) τ) ∧
    (∀ (a0 : Nat) (a1 : Int32) (a2 : Int32) (a3 : Int32) (a4 : Int32) (a5 : Int32) (a6 : Int32) (a7 : Int32) (a8 : Int32) (a9 : Option Value) (τ : St), Ru M_H_night d Q 106 [some (.ref a0), some (.int a1), some (.int a2), some (.int a3), some (.int a4), some (.int a5), some (.int a6), some (.int a7), some (.int a8), a9] [] τ = Ru M_H_night d Q 107 [some (.ref a0), some (.int a1), some (.int a2), some (.int a3), some (.int a4), some (.int a5), some (.int a6), some (.int a7), some (.int a8), a9] [.ref a0] τ) ∧
    (∀ (a0 : Nat) (a1 : Int32) (a2 : Int32) (a3 : Int32) (a4 : Int32) (a5 : Int32) (a6 : Int32) (a7 : Int32) (a8 : Int32) (a9 : Option Value) (x0 : Nat) (τ : St), Ru M_H_night d Q 107 [some (.ref a0), some (.int a1), some (.int a2), some (.int a3), some (.int a4), some (.int a5), some (.int a6), some (.int a7), some (.int a8), a9] [.ref x0] τ = (isA 11 x0 ∧ Ru M_H_night d Q 110 [some (.ref a0), some (.int a1), some (.int a2), some (.int a3), some (.int a4), some (.int a5), some (.int a6), some (.int a7), some (.int a8), a9] [.ref (rtab x0 12)] τ)) ∧
    (∀ (a0 : Nat) (a1 : Int32) (a2 : Int32) (a3 : Int32) (a4 : Int32) (a5 : Int32) (a6 : Int32) (a7 : Int32) (a8 : Int32) (a9 : Option Value) (x0 : Nat) (τ : St), Ru M_H_night d Q 110 [some (.ref a0), some (.int a1), some (.int a2), some (.int a3), some (.int a4), some (.int a5), some (.int a6), some (.int a7), some (.int a8), a9] [.ref x0] τ = Ru M_H_night d Q 111 [some (.ref a0), some (.int a1), some (.int a2), some (.int a3), some (.int a4), some (.int a5), some (.int a6), some (.int a7), some (.int a8), a9] [.int a2, .ref x0] τ) ∧
    (∀ (a0 : Nat) (a1 : Int32) (a2 : Int32) (a3 : Int32) (a4 : Int32) (a5 : Int32) (a6 : Int32) (a7 : Int32) (a8 : Int32) (a9 : Option Value) (x0 : Int32) (x1 : Nat) (τ : St), Ru M_H_night d Q 111 [some (.ref a0), some (.int a1), some (.int a2), some (.int a3), some (.int a4), some (.int a5), some (.int a6), some (.int a7), some (.int a8), a9] [.int x0, .ref x1] τ = Ru M_H_night d Q 113 [some (.ref a0), some (.int a1), some (.int a2), some (.int a3), some (.int a4), some (.int a5), some (.int a6), some (.int a7), some (.int a8), a9] [.int a8, .int x0, .ref x1] τ) ∧
    (∀ (a0 : Nat) (a1 : Int32) (a2 : Int32) (a3 : Int32) (a4 : Int32) (a5 : Int32) (a6 : Int32) (a7 : Int32) (a8 : Int32) (a9 : Option Value) (x0 : Int32) (x1 : Int32) (x2 : Nat) (τ : St), Ru M_H_night d Q 113 [some (.ref a0), some (.int a1), some (.int a2), some (.int a3), some (.int a4), some (.int a5), some (.int a6), some (.int a7), some (.int a8), a9] [.int x0, .int x1, .ref x2] τ = (isA 10 x2 ∧ Cl d m_Ways_noiseFrom [.ref x2, .int x1, .int x0] τ (fun v τ' => Ru M_H_night d Q 116 [some (.ref a0), some (.int a1), some (.int a2), some (.int a3), some (.int a4), some (.int a5), some (.int a6), some (.int a7), some (.int a8), a9] (v.toList ++ []) τ'))) ∧
    (∀ (a0 : Nat) (a1 : Int32) (a2 : Int32) (a3 : Int32) (a4 : Int32) (a5 : Int32) (a6 : Int32) (a7 : Int32) (a8 : Int32) (a9 : Option Value) (x0 : Int32) (τ : St), Ru M_H_night d Q 116 [some (.ref a0), some (.int a1), some (.int a2), some (.int a3), some (.int a4), some (.int a5), some (.int a6), some (.int a7), some (.int a8), a9] [.int x0] τ = Ru M_H_night d Q 118 [some (.ref a0), some (.int a1), some (.int a2), some (.int a3), some (.int a4), some (.int a5), some (.int a6), some (.int a7), some (.int a8), some (.int x0)] [] τ) ∧
    (∀ (a0 : Nat) (a1 : Int32) (a2 : Int32) (a3 : Int32) (a4 : Int32) (a5 : Int32) (a6 : Int32) (a7 : Int32) (a8 : Int32) (a9 : Int32) (τ : St), Ru M_H_night d Q 118 [some (.ref a0), some (.int a1), some (.int a2), some (.int a3), some (.int a4), some (.int a5), some (.int a6), some (.int a7), some (.int a8), some (.int a9)] [] τ = Ru M_H_night d Q 120 [some (.ref a0), some (.int a1), some (.int a2), some (.int a3), some (.int a4), some (.int a5), some (.int a6), some (.int a7), some (.int a8), some (.int a9)] [.int a5] τ) ∧
    (∀ (a0 : Nat) (a1 : Int32) (a2 : Int32) (a3 : Int32) (a4 : Int32) (a5 : Int32) (a6 : Int32) (a7 : Int32) (a8 : Int32) (a9 : Int32) (x0 : Int32) (τ : St), Ru M_H_night d Q 120 [some (.ref a0), some (.int a1), some (.int a2), some (.int a3), some (.int a4), some (.int a5), some (.int a6), some (.int a7), some (.int a8), some (.int a9)] [.int x0] τ = Ru M_H_night d Q 121 [some (.ref a0), some (.int a1), some (.int a2), some (.int a3), some (.int a4), some (.int a5), some (.int a6), some (.int a7), some (.int a8), some (.int a9)] [.int (-1), .int x0] τ) ∧
    (∀ (a0 : Nat) (a1 : Int32) (a2 : Int32) (a3 : Int32) (a4 : Int32) (a5 : Int32) (a6 : Int32) (a7 : Int32) (a8 : Int32) (a9 : Int32) (x0 : Int32) (x1 : Int32) (τ : St), Ru M_H_night d Q 121 [some (.ref a0), some (.int a1), some (.int a2), some (.int a3), some (.int a4), some (.int a5), some (.int a6), some (.int a7), some (.int a8), some (.int a9)] [.int x0, .int x1] τ = ((x1 = x0 → Ru M_H_night d Q 131 [some (.ref a0), some (.int a1), some (.int a2), some (.int a3), some (.int a4), some (.int a5), some (.int a6), some (.int a7), some (.int a8), some (.int a9)] [] τ) ∧ (¬ x1 = x0 → Ru M_H_night d Q 124 [some (.ref a0), some (.int a1), some (.int a2), some (.int a3), some (.int a4), some (.int a5), some (.int a6), some (.int a7), some (.int a8), some (.int a9)] [] τ))) ∧
    (∀ (a0 : Nat) (a1 : Int32) (a2 : Int32) (a3 : Int32) (a4 : Int32) (a5 : Int32) (a6 : Int32) (a7 : Int32) (a8 : Int32) (a9 : Int32) (τ : St), Ru M_H_night d Q 124 [some (.ref a0), some (.int a1), some (.int a2), some (.int a3), some (.int a4), some (.int a5), some (.int a6), some (.int a7), some (.int a8), some (.int a9)] [] τ = Ru M_H_night d Q 126 [some (.ref a0), some (.int a1), some (.int a2), some (.int a3), some (.int a4), some (.int a5), some (.int a6), some (.int a7), some (.int a8), some (.int a9)] [.int a9] τ) ∧
    (∀ (a0 : Nat) (a1 : Int32) (a2 : Int32) (a3 : Int32) (a4 : Int32) (a5 : Int32) (a6 : Int32) (a7 : Int32) (a8 : Int32) (a9 : Int32) (x0 : Int32) (τ : St), Ru M_H_night d Q 126 [some (.ref a0), some (.int a1), some (.int a2), some (.int a3), some (.int a4), some (.int a5), some (.int a6), some (.int a7), some (.int a8), some (.int a9)] [.int x0] τ = Ru M_H_night d Q 128 [some (.ref a0), some (.int a1), some (.int a2), some (.int a3), some (.int a4), some (.int a5), some (.int a6), some (.int a7), some (.int a8), some (.int a9)] [.int a6, .int x0] τ) ∧
    (∀ (a0 : Nat) (a1 : Int32) (a2 : Int32) (a3 : Int32) (a4 : Int32) (a5 : Int32) (a6 : Int32) (a7 : Int32) (a8 : Int32) (a9 : Int32) (x0 : Int32) (x1 : Int32) (τ : St), Ru M_H_night d Q 128 [some (.ref a0), some (.int a1), some (.int a2), some (.int a3), some (.int a4), some (.int a5), some (.int a6), some (.int a7), some (.int a8), some (.int a9)] [.int x0, .int x1] τ = ((x0 ≤ x1 → Ru M_H_night d Q 139 [some (.ref a0), some (.int a1), some (.int a2), some (.int a3), some (.int a4), some (.int a5), some (.int a6), some (.int a7), some (.int a8), some (.int a9)] [] τ) ∧ (¬ x0 ≤ x1 → Ru M_H_night d Q 131 [some (.ref a0), some (.int a1), some (.int a2), some (.int a3), some (.int a4), some (.int a5), some (.int a6), some (.int a7), some (.int a8), some (.int a9)] [] τ))) ∧
    (∀ (a0 : Nat) (a1 : Int32) (a2 : Int32) (a3 : Int32) (a4 : Int32) (a5 : Int32) (a6 : Int32) (a7 : Int32) (a8 : Int32) (a9 : Int32) (τ : St), Ru M_H_night d Q 131 [some (.ref a0), some (.int a1), some (.int a2), some (.int a3), some (.int a4), some (.int a5), some (.int a6), some (.int a7), some (.int a8), some (.int a9)] [] τ = Ru M_H_night d Q 133 [some (.ref a0), some (.int a1), some (.int a2), some (.int a3), some (.int a4), some (.int a5), some (.int a6), some (.int a7), some (.int a8), some (.int a9)] [.int a7] τ) ∧
    (∀ (a0 : Nat) (a1 : Int32) (a2 : Int32) (a3 : Int32) (a4 : Int32) (a5 : Int32) (a6 : Int32) (a7 : Int32) (a8 : Int32) (a9 : Int32) (x0 : Int32) (τ : St), Ru M_H_night d Q 133 [some (.ref a0), some (.int a1), some (.int a2), some (.int a3), some (.int a4), some (.int a5), some (.int a6), some (.int a7), some (.int a8), some (.int a9)] [.int x0] τ = Ru M_H_night d Q 135 [some (.ref a0), some (.int a1), some (.int a2), some (.int a3), some (.int a4), some (.int x0), some (.int a6), some (.int a7), some (.int a8), some (.int a9)] [] τ) ∧
    (∀ (a0 : Nat) (a1 : Int32) (a2 : Int32) (a3 : Int32) (a4 : Int32) (a5 : Int32) (a6 : Int32) (a7 : Int32) (a8 : Int32) (a9 : Int32) (τ : St), Ru M_H_night d Q 135 [some (.ref a0), some (.int a1), some (.int a2), some (.int a3), some (.int a4), some (.int a5), some (.int a6), some (.int a7), some (.int a8), some (.int a9)] [] τ = Ru M_H_night d Q 137 [some (.ref a0), some (.int a1), some (.int a2), some (.int a3), some (.int a4), some (.int a5), some (.int a6), some (.int a7), some (.int a8), some (.int a9)] [.int a9] τ) ∧
    (∀ (a0 : Nat) (a1 : Int32) (a2 : Int32) (a3 : Int32) (a4 : Int32) (a5 : Int32) (a6 : Int32) (a7 : Int32) (a8 : Int32) (a9 : Int32) (x0 : Int32) (τ : St), Ru M_H_night d Q 137 [some (.ref a0), some (.int a1), some (.int a2), some (.int a3), some (.int a4), some (.int a5), some (.int a6), some (.int a7), some (.int a8), some (.int a9)] [.int x0] τ = Ru M_H_night d Q 139 [some (.ref a0), some (.int a1), some (.int a2), some (.int a3), some (.int a4), some (.int a5), some (.int x0), some (.int a7), some (.int a8), some (.int a9)] [] τ) ∧
    (∀ (a0 : Nat) (a1 : Int32) (a2 : Int32) (a3 : Int32) (a4 : Int32) (a5 : Int32) (a6 : Int32) (a7 : Int32) (a8 : Int32) (a9 : Int32) (τ : St), Ru M_H_night d Q 139 [some (.ref a0), some (.int a1), some (.int a2), some (.int a3), some (.int a4), some (.int a5), some (.int a6), some (.int a7), some (.int a8), some (.int a9)] [] τ = Ru M_H_night d Q 142 [some (.ref a0), some (.int a1), some (.int a2), some (.int a3), some (.int a4), some (.int a5), some (.int a6), some (.int (a7 + 1)), some (.int a8), some (.int a9)] [] τ) ∧
    (∀ (a0 : Nat) (a1 : Int32) (a2 : Int32) (a3 : Int32) (a4 : Int32) (a5 : Int32) (a6 : Int32) (a7 : Int32) (a8 : Int32) (a9 : Int32) (τ : St), Ru M_H_night d Q 142 [some (.ref a0), some (.int a1), some (.int a2), some (.int a3), some (.int a4), some (.int a5), some (.int a6), some (.int a7), some (.int a8), some (.int a9)] [] τ = Rs M_H_night d Q 45 [some (.ref a0), some (.int a1), some (.int a2), some (.int a3), some (.int a4), some (.int a5), some (.int a6), some (.int a7), some (.int a8), some (.int a9)] [] τ) ∧
    (∀ (a0 : Nat) (a1 : Int32) (a2 : Int32) (a3 : Int32) (a4 : Int32) (a5 : Int32) (a6 : Int32) (a7 : Int32) (a8 : Option Value) (a9 : Option Value) (τ : St), Ru M_H_night d Q 145 [some (.ref a0), some (.int a1), some (.int a2), some (.int a3), some (.int a4), some (.int a5), some (.int a6), some (.int a7), a8, a9] [] τ = Ru M_H_night d Q 146 [some (.ref a0), some (.int a1), some (.int a2), some (.int a3), some (.int a4), some (.int a5), some (.int a6), some (.int a7), a8, a9] [.ref a0] τ) ∧
    (∀ (a0 : Nat) (a1 : Int32) (a2 : Int32) (a3 : Int32) (a4 : Int32) (a5 : Int32) (a6 : Int32) (a7 : Int32) (a8 : Option Value) (a9 : Option Value) (x0 : Nat) (τ : St), Ru M_H_night d Q 146 [some (.ref a0), some (.int a1), some (.int a2), some (.int a3), some (.int a4), some (.int a5), some (.int a6), some (.int a7), a8, a9] [.ref x0] τ = (isA 11 x0 ∧ Ru M_H_night d Q 149 [some (.ref a0), some (.int a1), some (.int a2), some (.int a3), some (.int a4), some (.int a5), some (.int a6), some (.int a7), a8, a9] [.ref (rtab x0 1)] τ)) ∧
    (∀ (a0 : Nat) (a1 : Int32) (a2 : Int32) (a3 : Int32) (a4 : Int32) (a5 : Int32) (a6 : Int32) (a7 : Int32) (a8 : Option Value) (a9 : Option Value) (x0 : Nat) (τ : St), Ru M_H_night d Q 149 [some (.ref a0), some (.int a1), some (.int a2), some (.int a3), some (.int a4), some (.int a5), some (.int a6), some (.int a7), a8, a9] [.ref x0] τ = Ru M_H_night d Q 151 [some (.ref a0), some (.int a1), some (.int a2), some (.int a3), some (.int a4), some (.int a5), some (.int a6), some (.int a7), a8, a9] [.int a6, .ref x0] τ) ∧
    (∀ (a0 : Nat) (a1 : Int32) (a2 : Int32) (a3 : Int32) (a4 : Int32) (a5 : Int32) (a6 : Int32) (a7 : Int32) (a8 : Option Value) (a9 : Option Value) (x0 : Int32) (x1 : Nat) (τ : St), Ru M_H_night d Q 151 [some (.ref a0), some (.int a1), some (.int a2), some (.int a3), some (.int a4), some (.int a5), some (.int a6), some (.int a7), a8, a9] [.int x0, .ref x1] τ = Ru M_H_night d Q 152 [some (.ref a0), some (.int a1), some (.int a2), some (.int a3), some (.int a4), some (.int a5), some (.int a6), some (.int a7), a8, a9] [.long x0.toInt64, .ref x1] τ) ∧
    (∀ (a0 : Nat) (a1 : Int32) (a2 : Int32) (a3 : Int32) (a4 : Int32) (a5 : Int32) (a6 : Int32) (a7 : Int32) (a8 : Option Value) (a9 : Option Value) (x0 : Int64) (x1 : Nat) (τ : St), Ru M_H_night d Q 152 [some (.ref a0), some (.int a1), some (.int a2), some (.int a3), some (.int a4), some (.int a5), some (.int a6), some (.int a7), a8, a9] [.long x0, .ref x1] τ = (isA 4 x1 ∧ Cl d m_Row_only [.ref x1, .long x0] τ (fun v τ' => Ru M_H_night d Q 155 [some (.ref a0), some (.int a1), some (.int a2), some (.int a3), some (.int a4), some (.int a5), some (.int a6), some (.int a7), a8, a9] (v.toList ++ []) τ'))) ∧
    (∀ (a0 : Nat) (a1 : Int32) (a2 : Int32) (a3 : Int32) (a4 : Int32) (a5 : Int32) (a6 : Int32) (a7 : Int32) (a8 : Option Value) (a9 : Option Value) (τ : St), Ru M_H_night d Q 155 [some (.ref a0), some (.int a1), some (.int a2), some (.int a3), some (.int a4), some (.int a5), some (.int a6), some (.int a7), a8, a9] [] τ = Ru M_H_night d Q 157 [some (.ref a0), some (.int a1), some (.int a2), some (.int a3), some (.int a4), some (.int a5), some (.int a6), some (.int a7), a8, a9] [.int a5] τ) ∧
    (∀ (a0 : Nat) (a1 : Int32) (a2 : Int32) (a3 : Int32) (a4 : Int32) (a5 : Int32) (a6 : Int32) (a7 : Int32) (a8 : Option Value) (a9 : Option Value) (x0 : Int32) (τ : St), Ru M_H_night d Q 157 [some (.ref a0), some (.int a1), some (.int a2), some (.int a3), some (.int a4), some (.int a5), some (.int a6), some (.int a7), a8, a9] [.int x0] τ = Q (some (.int x0)) τ) := ⟨
  fun _ _ _ _ _ => (R_at ok_H_night rfl).trans (e_ald rfl),
  fun _ _ _ _ _ _ => (R_at ok_H_night rfl).trans (e_ild rfl),
  fun _ _ _ _ _ _ _ => (R_at ok_H_night rfl).trans (e_ild rfl),
  fun _ _ _ _ _ _ _ _ => (R_at ok_H_night rfl).trans (e_ild rfl),
  fun _ _ _ _ x0 x1 x2 _ _ => (R_at ok_H_night rfl).trans (e_cv [.int x2, .int x1, .int x0] rfl rfl rfl),
  fun _ _ _ _ _ _ => (R_at ok_H_night rfl).trans e_ist,
  fun _ _ _ _ _ _ => (R_at ok_H_night rfl).trans (e_ild rfl),
  fun _ _ _ _ _ _ _ => (R_at ok_H_night rfl).trans e_if,
  fun _ _ _ _ _ _ => (R_at ok_H_night rfl).trans (e_ild rfl),
  fun _ _ _ _ _ _ _ => (R_at ok_H_night rfl).trans e_iret,
  fun _ _ _ _ _ _ => (R_at ok_H_night rfl).trans (e_ald rfl),
  fun _ _ _ _ _ _ _ => (R_at ok_H_night rfl).trans e_gR,
  fun _ _ _ _ _ _ _ => (R_at ok_H_night rfl).trans (e_ald rfl),
  fun _ _ _ _ _ _ _ _ => (R_at ok_H_night rfl).trans e_gR,
  fun _ _ _ _ _ _ _ _ => (R_at ok_H_night rfl).trans (e_ild rfl),
  fun _ _ _ _ _ _ _ _ _ => (R_at ok_H_night rfl).trans (e_ald rfl),
  fun _ _ _ _ _ _ _ _ _ _ => (R_at ok_H_night rfl).trans e_gR,
  fun _ _ _ _ _ _ _ _ _ _ => (R_at ok_H_night rfl).trans e_gL,
  fun _ _ _ _ _ x0 x1 x2 _ _ => (R_at ok_H_night rfl).trans (e_cv [.ref x2, .int x1, .long x0] rfl rfl rfl),
  fun _ _ _ _ _ _ => (R_at ok_H_night rfl).trans e_push,
  fun _ _ _ _ _ _ _ => (R_at ok_H_night rfl).trans e_ist,
  fun _ _ _ _ _ _ _ => (R_at ok_H_night rfl).trans e_push,
  fun _ _ _ _ _ _ _ _ => (R_at ok_H_night rfl).trans e_ist,
  fun _ _ _ _ _ _ _ _ => (R_at ok_H_night rfl).trans e_push,
  fun _ _ _ _ _ _ _ _ _ => (R_at ok_H_night rfl).trans e_ist,
  fun _ _ _ _ _ _ _ _ _ _ _ => (R_at ok_H_night rfl).trans (e_ild rfl),
  fun _ _ _ _ _ _ _ _ _ _ _ _ => (R_at ok_H_night rfl).trans e_push,
  fun _ _ _ _ _ _ _ _ _ _ _ _ _ => (R_at ok_H_night rfl).trans e_ic,
  fun _ _ _ _ _ _ _ _ _ _ _ => (R_at ok_H_night rfl).trans (e_ald rfl),
  fun _ _ _ _ _ _ _ _ _ _ _ _ => (R_at ok_H_night rfl).trans e_gR,
  fun _ _ _ _ _ _ _ _ _ _ _ _ => (R_at ok_H_night rfl).trans e_gI,
  fun _ _ _ _ _ _ _ _ _ _ _ _ => (R_at ok_H_night rfl).trans (e_ild rfl),
  fun _ _ _ _ _ _ _ _ _ _ _ _ _ => (R_at ok_H_night rfl).trans e_bin,
  fun _ _ _ _ _ _ _ _ _ _ x0 _ => (R_at ok_H_night rfl).trans (e_cs [.int x0] rfl rfl rfl),
  fun _ _ _ _ _ _ _ _ _ _ _ _ => (R_at ok_H_night rfl).trans e_ist,
  fun _ _ _ _ _ _ _ _ _ _ _ => (R_at ok_H_night rfl).trans (e_ald rfl),
  fun _ _ _ _ _ _ _ _ _ _ _ _ => (R_at ok_H_night rfl).trans e_gR,
  fun _ _ _ _ _ _ _ _ _ _ _ _ => (R_at ok_H_night rfl).trans e_push,
  fun _ _ _ _ _ _ _ _ _ _ _ _ _ => (R_at ok_H_night rfl).trans (e_ild rfl),
  fun _ _ _ _ _ _ _ _ _ _ x0 x1 _ _ => (R_at ok_H_night rfl).trans (e_cv [.int x1, .int x0] rfl rfl rfl),
  fun _ _ _ _ _ _ _ _ _ _ _ => (R_at ok_H_night rfl).trans (e_ald rfl),
  fun _ _ _ _ _ _ _ _ _ _ _ _ => (R_at ok_H_night rfl).trans e_gR,
  fun _ _ _ _ _ _ _ _ _ _ _ _ => (R_at ok_H_night rfl).trans (e_ild rfl),
  fun _ _ _ _ _ _ _ _ _ _ _ _ _ => (R_at ok_H_night rfl).trans e_push,
  fun _ _ _ _ _ _ _ _ _ _ _ _ _ _ => (R_at ok_H_night rfl).trans e_push,
  fun _ _ _ _ _ _ _ _ _ _ x0 x1 x2 _ _ => (R_at ok_H_night rfl).trans (e_cv [.int x2, .int x1, .int x0] rfl rfl rfl),
  fun _ _ _ _ _ _ _ _ _ _ _ => (R_at ok_H_night rfl).trans (e_ald rfl),
  fun _ _ _ _ _ _ _ _ _ _ _ _ => (R_at ok_H_night rfl).trans e_gR,
  fun _ _ _ _ _ _ _ _ _ _ _ _ => (R_at ok_H_night rfl).trans (e_ild rfl),
  fun _ _ _ _ _ _ _ _ _ _ x0 _ _ => (R_at ok_H_night rfl).trans (e_cv [.int x0] rfl rfl rfl),
  fun _ _ _ _ _ _ _ _ _ _ _ _ => (R_at ok_H_night rfl).trans e_push,
  fun _ _ _ _ _ _ _ _ _ _ _ _ _ => (R_at ok_H_night rfl).trans e_icn,
  fun _ _ _ _ _ _ _ _ _ _ _ => (R_at ok_H_night rfl).trans e_push,
  fun _ _ _ _ _ _ _ _ _ _ _ _ => (R_at ok_H_night rfl).trans e_iret,
  fun _ _ _ _ _ _ _ _ _ _ _ => (R_at ok_H_night rfl).trans (e_ald rfl),
  fun _ _ _ _ _ _ _ _ _ _ _ _ => (R_at ok_H_night rfl).trans e_gR,
  fun _ _ _ _ _ _ _ _ _ _ _ _ => (R_at ok_H_night rfl).trans (e_ild rfl),
  fun _ _ _ _ _ _ _ _ _ _ _ _ _ => (R_at ok_H_night rfl).trans (e_ild rfl),
  fun _ _ _ _ _ _ _ _ _ _ x0 x1 _ _ => (R_at ok_H_night rfl).trans (e_cv [.int x1, .int x0] rfl rfl rfl),
  fun _ _ _ _ _ _ _ _ _ _ _ _ => (R_at ok_H_night rfl).trans e_ist,
  fun _ _ _ _ _ _ _ _ _ _ _ => (R_at ok_H_night rfl).trans (e_ild rfl),
  fun _ _ _ _ _ _ _ _ _ _ _ _ => (R_at ok_H_night rfl).trans e_push,
  fun _ _ _ _ _ _ _ _ _ _ _ _ _ => (R_at ok_H_night rfl).trans e_ic,
  fun _ _ _ _ _ _ _ _ _ _ _ => (R_at ok_H_night rfl).trans (e_ild rfl),
  fun _ _ _ _ _ _ _ _ _ _ _ _ => (R_at ok_H_night rfl).trans (e_ild rfl),
  fun _ _ _ _ _ _ _ _ _ _ _ _ _ => (R_at ok_H_night rfl).trans e_ic,
  fun _ _ _ _ _ _ _ _ _ _ _ => (R_at ok_H_night rfl).trans (e_ild rfl),
  fun _ _ _ _ _ _ _ _ _ _ _ _ => (R_at ok_H_night rfl).trans e_ist,
  fun _ _ _ _ _ _ _ _ _ _ _ => (R_at ok_H_night rfl).trans (e_ild rfl),
  fun _ _ _ _ _ _ _ _ _ _ _ _ => (R_at ok_H_night rfl).trans e_ist,
  fun _ _ _ _ _ _ _ _ _ _ _ => (R_at ok_H_night rfl).trans (e_iinc rfl),
  fun _ _ _ _ _ _ _ _ _ _ _ => (R_at ok_H_night rfl).trans e_goto,
  fun _ _ _ _ _ _ _ _ _ _ _ => (R_at ok_H_night rfl).trans (e_ald rfl),
  fun _ _ _ _ _ _ _ _ _ _ _ _ => (R_at ok_H_night rfl).trans e_gR,
  fun _ _ _ _ _ _ _ _ _ _ _ _ => (R_at ok_H_night rfl).trans (e_ild rfl),
  fun _ _ _ _ _ _ _ _ _ _ _ _ _ => (R_at ok_H_night rfl).trans e_il,
  fun _ _ _ _ _ _ _ _ _ _ x0 _ _ => (R_at ok_H_night rfl).trans (e_cv [.long x0] rfl rfl rfl),
  fun _ _ _ _ _ _ _ _ _ _ _ => (R_at ok_H_night rfl).trans (e_ild rfl),
  fun _ _ _ _ _ _ _ _ _ _ _ _ => (R_at ok_H_night rfl).trans e_iret⟩
set_option maxHeartbeats 4000000 in
theorem N_H_walls (d : Nat) (Q : Qt) : ∀ (x0 : Nat) (x1 : Int32) (τ : St), Cl (d + 1) m_H_walls [.ref x0, .int x1] τ Q = Ru M_H_walls d Q 0 [some (.ref x0), some (.int x1), none] [] τ := fun _ _ _ => propext ⟨fun h => h.2, fun h => ⟨Nat.le_of_ble_eq_true rfl, h⟩⟩
set_option maxHeartbeats 4000000 in
theorem E_H_walls (d : Nat) (Q : Qt) :
    (∀ (a0 : Nat) (a1 : Int32) (τ : St), Ru M_H_walls d Q 0 [some (.ref a0), some (.int a1), none] [] τ = Ru M_H_walls d Q 2 [some (.ref a0), some (.int a1), none] [.int (-100)] τ) ∧
    (∀ (a0 : Nat) (a1 : Int32) (x0 : Int32) (τ : St), Ru M_H_walls d Q 2 [some (.ref a0), some (.int a1), none] [.int x0] τ = Ru M_H_walls d Q 3 [some (.ref a0), some (.int a1), some (.int x0)] [] τ) ∧
    (∀ (a0 : Nat) (a1 : Int32) (a2 : Int32) (τ : St), Ru M_H_walls d Q 3 [some (.ref a0), some (.int a1), some (.int a2)] [] τ = Ru M_H_walls d Q 4 [some (.ref a0), some (.int a1), some (.int a2)] [.int a1] τ) ∧
    (∀ (a0 : Nat) (a1 : Int32) (a2 : Int32) (x0 : Int32) (τ : St), Ru M_H_walls d Q 4 [some (.ref a0), some (.int a1), some (.int a2)] [.int x0] τ = ((x0 < 0 → Ru M_H_walls d Q 52 [some (.ref a0), some (.int a1), some (.int a2)] [] τ) ∧ (¬ x0 < 0 → Ru M_H_walls d Q 7 [some (.ref a0), some (.int a1), some (.int a2)] [] τ))) ∧
    (∀ (a0 : Nat) (a1 : Int32) (a2 : Int32) (τ : St), Ru M_H_walls d Q 7 [some (.ref a0), some (.int a1), some (.int a2)] [] τ = Ru M_H_walls d Q 8 [some (.ref a0), some (.int a1), some (.int a2)] [.int a1] τ) ∧
    (∀ (a0 : Nat) (a1 : Int32) (a2 : Int32) (x0 : Int32) (τ : St), Ru M_H_walls d Q 8 [some (.ref a0), some (.int a1), some (.int a2)] [.int x0] τ = Ru M_H_walls d Q 10 [some (.ref a0), some (.int a1), some (.int a2)] [.int 99, .int x0] τ) ∧
    (∀ (a0 : Nat) (a1 : Int32) (a2 : Int32) (x0 : Int32) (x1 : Int32) (τ : St), Ru M_H_walls d Q 10 [some (.ref a0), some (.int a1), some (.int a2)] [.int x0, .int x1] τ = ((x0 < x1 → Ru M_H_walls d Q 52 [some (.ref a0), some (.int a1), some (.int a2)] [] τ) ∧ (¬ x0 < x1 → Ru M_H_walls d Q 13 [some (.ref a0), some (.int a1), some (.int a2)] [] τ))) ∧
    (∀ (a0 : Nat) (a1 : Int32) (a2 : Int32) (τ : St), Ru M_H_walls d Q 13 [some (.ref a0), some (.int a1), some (.int a2)] [] τ = Ru M_H_walls d Q 14 [some (.ref a0), some (.int a1), some (.int a2)] [.ref a0] τ) ∧
    (∀ (a0 : Nat) (a1 : Int32) (a2 : Int32) (x0 : Nat) (τ : St), Ru M_H_walls d Q 14 [some (.ref a0), some (.int a1), some (.int a2)] [.ref x0] τ = (isA 11 x0 ∧ Ru M_H_walls d Q 17 [some (.ref a0), some (.int a1), some (.int a2)] [.ref (rtab x0 14)] τ)) ∧
    (∀ (a0 : Nat) (a1 : Int32) (a2 : Int32) (x0 : Nat) (τ : St), Ru M_H_walls d Q 17 [some (.ref a0), some (.int a1), some (.int a2)] [.ref x0] τ = Ru M_H_walls d Q 18 [some (.ref a0), some (.int a1), some (.int a2)] [.ref a0, .ref x0] τ) ∧
    (∀ (a0 : Nat) (a1 : Int32) (a2 : Int32) (x0 : Nat) (x1 : Nat) (τ : St), Ru M_H_walls d Q 18 [some (.ref a0), some (.int a1), some (.int a2)] [.ref x0, .ref x1] τ = (isA 11 x0 ∧ Ru M_H_walls d Q 21 [some (.ref a0), some (.int a1), some (.int a2)] [.ref (rtab x0 0), .ref x1] τ)) ∧
    (∀ (a0 : Nat) (a1 : Int32) (a2 : Int32) (x0 : Nat) (x1 : Nat) (τ : St), Ru M_H_walls d Q 21 [some (.ref a0), some (.int a1), some (.int a2)] [.ref x0, .ref x1] τ = (isA 9 x1 ∧ Cl d m_Wall_read [.ref x1, .ref x0] τ (fun v τ' => Ru M_H_walls d Q 24 [some (.ref a0), some (.int a1), some (.int a2)] (v.toList ++ []) τ'))) ∧
    (∀ (a0 : Nat) (a1 : Int32) (a2 : Int32) (x0 : Int32) (τ : St), Ru M_H_walls d Q 24 [some (.ref a0), some (.int a1), some (.int a2)] [.int x0] τ = ((x0 = 0 → Ru M_H_walls d Q 42 [some (.ref a0), some (.int a1), some (.int a2)] [] τ) ∧ (¬ x0 = 0 → Ru M_H_walls d Q 27 [some (.ref a0), some (.int a1), some (.int a2)] [] τ))) ∧
    (∀ (a0 : Nat) (a1 : Int32) (a2 : Int32) (τ : St), Ru M_H_walls d Q 27 [some (.ref a0), some (.int a1), some (.int a2)] [] τ = Ru M_H_walls d Q 28 [some (.ref a0), some (.int a1), some (.int a2)] [.ref a0] τ) ∧
    (∀ (a0 : Nat) (a1 : Int32) (a2 : Int32) (x0 : Nat) (τ : St), Ru M_H_walls d Q 28 [some (.ref a0), some (.int a1), some (.int a2)] [.ref x0] τ = (isA 11 x0 ∧ Ru M_H_walls d Q 31 [some (.ref a0), some (.int a1), some (.int a2)] [.ref (rtab x0 14)] τ)) ∧
    (∀ (a0 : Nat) (a1 : Int32) (a2 : Int32) (x0 : Nat) (τ : St), Ru M_H_walls d Q 31 [some (.ref a0), some (.int a1), some (.int a2)] [.ref x0] τ = Ru M_H_walls d Q 32 [some (.ref a0), some (.int a1), some (.int a2)] [.int a1, .ref x0] τ) ∧
    (∀ (a0 : Nat) (a1 : Int32) (a2 : Int32) (x0 : Int32) (x1 : Nat) (τ : St), Ru M_H_walls d Q 32 [some (.ref a0), some (.int a1), some (.int a2)] [.int x0, .ref x1] τ = Ru M_H_walls d Q 33 [some (.ref a0), some (.int a1), some (.int a2)] [.ref a0, .int x0, .ref x1] τ) ∧
    (∀ (a0 : Nat) (a1 : Int32) (a2 : Int32) (x0 : Nat) (x1 : Int32) (x2 : Nat) (τ : St), Ru M_H_walls d Q 33 [some (.ref a0), some (.int a1), some (.int a2)] [.ref x0, .int x1, .ref x2] τ = (isA 11 x0 ∧ Ru M_H_walls d Q 36 [some (.ref a0), some (.int a1), some (.int a2)] [.ref (rtab x0 1), .int x1, .ref x2] τ)) ∧
    (∀ (a0 : Nat) (a1 : Int32) (a2 : Int32) (x0 : Nat) (x1 : Int32) (x2 : Nat) (τ : St), Ru M_H_walls d Q 36 [some (.ref a0), some (.int a1), some (.int a2)] [.ref x0, .int x1, .ref x2] τ = (isA 9 x2 ∧ Cl d m_Wall_man [.ref x2, .int x1, .ref x0] τ (fun v τ' => Ru M_H_walls d Q 39 [some (.ref a0), some (.int a1), some (.int a2)] (v.toList ++ []) τ'))) ∧
    (∀ (a0 : Nat) (a1 : Int32) (a2 : Int32) (x0 : Int32) (τ : St), Ru M_H_walls d Q 39 [some (.ref a0), some (.int a1), some (.int a2)] [.int x0] τ = Ru M_H_walls d Q 51 [some (.ref a0), some (.int a1), some (.int a2)] [.int x0] τ) ∧
    (∀ (a0 : Nat) (a1 : Int32) (a2 : Int32) (τ : St), Ru M_H_walls d Q 42 [some (.ref a0), some (.int a1), some (.int a2)] [] τ = Ru M_H_walls d Q 43 [some (.ref a0), some (.int a1), some (.int a2)] [.int (-1)] τ) ∧
    (∀ (a0 : Nat) (a1 : Int32) (a2 : Int32) (x0 : Int32) (τ : St), Ru M_H_walls d Q 43 [some (.ref a0), some (.int a1), some (.int a2)] [.int x0] τ = Ru M_H_walls d Q 44 [some (.ref a0), some (.int a1), some (.int a2)] [.ref a0, .int x0] τ) ∧
    (∀ (a0 : Nat) (a1 : Int32) (a2 : Int32) (x0 : Nat) (x1 : Int32) (τ : St), Ru M_H_walls d Q 44 [some (.ref a0), some (.int a1), some (.int a2)] [.ref x0, .int x1] τ = (isA 11 x0 ∧ Ru M_H_walls d Q 47 [some (.ref a0), some (.int a1), some (.int a2)] [.ref (rtab x0 0), .int x1] τ)) ∧
    (∀ (a0 : Nat) (a1 : Int32) (a2 : Int32) (x0 : Nat) (x1 : Int32) (τ : St), Ru M_H_walls d Q 47 [some (.ref a0), some (.int a1), some (.int a2)] [.ref x0, .int x1] τ = (isA 6 x0 ∧ Ru M_H_walls d Q 50 [some (.ref a0), some (.int a1), some (.int a2)] [.int (τ.1 x0 2), .int x1] τ)) ∧
    (∀ (a0 : Nat) (a1 : Int32) (a2 : Int32) (x0 : Int32) (x1 : Int32) (τ : St), Ru M_H_walls d Q 50 [some (.ref a0), some (.int a1), some (.int a2)] [.int x0, .int x1] τ = Ru M_H_walls d Q 51 [some (.ref a0), some (.int a1), some (.int a2)] [.int (x1 - x0)] τ) ∧
    (∀ (a0 : Nat) (a1 : Int32) (a2 : Int32) (x0 : Int32) (τ : St), Ru M_H_walls d Q 51 [some (.ref a0), some (.int a1), some (.int a2)] [.int x0] τ = Ru M_H_walls d Q 52 [some (.ref a0), some (.int a1), some (.int x0)] [] τ) ∧
    (∀ (a0 : Nat) (a1 : Int32) (a2 : Int32) (τ : St), Ru M_H_walls d Q 52 [some (.ref a0), some (.int a1), some (.int a2)] [] τ = Ru M_H_walls d Q 53 [some (.ref a0), some (.int a1), some (.int a2)] [.ref a0] τ) ∧
    (∀ (a0 : Nat) (a1 : Int32) (a2 : Int32) (x0 : Nat) (τ : St), Ru M_H_walls d Q 53 [some (.ref a0), some (.int a1), some (.int a2)] [.ref x0] τ = (isA 11 x0 ∧ Ru M_H_walls d Q 56 [some (.ref a0), some (.int a1), some (.int a2)] [.ref (rtab x0 0)] τ)) ∧
    (∀ (a0 : Nat) (a1 : Int32) (a2 : Int32) (x0 : Nat) (τ : St), Ru M_H_walls d Q 56 [some (.ref a0), some (.int a1), some (.int a2)] [.ref x0] τ = (isA 6 x0 ∧ Cl d m_Text_empty [.ref x0] τ (fun v τ' => Ru M_H_walls d Q 59 [some (.ref a0), some (.int a1), some (.int a2)] (v.toList ++ []) τ'))) ∧
    (∀ (a0 : Nat) (a1 : Int32) (a2 : Int32) (τ : St), Ru M_H_walls d Q 59 [some (.ref a0), some (.int a1), some (.int a2)] [] τ = Ru M_H_walls d Q 60 [some (.ref a0), some (.int a1), some (.int a2)] [.int a2] τ) ∧
    (∀ (a0 : Nat) (a1 : Int32) (a2 : Int32) (x0 : Int32) (τ : St), Ru M_H_walls d Q 60 [some (.ref a0), some (.int a1), some (.int a2)] [.int x0] τ = Q (some (.int x0)) τ) := ⟨
  fun _ _ _ => (R_at ok_H_walls rfl).trans e_push,
  fun _ _ _ _ => (R_at ok_H_walls rfl).trans e_ist,
  fun _ _ _ _ => (R_at ok_H_walls rfl).trans (e_ild rfl),
  fun _ _ _ _ _ => (R_at ok_H_walls rfl).trans e_if,
  fun _ _ _ _ => (R_at ok_H_walls rfl).trans (e_ild rfl),
  fun _ _ _ _ _ => (R_at ok_H_walls rfl).trans e_push,
  fun _ _ _ _ _ _ => (R_at ok_H_walls rfl).trans e_ic,
  fun _ _ _ _ => (R_at ok_H_walls rfl).trans (e_ald rfl),
  fun _ _ _ _ _ => (R_at ok_H_walls rfl).trans e_gR,
  fun _ _ _ _ _ => (R_at ok_H_walls rfl).trans (e_ald rfl),
  fun _ _ _ _ _ _ => (R_at ok_H_walls rfl).trans e_gR,
  fun _ _ _ x0 _ _ => (R_at ok_H_walls rfl).trans (e_cv [.ref x0] rfl rfl rfl),
  fun _ _ _ _ _ => (R_at ok_H_walls rfl).trans e_if,
  fun _ _ _ _ => (R_at ok_H_walls rfl).trans (e_ald rfl),
  fun _ _ _ _ _ => (R_at ok_H_walls rfl).trans e_gR,
  fun _ _ _ _ _ => (R_at ok_H_walls rfl).trans (e_ild rfl),
  fun _ _ _ _ _ _ => (R_at ok_H_walls rfl).trans (e_ald rfl),
  fun _ _ _ _ _ _ _ => (R_at ok_H_walls rfl).trans e_gR,
  fun _ _ _ x0 x1 _ _ => (R_at ok_H_walls rfl).trans (e_cv [.int x1, .ref x0] rfl rfl rfl),
  fun _ _ _ _ _ => (R_at ok_H_walls rfl).trans e_goto,
  fun _ _ _ _ => (R_at ok_H_walls rfl).trans e_push,
  fun _ _ _ _ _ => (R_at ok_H_walls rfl).trans (e_ald rfl),
  fun _ _ _ _ _ _ => (R_at ok_H_walls rfl).trans e_gR,
  fun _ _ _ _ _ _ => (R_at ok_H_walls rfl).trans e_gI,
  fun _ _ _ _ _ _ => (R_at ok_H_walls rfl).trans e_bin,
  fun _ _ _ _ _ => (R_at ok_H_walls rfl).trans e_ist,
  fun _ _ _ _ => (R_at ok_H_walls rfl).trans (e_ald rfl),
  fun _ _ _ _ _ => (R_at ok_H_walls rfl).trans e_gR,
  fun _ _ _ _ _ => (R_at ok_H_walls rfl).trans (e_cv [] rfl rfl rfl),
  fun _ _ _ _ => (R_at ok_H_walls rfl).trans (e_ild rfl),
  fun _ _ _ _ _ => (R_at ok_H_walls rfl).trans e_iret⟩
set_option maxHeartbeats 4000000 in
theorem N_H_storm (d : Nat) (Q : Qt) : ∀ (x0 : Nat) (x1 : Int32) (x2 : Int32) (τ : St), Cl (d + 1) m_H_storm [.ref x0, .int x1, .int x2] τ Q = Ru M_H_storm d Q 0 [some (.ref x0), some (.int x1), some (.int x2), none, none, none, none, none, none, none] [] τ := fun _ _ _ _ => propext ⟨fun h => h.2, fun h => ⟨Nat.le_of_ble_eq_true rfl, h⟩⟩
set_option maxHeartbeats 4000000 in
theorem E_H_storm (d : Nat) (Q : Qt) :
    (∀ (a0 : Nat) (a1 : Int32) (a2 : Int32) (τ : St), Ru M_H_storm d Q 0 [some (.ref a0), some (.int a1), some (.int a2), none, none, none, none, none, none, none] [] τ = Ru M_H_storm d Q 1 [some (.ref a0), some (.int a1), some (.int a2), none, none, none, none, none, none, none] [.int a1] τ) ∧
    (∀ (a0 : Nat) (a1 : Int32) (a2 : Int32) (x0 : Int32) (τ : St), Ru M_H_storm d Q 1 [some (.ref a0), some (.int a1), some (.int a2), none, none, none, none, none, none, none] [.int x0] τ = ((x0 < 0 → Ru M_H_storm d Q 22 [some (.ref a0), some (.int a1), some (.int a2), none, none, none, none, none, none, none] [] τ) ∧ (¬ x0 < 0 → Ru M_H_storm d Q 4 [some (.ref a0), some (.int a1), some (.int a2), none, none, none, none, none, none, none] [] τ))) ∧
    (∀ (a0 : Nat) (a1 : Int32) (a2 : Int32) (τ : St), Ru M_H_storm d Q 4 [some (.ref a0), some (.int a1), some (.int a2), none, none, none, none, none, none, none] [] τ = Ru M_H_storm d Q 5 [some (.ref a0), some (.int a1), some (.int a2), none, none, none, none, none, none, none] [.int a2] τ) ∧
    (∀ (a0 : Nat) (a1 : Int32) (a2 : Int32) (x0 : Int32) (τ : St), Ru M_H_storm d Q 5 [some (.ref a0), some (.int a1), some (.int a2), none, none, none, none, none, none, none] [.int x0] τ = ((x0 < 0 → Ru M_H_storm d Q 22 [some (.ref a0), some (.int a1), some (.int a2), none, none, none, none, none, none, none] [] τ) ∧ (¬ x0 < 0 → Ru M_H_storm d Q 8 [some (.ref a0), some (.int a1), some (.int a2), none, none, none, none, none, none, none] [] τ))) ∧
    (∀ (a0 : Nat) (a1 : Int32) (a2 : Int32) (τ : St), Ru M_H_storm d Q 8 [some (.ref a0), some (.int a1), some (.int a2), none, none, none, none, none, none, none] [] τ = Ru M_H_storm d Q 9 [some (.ref a0), some (.int a1), some (.int a2), none, none, none, none, none, none, none] [.int a1] τ) ∧
    (∀ (a0 : Nat) (a1 : Int32) (a2 : Int32) (x0 : Int32) (τ : St), Ru M_H_storm d Q 9 [some (.ref a0), some (.int a1), some (.int a2), none, none, none, none, none, none, none] [.int x0] τ = Ru M_H_storm d Q 11 [some (.ref a0), some (.int a1), some (.int a2), none, none, none, none, none, none, none] [.int 6, .int x0] τ) ∧
    (∀ (a0 : Nat) (a1 : Int32) (a2 : Int32) (x0 : Int32) (x1 : Int32) (τ : St), Ru M_H_storm d Q 11 [some (.ref a0), some (.int a1), some (.int a2), none, none, none, none, none, none, none] [.int x0, .int x1] τ = ((x0 < x1 → Ru M_H_storm d Q 22 [some (.ref a0), some (.int a1), some (.int a2), none, none, none, none, none, none, none] [] τ) ∧ (¬ x0 < x1 → Ru M_H_storm d Q 14 [some (.ref a0), some (.int a1), some (.int a2), none, none, none, none, none, none, none] [] τ))) ∧
    (∀ (a0 : Nat) (a1 : Int32) (a2 : Int32) (τ : St), Ru M_H_storm d Q 14 [some (.ref a0), some (.int a1), some (.int a2), none, none, none, none, none, none, none] [] τ = Ru M_H_storm d Q 15 [some (.ref a0), some (.int a1), some (.int a2), none, none, none, none, none, none, none] [.int a2] τ) ∧
    (∀ (a0 : Nat) (a1 : Int32) (a2 : Int32) (x0 : Int32) (τ : St), Ru M_H_storm d Q 15 [some (.ref a0), some (.int a1), some (.int a2), none, none, none, none, none, none, none] [.int x0] τ = Ru M_H_storm d Q 17 [some (.ref a0), some (.int a1), some (.int a2), none, none, none, none, none, none, none] [.int 6, .int x0] τ) ∧
    (∀ (a0 : Nat) (a1 : Int32) (a2 : Int32) (x0 : Int32) (x1 : Int32) (τ : St), Ru M_H_storm d Q 17 [some (.ref a0), some (.int a1), some (.int a2), none, none, none, none, none, none, none] [.int x0, .int x1] τ = Ru M_H_storm d Q 18 [some (.ref a0), some (.int a1), some (.int a2), none, none, none, none, none, none, none] [.int a1, .int x0, .int x1] τ) ∧
    (∀ (a0 : Nat) (a1 : Int32) (a2 : Int32) (x0 : Int32) (x1 : Int32) (x2 : Int32) (τ : St), Ru M_H_storm d Q 18 [some (.ref a0), some (.int a1), some (.int a2), none, none, none, none, none, none, none] [.int x0, .int x1, .int x2] τ = Ru M_H_storm d Q 19 [some (.ref a0), some (.int a1), some (.int a2), none, none, none, none, none, none, none] [.int (x1 - x0), .int x2] τ) ∧
    (∀ (a0 : Nat) (a1 : Int32) (a2 : Int32) (x0 : Int32) (x1 : Int32) (τ : St), Ru M_H_storm d Q 19 [some (.ref a0), some (.int a1), some (.int a2), none, none, none, none, none, none, none] [.int x0, .int x1] τ = ((x1 ≤ x0 → Ru M_H_storm d Q 24 [some (.ref a0), some (.int a1), some (.int a2), none, none, none, none, none, none, none] [] τ) ∧ (¬ x1 ≤ x0 → Ru M_H_storm d Q 22 [some (.ref a0), some (.int a1), some (.int a2), none, none, none, none, none, none, none] [] τ))) ∧
    (∀ (a0 : Nat) (a1 : Int32) (a2 : Int32) (τ : St), Ru M_H_storm d Q 22 [some (.ref a0), some (.int a1), some (.int a2), none, none, none, none, none, none, none] [] τ = Ru M_H_storm d Q 23 [some (.ref a0), some (.int a1), some (.int a2), none, none, none, none, none, none, none] [.int (-1)] τ) ∧
    (∀ (a0 : Nat) (a1 : Int32) (a2 : Int32) (x0 : Int32) (τ : St), Ru M_H_storm d Q 23 [some (.ref a0), some (.int a1), some (.int a2), none, none, none, none, none, none, none] [.int x0] τ = Q (some (.int x0)) τ) ∧
    (∀ (a0 : Nat) (a1 : Int32) (a2 : Int32) (τ : St), Ru M_H_storm d Q 24 [some (.ref a0), some (.int a1), some (.int a2), none, none, none, none, none, none, none] [] τ = Ru M_H_storm d Q 25 [some (.ref a0), some (.int a1), some (.int a2), none, none, none, none, none, none, none] [.int 0] τ) ∧
    (∀ (a0 : Nat) (a1 : Int32) (a2 : Int32) (x0 : Int32) (τ : St), Ru M_H_storm d Q 25 [some (.ref a0), some (.int a1), some (.int a2), none, none, none, none, none, none, none] [.int x0] τ = Ru M_H_storm d Q 26 [some (.ref a0), some (.int a1), some (.int a2), some (.int x0), none, none, none, none, none, none] [] τ) ∧
    (∀ (a0 : Nat) (a1 : Int32) (a2 : Int32) (a3 : Int32) (τ : St), Ru M_H_storm d Q 26 [some (.ref a0), some (.int a1), some (.int a2), some (.int a3), none, none, none, none, none, none] [] τ = Ru M_H_storm d Q 28 [some (.ref a0), some (.int a1), some (.int a2), some (.int a3), none, none, none, none, none, none] [.int (-4)] τ) ∧
    (∀ (a0 : Nat) (a1 : Int32) (a2 : Int32) (a3 : Int32) (x0 : Int32) (τ : St), Ru M_H_storm d Q 28 [some (.ref a0), some (.int a1), some (.int a2), some (.int a3), none, none, none, none, none, none] [.int x0] τ = Ru M_H_storm d Q 30 [some (.ref a0), some (.int a1), some (.int a2), some (.int a3), some (.int x0), none, none, none, none, none] [] τ) ∧
    (∀ (a0 : Nat) (a1 : Int32) (a2 : Int32) (a3 : Int32) (a4 : Int32) (τ : St), Ru M_H_storm d Q 30 [some (.ref a0), some (.int a1), some (.int a2), some (.int a3), some (.int a4), none, none, none, none, none] [] τ = Ru M_H_storm d Q 31 [some (.ref a0), some (.int a1), some (.int a2), some (.int a3), some (.int a4), none, none, none, none, none] [.int 0] τ) ∧
    (∀ (a0 : Nat) (a1 : Int32) (a2 : Int32) (a3 : Int32) (a4 : Int32) (x0 : Int32) (τ : St), Ru M_H_storm d Q 31 [some (.ref a0), some (.int a1), some (.int a2), some (.int a3), some (.int a4), none, none, none, none, none] [.int x0] τ = Ru M_H_storm d Q 33 [some (.ref a0), some (.int a1), some (.int a2), some (.int a3), some (.int a4), some (.int x0), none, none, none, none] [] τ) ∧
    (∀ (a0 : Nat) (a1 : Int32) (a2 : Int32) (a3 : Int32) (a4 : Int32) (a5 : Int32) (τ : St), Ru M_H_storm d Q 33 [some (.ref a0), some (.int a1), some (.int a2), some (.int a3), some (.int a4), some (.int a5), none, none, none, none] [] τ = Ru M_H_storm d Q 34 [some (.ref a0), some (.int a1), some (.int a2), some (.int a3), some (.int a4), some (.int a5), none, none, none, none] [.int 0] τ) ∧
    (∀ (a0 : Nat) (a1 : Int32) (a2 : Int32) (a3 : Int32) (a4 : Int32) (a5 : Int32) (x0 : Int32) (τ : St), Ru M_H_storm d Q 34 [some (.ref a0), some (.int a1), some (.int a2), some (.int a3), some (.int a4), some (.int a5), none, none, none, none] [.int x0] τ = Ru M_H_storm d Q 36 [some (.ref a0), some (.int a1), some (.int a2), some (.int a3), some (.int a4), some (.int a5), some (.int x0), none, none, none] [] τ) ∧
    (∀ (a0 : Nat) (a1 : Int32) (a2 : Int32) (a3 : Int32) (a4 : Int32) (a5 : Int32) (a6 : Int32) (τ : St), Ru M_H_storm d Q 36 [some (.ref a0), some (.int a1), some (.int a2), some (.int a3), some (.int a4), some (.int a5), some (.int a6), none, none, none] [] τ = Ru M_H_storm d Q 37 [some (.ref a0), some (.int a1), some (.int a2), some (.int a3), some (.int a4), some (.int a5), some (.int a6), none, none, none] [.int 0] τ) ∧
    (∀ (a0 : Nat) (a1 : Int32) (a2 : Int32) (a3 : Int32) (a4 : Int32) (a5 : Int32) (a6 : Int32) (x0 : Int32) (τ : St), Ru M_H_storm d Q 37 [some (.ref a0), some (.int a1), some (.int a2), some (.int a3), some (.int a4), some (.int a5), some (.int a6), none, none, none] [.int x0] τ = Rs M_H_storm d Q 39 [some (.ref a0), some (.int a1), some (.int a2), some (.int a3), some (.int a4), some (.int a5), some (.int a6), some (.int x0), none, none] [] τ) ∧
    (∀ (a0 : Nat) (a1 : Int32) (a2 : Int32) (a3 : Int32) (a4 : Int32) (a5 : Int32) (a6 : Int32) (a7 : Int32) (a8 : Option Value) (a9 : Option Value) (τ : St), Ru M_H_storm d Q 39 [some (.ref a0), some (.int a1), some (.int a2), some (.int a3), some (.int a4), some (.int a5), some (.int a6), some (.int a7), a8, a9] [] τ = Ru M_H_storm d Q 41 [some (.ref a0), some (.int a1), some (.int a2), some (.int a3), some (.int a4), some (.int a5), some (.int a6), some (.int a7), a8, a9] [.int a7] τ) ∧
    (∀ (a0 : Nat) (a1 : Int32) (a2 : Int32) (a3 : Int32) (a4 : Int32) (a5 : Int32) (a6 : Int32) (a7 : Int32) (a8 : Option Value) (a9 : Option Value) (x0 : Int32) (τ : St), Ru M_H_storm d Q 41 [some (.ref a0), some (.int a1), some (.int a2), some (.int a3), some (.int a4), some (.int a5), some (.int a6), some (.int a7), a8, a9] [.int x0] τ = Ru M_H_storm d Q 43 [some (.ref a0), some (.int a1), some (.int a2), some (.int a3), some (.int a4), some (.int a5), some (.int a6), some (.int a7), a8, a9] [.int 6, .int x0] τ) ∧
    (∀ (a0 : Nat) (a1 : Int32) (a2 : Int32) (a3 : Int32) (a4 : Int32) (a5 : Int32) (a6 : Int32) (a7 : Int32) (a8 : Option Value) (a9 : Option Value) (x0 : Int32) (x1 : Int32) (τ : St), Ru M_H_storm d Q 43 [some (.ref a0), some (.int a1), some (.int a2), some (.int a3), some (.int a4), some (.int a5), some (.int a6), some (.int a7), a8, a9] [.int x0, .int x1] τ = ((x0 < x1 → Ru M_H_storm d Q 129 [some (.ref a0), some (.int a1), some (.int a2), some (.int a3), some (.int a4), some (.int a5), some (.int a6), some (.int a7), a8, a9] [] τ) ∧ (¬ x0 < x1 → Ru M_H_storm d Q 46 [some (.ref a0), some (.int a1), some (.int a2), some (.int a3), some (.int a4), some (.int a5), some (.int a6), some (.int a7), a8, a9] [] τ))) ∧
    (∀ (a0 : Nat) (a1 : Int32) (a2 : Int32) (a3 : Int32) (a4 : Int32) (a5 : Int32) (a6 : Int32) (a7 : Int32) (a8 : Option Value) (a9 : Option Value) (τ : St), Ru M_H_storm d Q 46 [some (.ref a0), some (.int a1), some (.int a2), some (.int a3), some (.int a4), some (.int a5), some (.int a6), some (.int a7), a8, a9] [] τ = Ru M_H_storm d Q 47 [some (.ref a0), some (.int a1), some (.int a2), some (.int a3), some (.int a4), some (.int a5), some (.int a6), some (.int a7), a8, a9] [.int 0] τ) ∧
    (∀ (a0 : Nat) (a1 : Int32) (a2 : Int32) (a3 : Int32) (a4 : Int32) (a5 : Int32) (a6 : Int32) (a7 : Int32) (a8 : Option Value) (a9 : Option Value) (x0 : Int32) (τ : St), Ru M_H_storm d Q 47 [some (.ref a0), some (.int a1), some (.int a2), some (.int a3), some (.int a4), some (.int a5), some (.int a6), some (.int a7), a8, a9] [.int x0] τ = Rs M_H_storm d Q 49 [some (.ref a0), some (.int a1), some (.int a2), some (.int a3), some (.int a4), some (.int a5), some (.int a6), some (.int a7), some (.int x0), a9] [] τ) ∧
    (∀ (a0 : Nat) (a1 : Int32) (a2 : Int32) (a3 : Int32) (a4 : Int32) (a5 : Int32) (a6 : Int32) (a7 : Int32) (a8 : Int32) (a9 : Option Value) (τ : St), Ru M_H_storm d Q 49 [some (.ref a0), some (.int a1), some (.int a2), some (.int a3), some (.int a4), some (.int a5), some (.int a6), some (.int a7), some (.int a8), a9] [] τ = Ru M_H_storm d Q 51 [some (.ref a0), some (.int a1), some (.int a2), some (.int a3), some (.int a4), some (.int a5), some (.int a6), some (.int a7), some (.int a8), a9] [.int a8] τ) ∧
    (∀ (a0 : Nat) (a1 : Int32) (a2 : Int32) (a3 : Int32) (a4 : Int32) (a5 : Int32) (a6 : Int32) (a7 : Int32) (a8 : Int32) (a9 : Option Value) (x0 : Int32) (τ : St), Ru M_H_storm d Q 51 [some (.ref a0), some (.int a1), some (.int a2), some (.int a3), some (.int a4), some (.int a5), some (.int a6), some (.int a7), some (.int a8), a9] [.int x0] τ = Ru M_H_storm d Q 53 [some (.ref a0), some (.int a1), some (.int a2), some (.int a3), some (.int a4), some (.int a5), some (.int a6), some (.int a7), some (.int a8), a9] [.int 6, .int x0] τ) ∧
    (∀ (a0 : Nat) (a1 : Int32) (a2 : Int32) (a3 : Int32) (a4 : Int32) (a5 : Int32) (a6 : Int32) (a7 : Int32) (a8 : Int32) (a9 : Option Value) (x0 : Int32) (x1 : Int32) (τ : St), Ru M_H_storm d Q 53 [some (.ref a0), some (.int a1), some (.int a2), some (.int a3), some (.int a4), some (.int a5), some (.int a6), some (.int a7), some (.int a8), a9] [.int x0, .int x1] τ = Ru M_H_storm d Q 55 [some (.ref a0), some (.int a1), some (.int a2), some (.int a3), some (.int a4), some (.int a5), some (.int a6), some (.int a7), some (.int a8), a9] [.int a7, .int x0, .int x1] τ) ∧
    (∀ (a0 : Nat) (a1 : Int32) (a2 : Int32) (a3 : Int32) (a4 : Int32) (a5 : Int32) (a6 : Int32) (a7 : Int32) (a8 : Int32) (a9 : Option Value) (x0 : Int32) (x1 : Int32) (x2 : Int32) (τ : St), Ru M_H_storm d Q 55 [some (.ref a0), some (.int a1), some (.int a2), some (.int a3), some (.int a4), some (.int a5), some (.int a6), some (.int a7), some (.int a8), a9] [.int x0, .int x1, .int x2] τ = Ru M_H_storm d Q 56 [some (.ref a0), some (.int a1), some (.int a2), some (.int a3), some (.int a4), some (.int a5), some (.int a6), some (.int a7), some (.int a8), a9] [.int (x1 - x0), .int x2] τ) ∧
    (∀ (a0 : Nat) (a1 : Int32) (a2 : Int32) (a3 : Int32) (a4 : Int32) (a5 : Int32) (a6 : Int32) (a7 : Int32) (a8 : Int32) (a9 : Option Value) (x0 : Int32) (x1 : Int32) (τ : St), Ru M_H_storm d Q 56 [some (.ref a0), some (.int a1), some (.int a2), some (.int a3), some (.int a4), some (.int a5), some (.int a6), some (.int a7), some (.int a8), a9] [.int x0, .int x1] τ = ((x0 < x1 → Ru M_H_storm d Q 123 [some (.ref a0), some (.int a1), some (.int a2), some (.int a3), some (.int a4), some (.int a5), some (.int a6), some (.int a7), some (.int a8), a9] [] τ) ∧ (¬ x0 < x1 → Ru M_H_storm d Q 59 [some (.ref a0), some (.int a1), some (.int a2), some (.int a3), some (.int a4), some (.int a5), some (.int a6), some (.int a7), some (.int a8), a9] [] τ))) ∧
    (∀ (a0 : Nat) (a1 : Int32) (a2 : Int32) (a3 : Int32) (a4 : Int32) (a5 : Int32) (a6 : Int32) (a7 : Int32) (a8 : Int32) (a9 : Option Value) (τ : St), Ru M_H_storm d Q 59 [some (.ref a0), some (.int a1), some (.int a2), some (.int a3), some (.int a4), some (.int a5), some (.int a6), some (.int a7), some (.int a8), a9] [] τ = Ru M_H_storm d Q 61 [some (.ref a0), some (.int a1), some (.int a2), some (.int a3), some (.int a4), some (.int a5), some (.int a6), some (.int a7), some (.int a8), a9] [.int a7] τ) ∧
    (∀ (a0 : Nat) (a1 : Int32) (a2 : Int32) (a3 : Int32) (a4 : Int32) (a5 : Int32) (a6 : Int32) (a7 : Int32) (a8 : Int32) (a9 : Option Value) (x0 : Int32) (τ : St), Ru M_H_storm d Q 61 [some (.ref a0), some (.int a1), some (.int a2), some (.int a3), some (.int a4), some (.int a5), some (.int a6), some (.int a7), some (.int a8), a9] [.int x0] τ = Ru M_H_storm d Q 62 [some (.ref a0), some (.int a1), some (.int a2), some (.int a3), some (.int a4), some (.int a5), some (.int a6), some (.int a7), some (.int a8), a9] [.int a1, .int x0] τ) ∧
    (∀ (a0 : Nat) (a1 : Int32) (a2 : Int32) (a3 : Int32) (a4 : Int32) (a5 : Int32) (a6 : Int32) (a7 : Int32) (a8 : Int32) (a9 : Option Value) (x0 : Int32) (x1 : Int32) (τ : St), Ru M_H_storm d Q 62 [some (.ref a0), some (.int a1), some (.int a2), some (.int a3), some (.int a4), some (.int a5), some (.int a6), some (.int a7), some (.int a8), a9] [.int x0, .int x1] τ = Cl d m_H_wonBy [.int x1, .int x0] τ (fun v τ' => Ru M_H_storm d Q 65 [some (.ref a0), some (.int a1), some (.int a2), some (.int a3), some (.int a4), some (.int a5), some (.int a6), some (.int a7), some (.int a8), a9] (v.toList ++ []) τ')) ∧
    (∀ (a0 : Nat) (a1 : Int32) (a2 : Int32) (a3 : Int32) (a4 : Int32) (a5 : Int32) (a6 : Int32) (a7 : Int32) (a8 : Int32) (a9 : Option Value) (x0 : Int32) (τ : St), Ru M_H_storm d Q 65 [some (.ref a0), some (.int a1), some (.int a2), some (.int a3), some (.int a4), some (.int a5), some (.int a6), some (.int a7), some (.int a8), a9] [.int x0] τ = Ru M_H_storm d Q 67 [some (.ref a0), some (.int a1), some (.int a2), some (.int a3), some (.int a4), some (.int a5), some (.int a6), some (.int a7), some (.int a8), a9] [.int a8, .int x0] τ) ∧
    (∀ (a0 : Nat) (a1 : Int32) (a2 : Int32) (a3 : Int32) (a4 : Int32) (a5 : Int32) (a6 : Int32) (a7 : Int32) (a8 : Int32) (a9 : Option Value) (x0 : Int32) (x1 : Int32) (τ : St), Ru M_H_storm d Q 67 [some (.ref a0), some (.int a1), some (.int a2), some (.int a3), some (.int a4), some (.int a5), some (.int a6), some (.int a7), some (.int a8), a9] [.int x0, .int x1] τ = Ru M_H_storm d Q 68 [some (.ref a0), some (.int a1), some (.int a2), some (.int a3), some (.int a4), some (.int a5), some (.int a6), some (.int a7), some (.int a8), a9] [.int a2, .int x0, .int x1] τ) ∧
    (∀ (a0 : Nat) (a1 : Int32) (a2 : Int32) (a3 : Int32) (a4 : Int32) (a5 : Int32) (a6 : Int32) (a7 : Int32) (a8 : Int32) (a9 : Option Value) (x0 : Int32) (x1 : Int32) (x2 : Int32) (τ : St), Ru M_H_storm d Q 68 [some (.ref a0), some (.int a1), some (.int a2), some (.int a3), some (.int a4), some (.int a5), some (.int a6), some (.int a7), some (.int a8), a9] [.int x0, .int x1, .int x2] τ = Cl d m_H_wonBy [.int x1, .int x0] τ (fun v τ' => Ru M_H_storm d Q 71 [some (.ref a0), some (.int a1), some (.int a2), some (.int a3), some (.int a4), some (.int a5), some (.int a6), some (.int a7), some (.int a8), a9] (v.toList ++ [.int x2]) τ')) ∧
    (∀ (a0 : Nat) (a1 : Int32) (a2 : Int32) (a3 : Int32) (a4 : Int32) (a5 : Int32) (a6 : Int32) (a7 : Int32) (a8 : Int32) (a9 : Option Value) (x0 : Int32) (x1 : Int32) (τ : St), Ru M_H_storm d Q 71 [some (.ref a0), some (.int a1), some (.int a2), some (.int a3), some (.int a4), some (.int a5), some (.int a6), some (.int a7), some (.int a8), a9] [.int x0, .int x1] τ = Ru M_H_storm d Q 72 [some (.ref a0), some (.int a1), some (.int a2), some (.int a3), some (.int a4), some (.int a5), some (.int a6), some (.int a7), some (.int a8), a9] [.int (x1 + x0)] τ) ∧
    (∀ (a0 : Nat) (a1 : Int32) (a2 : Int32) (a3 : Int32) (a4 : Int32) (a5 : Int32) (a6 : Int32) (a7 : Int32) (a8 : Int32) (a9 : Option Value) (x0 : Int32) (τ : St), Ru M_H_storm d Q 72 [some (.ref a0), some (.int a1), some (.int a2), some (.int a3), some (.int a4), some (.int a5), some (.int a6), some (.int a7), some (.int a8), a9] [.int x0] τ = Ru M_H_storm d Q 73 [some (.ref a0), some (.int a1), some (.int a2), some (.int a3), some (.int a4), some (.int a5), some (.int a6), some (.int a7), some (.int a8), a9] [.int a1, .int x0] τ) ∧
    (∀ (a0 : Nat) (a1 : Int32) (a2 : Int32) (a3 : Int32) (a4 : Int32) (a5 : Int32) (a6 : Int32) (a7 : Int32) (a8 : Int32) (a9 : Option Value) (x0 : Int32) (x1 : Int32) (τ : St), Ru M_H_storm d Q 73 [some (.ref a0), some (.int a1), some (.int a2), some (.int a3), some (.int a4), some (.int a5), some (.int a6), some (.int a7), some (.int a8), a9] [.int x0, .int x1] τ = Ru M_H_storm d Q 74 [some (.ref a0), some (.int a1), some (.int a2), some (.int a3), some (.int a4), some (.int a5), some (.int a6), some (.int a7), some (.int a8), a9] [.int a2, .int x0, .int x1] τ) ∧
    (∀ (a0 : Nat) (a1 : Int32) (a2 : Int32) (a3 : Int32) (a4 : Int32) (a5 : Int32) (a6 : Int32) (a7 : Int32) (a8 : Int32) (a9 : Option Value) (x0 : Int32) (x1 : Int32) (x2 : Int32) (τ : St), Ru M_H_storm d Q 74 [some (.ref a0), some (.int a1), some (.int a2), some (.int a3), some (.int a4), some (.int a5), some (.int a6), some (.int a7), some (.int a8), a9] [.int x0, .int x1, .int x2] τ = Ru M_H_storm d Q 75 [some (.ref a0), some (.int a1), some (.int a2), some (.int a3), some (.int a4), some (.int a5), some (.int a6), some (.int a7), some (.int a8), a9] [.int (x1 + x0), .int x2] τ) ∧
    (∀ (a0 : Nat) (a1 : Int32) (a2 : Int32) (a3 : Int32) (a4 : Int32) (a5 : Int32) (a6 : Int32) (a7 : Int32) (a8 : Int32) (a9 : Option Value) (x0 : Int32) (x1 : Int32) (τ : St), Ru M_H_storm d Q 75 [some (.ref a0), some (.int a1), some (.int a2), some (.int a3), some (.int a4), some (.int a5), some (.int a6), some (.int a7), some (.int a8), a9] [.int x0, .int x1] τ = Ru M_H_storm d Q 77 [some (.ref a0), some (.int a1), some (.int a2), some (.int a3), some (.int a4), some (.int a5), some (.int a6), some (.int a7), some (.int a8), a9] [.int a7, .int x0, .int x1] τ) ∧
    (∀ (a0 : Nat) (a1 : Int32) (a2 : Int32) (a3 : Int32) (a4 : Int32) (a5 : Int32) (a6 : Int32) (a7 : Int32) (a8 : Int32) (a9 : Option Value) (x0 : Int32) (x1 : Int32) (x2 : Int32) (τ : St), Ru M_H_storm d Q 77 [some (.ref a0), some (.int a1), some (.int a2), some (.int a3), some (.int a4), some (.int a5), some (.int a6), some (.int a7), some (.int a8), a9] [.int x0, .int x1, .int x2] τ = Ru M_H_storm d Q 79 [some (.ref a0), some (.int a1), some (.int a2), some (.int a3), some (.int a4), some (.int a5), some (.int a6), some (.int a7), some (.int a8), a9] [.int a8, .int x0, .int x1, .int x2] τ) ∧
    (∀ (a0 : Nat) (a1 : Int32) (a2 : Int32) (a3 : Int32) (a4 : Int32) (a5 : Int32) (a6 : Int32) (a7 : Int32) (a8 : Int32) (a9 : Option Value) (x0 : Int32) (x1 : Int32) (x2 : Int32) (x3 : Int32) (τ : St), Ru M_H_storm d Q 79 [some (.ref a0), some (.int a1), some (.int a2), some (.int a3), some (.int a4), some (.int a5), some (.int a6), some (.int a7), some (.int a8), a9] [.int x0, .int x1, .int x2, .int x3] τ = Ru M_H_storm d Q 80 [some (.ref a0), some (.int a1), some (.int a2), some (.int a3), some (.int a4), some (.int a5), some (.int a6), some (.int a7), some (.int a8), a9] [.int (x1 + x0), .int x2, .int x3] τ) ∧
    (∀ (a0 : Nat) (a1 : Int32) (a2 : Int32) (a3 : Int32) (a4 : Int32) (a5 : Int32) (a6 : Int32) (a7 : Int32) (a8 : Int32) (a9 : Option Value) (x0 : Int32) (x1 : Int32) (x2 : Int32) (τ : St), Ru M_H_storm d Q 80 [some (.ref a0), some (.int a1), some (.int a2), some (.int a3), some (.int a4), some (.int a5), some (.int a6), some (.int a7), some (.int a8), a9] [.int x0, .int x1, .int x2] τ = Cl d m_H_wonBy [.int x1, .int x0] τ (fun v τ' => Ru M_H_storm d Q 83 [some (.ref a0), some (.int a1), some (.int a2), some (.int a3), some (.int a4), some (.int a5), some (.int a6), some (.int a7), some (.int a8), a9] (v.toList ++ [.int x2]) τ')) ∧
    (∀ (a0 : Nat) (a1 : Int32) (a2 : Int32) (a3 : Int32) (a4 : Int32) (a5 : Int32) (a6 : Int32) (a7 : Int32) (a8 : Int32) (a9 : Option Value) (x0 : Int32) (x1 : Int32) (τ : St), Ru M_H_storm d Q 83 [some (.ref a0), some (.int a1), some (.int a2), some (.int a3), some (.int a4), some (.int a5), some (.int a6), some (.int a7), some (.int a8), a9] [.int x0, .int x1] τ = Ru M_H_storm d Q 84 [some (.ref a0), some (.int a1), some (.int a2), some (.int a3), some (.int a4), some (.int a5), some (.int a6), some (.int a7), some (.int a8), a9] [.int (x1 + x0)] τ) ∧
    (∀ (a0 : Nat) (a1 : Int32) (a2 : Int32) (a3 : Int32) (a4 : Int32) (a5 : Int32) (a6 : Int32) (a7 : Int32) (a8 : Int32) (a9 : Option Value) (x0 : Int32) (τ : St), Ru M_H_storm d Q 84 [some (.ref a0), some (.int a1), some (.int a2), some (.int a3), some (.int a4), some (.int a5), some (.int a6), some (.int a7), some (.int a8), a9] [.int x0] τ = Ru M_H_storm d Q 86 [some (.ref a0), some (.int a1), some (.int a2), some (.int a3), some (.int a4), some (.int a5), some (.int a6), some (.int a7), some (.int a8), some (.int x0)] [] τ) ∧
    (∀ (a0 : Nat) (a1 : Int32) (a2 : Int32) (a3 : Int32) (a4 : Int32) (a5 : Int32) (a6 : Int32) (a7 : Int32) (a8 : Int32) (a9 : Int32) (τ : St), Ru M_H_storm d Q 86 [some (.ref a0), some (.int a1), some (.int a2), some (.int a3), some (.int a4), some (.int a5), some (.int a6), some (.int a7), some (.int a8), some (.int a9)] [] τ = Ru M_H_storm d Q 88 [some (.ref a0), some (.int a1), some (.int a2), some (.int a3), some (.int a4), some (.int a5), some (.int a6), some (.int a7), some (.int a8), some (.int a9)] [.int a9] τ) ∧
    (∀ (a0 : Nat) (a1 : Int32) (a2 : Int32) (a3 : Int32) (a4 : Int32) (a5 : Int32) (a6 : Int32) (a7 : Int32) (a8 : Int32) (a9 : Int32) (x0 : Int32) (τ : St), Ru M_H_storm d Q 88 [some (.ref a0), some (.int a1), some (.int a2), some (.int a3), some (.int a4), some (.int a5), some (.int a6), some (.int a7), some (.int a8), some (.int a9)] [.int x0] τ = Ru M_H_storm d Q 90 [some (.ref a0), some (.int a1), some (.int a2), some (.int a3), some (.int a4), some (.int a5), some (.int a6), some (.int a7), some (.int a8), some (.int a9)] [.int a4, .int x0] τ) ∧
    (∀ (a0 : Nat) (a1 : Int32) (a2 : Int32) (a3 : Int32) (a4 : Int32) (a5 : Int32) (a6 : Int32) (a7 : Int32) (a8 : Int32) (a9 : Int32) (x0 : Int32) (x1 : Int32) (τ : St), Ru M_H_storm d Q 90 [some (.ref a0), some (.int a1), some (.int a2), some (.int a3), some (.int a4), some (.int a5), some (.int a6), some (.int a7), some (.int a8), some (.int a9)] [.int x0, .int x1] τ = ((x1 ≤ x0 → Ru M_H_storm d Q 107 [some (.ref a0), some (.int a1), some (.int a2), some (.int a3), some (.int a4), some (.int a5), some (.int a6), some (.int a7), some (.int a8), some (.int a9)] [] τ) ∧ (¬ x1 ≤ x0 → Ru M_H_storm d Q 93 [some (.ref a0), some (.int a1), some (.int a2), some (.int a3), some (.int a4), some (.int a5), some (.int a6), some (.int a7), some (.int a8), some (.int a9)] [] τ))) ∧
    (∀ (a0 : Nat) (a1 : Int32) (a2 : Int32) (a3 : Int32) (a4 : Int32) (a5 : Int32) (a6 : Int32) (a7 : Int32) (a8 : Int32) (a9 : Int32) (τ : St), Ru M_H_storm d Q 93 [some (.ref a0), some (.int a1), some (.int a2), some (.int a3), some (.int a4), some (.int a5), some (.int a6), some (.int a7), some (.int a8), some (.int a9)] [] τ = Ru M_H_storm d Q 95 [some (.ref a0), some (.int a1), some (.int a2), some (.int a3), some (.int a4), some (.int a5), some (.int a6), some (.int a7), some (.int a8), some (.int a9)] [.int a9] τ) ∧
    (∀ (a0 : Nat) (a1 : Int32) (a2 : Int32) (a3 : Int32) (a4 : Int32) (a5 : Int32) (a6 : Int32) (a7 : Int32) (a8 : Int32) (a9 : Int32) (x0 : Int32) (τ : St), Ru M_H_storm d Q 95 [some (.ref a0), some (.int a1), some (.int a2), some (.int a3), some (.int a4), some (.int a5), some (.int a6), some (.int a7), some (.int a8), some (.int a9)] [.int x0] τ = Ru M_H_storm d Q 97 [some (.ref a0), some (.int a1), some (.int a2), some (.int a3), some (.int x0), some (.int a5), some (.int a6), some (.int a7), some (.int a8), some (.int a9)] [] τ) ∧
    (∀ (a0 : Nat) (a1 : Int32) (a2 : Int32) (a3 : Int32) (a4 : Int32) (a5 : Int32) (a6 : Int32) (a7 : Int32) (a8 : Int32) (a9 : Int32) (τ : St), Ru M_H_storm d Q 97 [some (.ref a0), some (.int a1), some (.int a2), some (.int a3), some (.int a4), some (.int a5), some (.int a6), some (.int a7), some (.int a8), some (.int a9)] [] τ = Ru M_H_storm d Q 98 [some (.ref a0), some (.int a1), some (.int a2), some (.int a3), some (.int a4), some (.int a5), some (.int a6), some (.int a7), some (.int a8), some (.int a9)] [.int 0] τ) ∧
    (∀ (a0 : Nat) (a1 : Int32) (a2 : Int32) (a3 : Int32) (a4 : Int32) (a5 : Int32) (a6 : Int32) (a7 : Int32) (a8 : Int32) (a9 : Int32) (x0 : Int32) (τ : St), Ru M_H_storm d Q 98 [some (.ref a0), some (.int a1), some (.int a2), some (.int a3), some (.int a4), some (.int a5), some (.int a6), some (.int a7), some (.int a8), some (.int a9)] [.int x0] τ = Ru M_H_storm d Q 99 [some (.ref a0), some (.int a1), some (.int a2), some (.int x0), some (.int a4), some (.int a5), some (.int a6), some (.int a7), some (.int a8), some (.int a9)] [] τ) ∧
    (∀ (a0 : Nat) (a1 : Int32) (a2 : Int32) (a3 : Int32) (a4 : Int32) (a5 : Int32) (a6 : Int32) (a7 : Int32) (a8 : Int32) (a9 : Int32) (τ : St), Ru M_H_storm d Q 99 [some (.ref a0), some (.int a1), some (.int a2), some (.int a3), some (.int a4), some (.int a5), some (.int a6), some (.int a7), some (.int a8), some (.int a9)] [] τ = Ru M_H_storm d Q 101 [some (.ref a0), some (.int a1), some (.int a2), some (.int a3), some (.int a4), some (.int a5), some (.int a6), some (.int a7), some (.int a8), some (.int a9)] [.int a7] τ) ∧
    (∀ (a0 : Nat) (a1 : Int32) (a2 : Int32) (a3 : Int32) (a4 : Int32) (a5 : Int32) (a6 : Int32) (a7 : Int32) (a8 : Int32) (a9 : Int32) (x0 : Int32) (τ : St), Ru M_H_storm d Q 101 [some (.ref a0), some (.int a1), some (.int a2), some (.int a3), some (.int a4), some (.int a5), some (.int a6), some (.int a7), some (.int a8), some (.int a9)] [.int x0] τ = Ru M_H_storm d Q 103 [some (.ref a0), some (.int a1), some (.int a2), some (.int a3), some (.int a4), some (.int x0), some (.int a6), some (.int a7), some (.int a8), some (.int a9)] [] τ) ∧
    (∀ (a0 : Nat) (a1 : Int32) (a2 : Int32) (a3 : Int32) (a4 : Int32) (a5 : Int32) (a6 : Int32) (a7 : Int32) (a8 : Int32) (a9 : Int32) (τ : St), Ru M_H_storm d Q 103 [some (.ref a0), some (.int a1), some (.int a2), some (.int a3), some (.int a4), some (.int a5), some (.int a6), some (.int a7), some (.int a8), some (.int a9)] [] τ = Ru M_H_storm d Q 105 [some (.ref a0), some (.int a1), some (.int a2), some (.int a3), some (.int a4), some (.int a5), some (.int a6), some (.int a7), some (.int a8), some (.int a9)] [.int a8] τ) ∧
    (∀ (a0 : Nat) (a1 : Int32) (a2 : Int32) (a3 : Int32) (a4 : Int32) (a5 : Int32) (a6 : Int32) (a7 : Int32) (a8 : Int32) (a9 : Int32) (x0 : Int32) (τ : St), Ru M_H_storm d Q 105 [some (.ref a0), some (.int a1), some (.int a2), some (.int a3), some (.int a4), some (.int a5), some (.int a6), some (.int a7), some (.int a8), some (.int a9)] [.int x0] τ = Ru M_H_storm d Q 107 [some (.ref a0), some (.int a1), some (.int a2), some (.int a3), some (.int a4), some (.int a5), some (.int x0), some (.int a7), some (.int a8), some (.int a9)] [] τ) ∧
    (∀ (a0 : Nat) (a1 : Int32) (a2 : Int32) (a3 : Int32) (a4 : Int32) (a5 : Int32) (a6 : Int32) (a7 : Int32) (a8 : Int32) (a9 : Int32) (τ : St), Ru M_H_storm d Q 107 [some (.ref a0), some (.int a1), some (.int a2), some (.int a3), some (.int a4), some (.int a5), some (.int a6), some (.int a7), some (.int a8), some (.int a9)] [] τ = Ru M_H_storm d Q 109 [some (.ref a0), some (.int a1), some (.int a2), some (.int a3), some (.int a4), some (.int a5), some (.int a6), some (.int a7), some (.int a8), some (.int a9)] [.int a9] τ) ∧
    (∀ (a0 : Nat) (a1 : Int32) (a2 : Int32) (a3 : Int32) (a4 : Int32) (a5 : Int32) (a6 : Int32) (a7 : Int32) (a8 : Int32) (a9 : Int32) (x0 : Int32) (τ : St), Ru M_H_storm d Q 109 [some (.ref a0), some (.int a1), some (.int a2), some (.int a3), some (.int a4), some (.int a5), some (.int a6), some (.int a7), some (.int a8), some (.int a9)] [.int x0] τ = Ru M_H_storm d Q 111 [some (.ref a0), some (.int a1), some (.int a2), some (.int a3), some (.int a4), some (.int a5), some (.int a6), some (.int a7), some (.int a8), some (.int a9)] [.int a4, .int x0] τ) ∧
    (∀ (a0 : Nat) (a1 : Int32) (a2 : Int32) (a3 : Int32) (a4 : Int32) (a5 : Int32) (a6 : Int32) (a7 : Int32) (a8 : Int32) (a9 : Int32) (x0 : Int32) (x1 : Int32) (τ : St), Ru M_H_storm d Q 111 [some (.ref a0), some (.int a1), some (.int a2), some (.int a3), some (.int a4), some (.int a5), some (.int a6), some (.int a7), some (.int a8), some (.int a9)] [.int x0, .int x1] τ = ((¬ x1 = x0 → Ru M_H_storm d Q 117 [some (.ref a0), some (.int a1), some (.int a2), some (.int a3), some (.int a4), some (.int a5), some (.int a6), some (.int a7), some (.int a8), some (.int a9)] [] τ) ∧ (x1 = x0 → Ru M_H_storm d Q 114 [some (.ref a0), some (.int a1), some (.int a2), some (.int a3), some (.int a4), some (.int a5), some (.int a6), some (.int a7), some (.int a8), some (.int a9)] [] τ))) ∧
    (∀ (a0 : Nat) (a1 : Int32) (a2 : Int32) (a3 : Int32) (a4 : Int32) (a5 : Int32) (a6 : Int32) (a7 : Int32) (a8 : Int32) (a9 : Int32) (τ : St), Ru M_H_storm d Q 114 [some (.ref a0), some (.int a1), some (.int a2), some (.int a3), some (.int a4), some (.int a5), some (.int a6), some (.int a7), some (.int a8), some (.int a9)] [] τ = Ru M_H_storm d Q 117 [some (.ref a0), some (.int a1), some (.int a2), some (.int (a3 + 1)), some (.int a4), some (.int a5), some (.int a6), some (.int a7), some (.int a8), some (.int a9)] [] τ) ∧
    (∀ (a0 : Nat) (a1 : Int32) (a2 : Int32) (a3 : Int32) (a4 : Int32) (a5 : Int32) (a6 : Int32) (a7 : Int32) (a8 : Int32) (a9 : Int32) (τ : St), Ru M_H_storm d Q 117 [some (.ref a0), some (.int a1), some (.int a2), some (.int a3), some (.int a4), some (.int a5), some (.int a6), some (.int a7), some (.int a8), some (.int a9)] [] τ = Ru M_H_storm d Q 120 [some (.ref a0), some (.int a1), some (.int a2), some (.int a3), some (.int a4), some (.int a5), some (.int a6), some (.int a7), some (.int (a8 + 1)), some (.int a9)] [] τ) ∧
    (∀ (a0 : Nat) (a1 : Int32) (a2 : Int32) (a3 : Int32) (a4 : Int32) (a5 : Int32) (a6 : Int32) (a7 : Int32) (a8 : Int32) (a9 : Int32) (τ : St), Ru M_H_storm d Q 120 [some (.ref a0), some (.int a1), some (.int a2), some (.int a3), some (.int a4), some (.int a5), some (.int a6), some (.int a7), some (.int a8), some (.int a9)] [] τ = Rs M_H_storm d Q 49 [some (.ref a0), some (.int a1), some (.int a2), some (.int a3), some (.int a4), some (.int a5), some (.int a6), some (.int a7), some (.int a8), some (.int a9)] [] τ) ∧
    (∀ (a0 : Nat) (a1 : Int32) (a2 : Int32) (a3 : Int32) (a4 : Int32) (a5 : Int32) (a6 : Int32) (a7 : Int32) (a8 : Int32) (a9 : Option Value) (τ : St), Ru M_H_storm d Q 123 [some (.ref a0), some (.int a1), some (.int a2), some (.int a3), some (.int a4), some (.int a5), some (.int a6), some (.int a7), some (.int a8), a9] [] τ = Ru M_H_storm d Q 126 [some (.ref a0), some (.int a1), some (.int a2), some (.int a3), some (.int a4), some (.int a5), some (.int a6), some (.int (a7 + 1)), some (.int a8), a9] [] τ) ∧
    (∀ (a0 : Nat) (a1 : Int32) (a2 : Int32) (a3 : Int32) (a4 : Int32) (a5 : Int32) (a6 : Int32) (a7 : Int32) (a8 : Int32) (a9 : Option Value) (τ : St), Ru M_H_storm d Q 126 [some (.ref a0), some (.int a1), some (.int a2), some (.int a3), some (.int a4), some (.int a5), some (.int a6), some (.int a7), some (.int a8), a9] [] τ = Rs M_H_storm d Q 39 [some (.ref a0), some (.int a1), some (.int a2), some (.int a3), some (.int a4), some (.int a5), some (.int a6), some (.int a7), some (.int a8), a9] [] τ) ∧
    (∀ (a0 : Nat) (a1 : Int32) (a2 : Int32) (a3 : Int32) (a4 : Int32) (a5 : Int32) (a6 : Int32) (a7 : Int32) (a8 : Option Value) (a9 : Option Value) (τ : St), Ru M_H_storm d Q 129 [some (.ref a0), some (.int a1), some (.int a2), some (.int a3), some (.int a4), some (.int a5), some (.int a6), some (.int a7), a8, a9] [] τ = Ru M_H_storm d Q 130 [some (.ref a0), some (.int a1), some (.int a2), some (.int a3), some (.int a4), some (.int a5), some (.int a6), some (.int a7), a8, a9] [.ref a0] τ) ∧
    (∀ (a0 : Nat) (a1 : Int32) (a2 : Int32) (a3 : Int32) (a4 : Int32) (a5 : Int32) (a6 : Int32) (a7 : Int32) (a8 : Option Value) (a9 : Option Value) (x0 : Nat) (τ : St), Ru M_H_storm d Q 130 [some (.ref a0), some (.int a1), some (.int a2), some (.int a3), some (.int a4), some (.int a5), some (.int a6), some (.int a7), a8, a9] [.ref x0] τ = (isA 11 x0 ∧ Ru M_H_storm d Q 133 [some (.ref a0), some (.int a1), some (.int a2), some (.int a3), some (.int a4), some (.int a5), some (.int a6), some (.int a7), a8, a9] [.ref (rtab x0 1)] τ)) ∧
    (∀ (a0 : Nat) (a1 : Int32) (a2 : Int32) (a3 : Int32) (a4 : Int32) (a5 : Int32) (a6 : Int32) (a7 : Int32) (a8 : Option Value) (a9 : Option Value) (x0 : Nat) (τ : St), Ru M_H_storm d Q 133 [some (.ref a0), some (.int a1), some (.int a2), some (.int a3), some (.int a4), some (.int a5), some (.int a6), some (.int a7), a8, a9] [.ref x0] τ = Ru M_H_storm d Q 135 [some (.ref a0), some (.int a1), some (.int a2), some (.int a3), some (.int a4), some (.int a5), some (.int a6), some (.int a7), a8, a9] [.int a5, .ref x0] τ) ∧
    (∀ (a0 : Nat) (a1 : Int32) (a2 : Int32) (a3 : Int32) (a4 : Int32) (a5 : Int32) (a6 : Int32) (a7 : Int32) (a8 : Option Value) (a9 : Option Value) (x0 : Int32) (x1 : Nat) (τ : St), Ru M_H_storm d Q 135 [some (.ref a0), some (.int a1), some (.int a2), some (.int a3), some (.int a4), some (.int a5), some (.int a6), some (.int a7), a8, a9] [.int x0, .ref x1] τ = Ru M_H_storm d Q 136 [some (.ref a0), some (.int a1), some (.int a2), some (.int a3), some (.int a4), some (.int a5), some (.int a6), some (.int a7), a8, a9] [.long x0.toInt64, .ref x1] τ) ∧
    (∀ (a0 : Nat) (a1 : Int32) (a2 : Int32) (a3 : Int32) (a4 : Int32) (a5 : Int32) (a6 : Int32) (a7 : Int32) (a8 : Option Value) (a9 : Option Value) (x0 : Int64) (x1 : Nat) (τ : St), Ru M_H_storm d Q 136 [some (.ref a0), some (.int a1), some (.int a2), some (.int a3), some (.int a4), some (.int a5), some (.int a6), some (.int a7), a8, a9] [.long x0, .ref x1] τ = Ru M_H_storm d Q 138 [some (.ref a0), some (.int a1), some (.int a2), some (.int a3), some (.int a4), some (.int a5), some (.int a6), some (.int a7), a8, a9] [.int a6, .long x0, .ref x1] τ) ∧
    (∀ (a0 : Nat) (a1 : Int32) (a2 : Int32) (a3 : Int32) (a4 : Int32) (a5 : Int32) (a6 : Int32) (a7 : Int32) (a8 : Option Value) (a9 : Option Value) (x0 : Int32) (x1 : Int64) (x2 : Nat) (τ : St), Ru M_H_storm d Q 138 [some (.ref a0), some (.int a1), some (.int a2), some (.int a3), some (.int a4), some (.int a5), some (.int a6), some (.int a7), a8, a9] [.int x0, .long x1, .ref x2] τ = Ru M_H_storm d Q 139 [some (.ref a0), some (.int a1), some (.int a2), some (.int a3), some (.int a4), some (.int a5), some (.int a6), some (.int a7), a8, a9] [.long x0.toInt64, .long x1, .ref x2] τ) ∧
    (∀ (a0 : Nat) (a1 : Int32) (a2 : Int32) (a3 : Int32) (a4 : Int32) (a5 : Int32) (a6 : Int32) (a7 : Int32) (a8 : Option Value) (a9 : Option Value) (x0 : Int64) (x1 : Int64) (x2 : Nat) (τ : St), Ru M_H_storm d Q 139 [some (.ref a0), some (.int a1), some (.int a2), some (.int a3), some (.int a4), some (.int a5), some (.int a6), some (.int a7), a8, a9] [.long x0, .long x1, .ref x2] τ = (isA 4 x2 ∧ Cl d m_Row_both [.ref x2, .long x1, .long x0] τ (fun v τ' => Ru M_H_storm d Q 142 [some (.ref a0), some (.int a1), some (.int a2), some (.int a3), some (.int a4), some (.int a5), some (.int a6), some (.int a7), a8, a9] (v.toList ++ []) τ'))) ∧
    (∀ (a0 : Nat) (a1 : Int32) (a2 : Int32) (a3 : Int32) (a4 : Int32) (a5 : Int32) (a6 : Int32) (a7 : Int32) (a8 : Option Value) (a9 : Option Value) (τ : St), Ru M_H_storm d Q 142 [some (.ref a0), some (.int a1), some (.int a2), some (.int a3), some (.int a4), some (.int a5), some (.int a6), some (.int a7), a8, a9] [] τ = Ru M_H_storm d Q 143 [some (.ref a0), some (.int a1), some (.int a2), some (.int a3), some (.int a4), some (.int a5), some (.int a6), some (.int a7), a8, a9] [.ref a0] τ) ∧
    (∀ (a0 : Nat) (a1 : Int32) (a2 : Int32) (a3 : Int32) (a4 : Int32) (a5 : Int32) (a6 : Int32) (a7 : Int32) (a8 : Option Value) (a9 : Option Value) (x0 : Nat) (τ : St), Ru M_H_storm d Q 143 [some (.ref a0), some (.int a1), some (.int a2), some (.int a3), some (.int a4), some (.int a5), some (.int a6), some (.int a7), a8, a9] [.ref x0] τ = (isA 11 x0 ∧ Ru M_H_storm d Q 146 [some (.ref a0), some (.int a1), some (.int a2), some (.int a3), some (.int a4), some (.int a5), some (.int a6), some (.int a7), a8, a9] [.ref (rtab x0 1)] τ)) ∧
    (∀ (a0 : Nat) (a1 : Int32) (a2 : Int32) (a3 : Int32) (a4 : Int32) (a5 : Int32) (a6 : Int32) (a7 : Int32) (a8 : Option Value) (a9 : Option Value) (x0 : Nat) (τ : St), Ru M_H_storm d Q 146 [some (.ref a0), some (.int a1), some (.int a2), some (.int a3), some (.int a4), some (.int a5), some (.int a6), some (.int a7), a8, a9] [.ref x0] τ = Ru M_H_storm d Q 148 [some (.ref a0), some (.int a1), some (.int a2), some (.int a3), some (.int a4), some (.int a5), some (.int a6), some (.int a7), a8, a9] [.int a4, .ref x0] τ) ∧
    (∀ (a0 : Nat) (a1 : Int32) (a2 : Int32) (a3 : Int32) (a4 : Int32) (a5 : Int32) (a6 : Int32) (a7 : Int32) (a8 : Option Value) (a9 : Option Value) (x0 : Int32) (x1 : Nat) (τ : St), Ru M_H_storm d Q 148 [some (.ref a0), some (.int a1), some (.int a2), some (.int a3), some (.int a4), some (.int a5), some (.int a6), some (.int a7), a8, a9] [.int x0, .ref x1] τ = Ru M_H_storm d Q 149 [some (.ref a0), some (.int a1), some (.int a2), some (.int a3), some (.int a4), some (.int a5), some (.int a6), some (.int a7), a8, a9] [.long x0.toInt64, .ref x1] τ) ∧
    (∀ (a0 : Nat) (a1 : Int32) (a2 : Int32) (a3 : Int32) (a4 : Int32) (a5 : Int32) (a6 : Int32) (a7 : Int32) (a8 : Option Value) (a9 : Option Value) (x0 : Int64) (x1 : Nat) (τ : St), Ru M_H_storm d Q 149 [some (.ref a0), some (.int a1), some (.int a2), some (.int a3), some (.int a4), some (.int a5), some (.int a6), some (.int a7), a8, a9] [.long x0, .ref x1] τ = (isA 4 x1 ∧ Cl d m_Row_add [.ref x1, .long x0] τ (fun v τ' => Ru M_H_storm d Q 152 [some (.ref a0), some (.int a1), some (.int a2), some (.int a3), some (.int a4), some (.int a5), some (.int a6), some (.int a7), a8, a9] (v.toList ++ []) τ'))) ∧
    (∀ (a0 : Nat) (a1 : Int32) (a2 : Int32) (a3 : Int32) (a4 : Int32) (a5 : Int32) (a6 : Int32) (a7 : Int32) (a8 : Option Value) (a9 : Option Value) (τ : St), Ru M_H_storm d Q 152 [some (.ref a0), some (.int a1), some (.int a2), some (.int a3), some (.int a4), some (.int a5), some (.int a6), some (.int a7), a8, a9] [] τ = Ru M_H_storm d Q 153 [some (.ref a0), some (.int a1), some (.int a2), some (.int a3), some (.int a4), some (.int a5), some (.int a6), some (.int a7), a8, a9] [.int a3] τ) ∧
    (∀ (a0 : Nat) (a1 : Int32) (a2 : Int32) (a3 : Int32) (a4 : Int32) (a5 : Int32) (a6 : Int32) (a7 : Int32) (a8 : Option Value) (a9 : Option Value) (x0 : Int32) (τ : St), Ru M_H_storm d Q 153 [some (.ref a0), some (.int a1), some (.int a2), some (.int a3), some (.int a4), some (.int a5), some (.int a6), some (.int a7), a8, a9] [.int x0] τ = Q (some (.int x0)) τ) := ⟨
  fun _ _ _ _ => (R_at ok_H_storm rfl).trans (e_ild rfl),
  fun _ _ _ _ _ => (R_at ok_H_storm rfl).trans e_if,
  fun _ _ _ _ => (R_at ok_H_storm rfl).trans (e_ild rfl),
  fun _ _ _ _ _ => (R_at ok_H_storm rfl).trans e_if,
  fun _ _ _ _ => (R_at ok_H_storm rfl).trans (e_ild rfl),
  fun _ _ _ _ _ => (R_at ok_H_storm rfl).trans e_push,
  fun _ _ _ _ _ _ => (R_at ok_H_storm rfl).trans e_ic,
  fun _ _ _ _ => (R_at ok_H_storm rfl).trans (e_ild rfl),
  fun _ _ _ _ _ => (R_at ok_H_storm rfl).trans e_push,
  fun _ _ _ _ _ _ => (R_at ok_H_storm rfl).trans (e_ild rfl),
  fun _ _ _ _ _ _ _ => (R_at ok_H_storm rfl).trans e_bin,
  fun _ _ _ _ _ _ => (R_at ok_H_storm rfl).trans e_ic,
  fun _ _ _ _ => (R_at ok_H_storm rfl).trans e_push,
  fun _ _ _ _ _ => (R_at ok_H_storm rfl).trans e_iret,
  fun _ _ _ _ => (R_at ok_H_storm rfl).trans e_push,
  fun _ _ _ _ _ => (R_at ok_H_storm rfl).trans e_ist,
  fun _ _ _ _ _ => (R_at ok_H_storm rfl).trans e_push,
  fun _ _ _ _ _ _ => (R_at ok_H_storm rfl).trans e_ist,
  fun _ _ _ _ _ _ => (R_at ok_H_storm rfl).trans e_push,
  fun _ _ _ _ _ _ _ => (R_at ok_H_storm rfl).trans e_ist,
  fun _ _ _ _ _ _ _ => (R_at ok_H_storm rfl).trans e_push,
  fun _ _ _ _ _ _ _ _ => (R_at ok_H_storm rfl).trans e_ist,
  fun _ _ _ _ _ _ _ _ => (R_at ok_H_storm rfl).trans e_push,
  fun _ _ _ _ _ _ _ _ _ => (R_at ok_H_storm rfl).trans e_ist,
  fun _ _ _ _ _ _ _ _ _ _ _ => (R_at ok_H_storm rfl).trans (e_ild rfl),
  fun _ _ _ _ _ _ _ _ _ _ _ _ => (R_at ok_H_storm rfl).trans e_push,
  fun _ _ _ _ _ _ _ _ _ _ _ _ _ => (R_at ok_H_storm rfl).trans e_ic,
  fun _ _ _ _ _ _ _ _ _ _ _ => (R_at ok_H_storm rfl).trans e_push,
  fun _ _ _ _ _ _ _ _ _ _ _ _ => (R_at ok_H_storm rfl).trans e_ist,
  fun _ _ _ _ _ _ _ _ _ _ _ => (R_at ok_H_storm rfl).trans (e_ild rfl),
  fun _ _ _ _ _ _ _ _ _ _ _ _ => (R_at ok_H_storm rfl).trans e_push,
  fun _ _ _ _ _ _ _ _ _ _ _ _ _ => (R_at ok_H_storm rfl).trans (e_ild rfl),
  fun _ _ _ _ _ _ _ _ _ _ _ _ _ _ => (R_at ok_H_storm rfl).trans e_bin,
  fun _ _ _ _ _ _ _ _ _ _ _ _ _ => (R_at ok_H_storm rfl).trans e_ic,
  fun _ _ _ _ _ _ _ _ _ _ _ => (R_at ok_H_storm rfl).trans (e_ild rfl),
  fun _ _ _ _ _ _ _ _ _ _ _ _ => (R_at ok_H_storm rfl).trans (e_ild rfl),
  fun _ _ _ _ _ _ _ _ _ _ x0 x1 _ => (R_at ok_H_storm rfl).trans (e_cs [.int x1, .int x0] rfl rfl rfl),
  fun _ _ _ _ _ _ _ _ _ _ _ _ => (R_at ok_H_storm rfl).trans (e_ild rfl),
  fun _ _ _ _ _ _ _ _ _ _ _ _ _ => (R_at ok_H_storm rfl).trans (e_ild rfl),
  fun _ _ _ _ _ _ _ _ _ _ x0 x1 _ _ => (R_at ok_H_storm rfl).trans (e_cs [.int x1, .int x0] rfl rfl rfl),
  fun _ _ _ _ _ _ _ _ _ _ _ _ _ => (R_at ok_H_storm rfl).trans e_bin,
  fun _ _ _ _ _ _ _ _ _ _ _ _ => (R_at ok_H_storm rfl).trans (e_ild rfl),
  fun _ _ _ _ _ _ _ _ _ _ _ _ _ => (R_at ok_H_storm rfl).trans (e_ild rfl),
  fun _ _ _ _ _ _ _ _ _ _ _ _ _ _ => (R_at ok_H_storm rfl).trans e_bin,
  fun _ _ _ _ _ _ _ _ _ _ _ _ _ => (R_at ok_H_storm rfl).trans (e_ild rfl),
  fun _ _ _ _ _ _ _ _ _ _ _ _ _ _ => (R_at ok_H_storm rfl).trans (e_ild rfl),
  fun _ _ _ _ _ _ _ _ _ _ _ _ _ _ _ => (R_at ok_H_storm rfl).trans e_bin,
  fun _ _ _ _ _ _ _ _ _ _ x0 x1 _ _ => (R_at ok_H_storm rfl).trans (e_cs [.int x1, .int x0] rfl rfl rfl),
  fun _ _ _ _ _ _ _ _ _ _ _ _ _ => (R_at ok_H_storm rfl).trans e_bin,
  fun _ _ _ _ _ _ _ _ _ _ _ _ => (R_at ok_H_storm rfl).trans e_ist,
  fun _ _ _ _ _ _ _ _ _ _ _ => (R_at ok_H_storm rfl).trans (e_ild rfl),
  fun _ _ _ _ _ _ _ _ _ _ _ _ => (R_at ok_H_storm rfl).trans (e_ild rfl),
  fun _ _ _ _ _ _ _ _ _ _ _ _ _ => (R_at ok_H_storm rfl).trans e_ic,
  fun _ _ _ _ _ _ _ _ _ _ _ => (R_at ok_H_storm rfl).trans (e_ild rfl),
  fun _ _ _ _ _ _ _ _ _ _ _ _ => (R_at ok_H_storm rfl).trans e_ist,
  fun _ _ _ _ _ _ _ _ _ _ _ => (R_at ok_H_storm rfl).trans e_push,
  fun _ _ _ _ _ _ _ _ _ _ _ _ => (R_at ok_H_storm rfl).trans e_ist,
  fun _ _ _ _ _ _ _ _ _ _ _ => (R_at ok_H_storm rfl).trans (e_ild rfl),
  fun _ _ _ _ _ _ _ _ _ _ _ _ => (R_at ok_H_storm rfl).trans e_ist,
  fun _ _ _ _ _ _ _ _ _ _ _ => (R_at ok_H_storm rfl).trans (e_ild rfl),
  fun _ _ _ _ _ _ _ _ _ _ _ _ => (R_at ok_H_storm rfl).trans e_ist,
  fun _ _ _ _ _ _ _ _ _ _ _ => (R_at ok_H_storm rfl).trans (e_ild rfl),
  fun _ _ _ _ _ _ _ _ _ _ _ _ => (R_at ok_H_storm rfl).trans (e_ild rfl),
  fun _ _ _ _ _ _ _ _ _ _ _ _ _ => (R_at ok_H_storm rfl).trans e_icn,
  fun _ _ _ _ _ _ _ _ _ _ _ => (R_at ok_H_storm rfl).trans (e_iinc rfl),
  fun _ _ _ _ _ _ _ _ _ _ _ => (R_at ok_H_storm rfl).trans (e_iinc rfl),
  fun _ _ _ _ _ _ _ _ _ _ _ => (R_at ok_H_storm rfl).trans e_goto,
  fun _ _ _ _ _ _ _ _ _ _ _ => (R_at ok_H_storm rfl).trans (e_iinc rfl),
  fun _ _ _ _ _ _ _ _ _ _ _ => (R_at ok_H_storm rfl).trans e_goto,
  fun _ _ _ _ _ _ _ _ _ _ _ => (R_at ok_H_storm rfl).trans (e_ald rfl),
  fun _ _ _ _ _ _ _ _ _ _ _ _ => (R_at ok_H_storm rfl).trans e_gR,
  fun _ _ _ _ _ _ _ _ _ _ _ _ => (R_at ok_H_storm rfl).trans (e_ild rfl),
  fun _ _ _ _ _ _ _ _ _ _ _ _ _ => (R_at ok_H_storm rfl).trans e_il,
  fun _ _ _ _ _ _ _ _ _ _ _ _ _ => (R_at ok_H_storm rfl).trans (e_ild rfl),
  fun _ _ _ _ _ _ _ _ _ _ _ _ _ _ => (R_at ok_H_storm rfl).trans e_il,
  fun _ _ _ _ _ _ _ _ _ _ x0 x1 _ _ => (R_at ok_H_storm rfl).trans (e_cv [.long x1, .long x0] rfl rfl rfl),
  fun _ _ _ _ _ _ _ _ _ _ _ => (R_at ok_H_storm rfl).trans (e_ald rfl),
  fun _ _ _ _ _ _ _ _ _ _ _ _ => (R_at ok_H_storm rfl).trans e_gR,
  fun _ _ _ _ _ _ _ _ _ _ _ _ => (R_at ok_H_storm rfl).trans (e_ild rfl),
  fun _ _ _ _ _ _ _ _ _ _ _ _ _ => (R_at ok_H_storm rfl).trans e_il,
  fun _ _ _ _ _ _ _ _ _ _ x0 _ _ => (R_at ok_H_storm rfl).trans (e_cv [.long x0] rfl rfl rfl),
  fun _ _ _ _ _ _ _ _ _ _ _ => (R_at ok_H_storm rfl).trans (e_ild rfl),
  fun _ _ _ _ _ _ _ _ _ _ _ _ => (R_at ok_H_storm rfl).trans e_iret⟩
