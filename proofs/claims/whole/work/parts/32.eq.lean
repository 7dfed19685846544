/-! what each method does, an instruction an equation -/
set_option maxHeartbeats 4000000 in
theorem N_H_wonBy (d : Nat) (Q : Qt) : ∀ (x0 : Int32) (x1 : Int32) (τ : St), Cl (d + 1) m_H_wonBy [.int x0, .int x1] τ Q = Ru M_H_wonBy d Q 0 [some (.int x0), some (.int x1)] [] τ := fun _ _ _ => propext ⟨fun h => h.2, fun h => ⟨Nat.le_of_ble_eq_true rfl, h⟩⟩
set_option maxHeartbeats 4000000 in
theorem E_H_wonBy (d : Nat) (Q : Qt) :
    (∀ (a0 : Int32) (a1 : Int32) (τ : St), Ru M_H_wonBy d Q 0 [some (.int a0), some (.int a1)] [] τ = Ru M_H_wonBy d Q 1 [some (.int a0), some (.int a1)] [.int a0] τ) ∧
    (∀ (a0 : Int32) (a1 : Int32) (x0 : Int32) (τ : St), Ru M_H_wonBy d Q 1 [some (.int a0), some (.int a1)] [.int x0] τ = Ru M_H_wonBy d Q 2 [some (.int a0), some (.int a1)] [.int a1, .int x0] τ) ∧
    (∀ (a0 : Int32) (a1 : Int32) (x0 : Int32) (x1 : Int32) (τ : St), Ru M_H_wonBy d Q 2 [some (.int a0), some (.int a1)] [.int x0, .int x1] τ = ((¬ x1 = x0 → Ru M_H_wonBy d Q 7 [some (.int a0), some (.int a1)] [] τ) ∧ (x1 = x0 → Ru M_H_wonBy d Q 5 [some (.int a0), some (.int a1)] [] τ))) ∧
    (∀ (a0 : Int32) (a1 : Int32) (τ : St), Ru M_H_wonBy d Q 5 [some (.int a0), some (.int a1)] [] τ = Ru M_H_wonBy d Q 6 [some (.int a0), some (.int a1)] [.int 0] τ) ∧
    (∀ (a0 : Int32) (a1 : Int32) (x0 : Int32) (τ : St), Ru M_H_wonBy d Q 6 [some (.int a0), some (.int a1)] [.int x0] τ = Q (some (.int x0)) τ) ∧
    (∀ (a0 : Int32) (a1 : Int32) (τ : St), Ru M_H_wonBy d Q 7 [some (.int a0), some (.int a1)] [] τ = Ru M_H_wonBy d Q 8 [some (.int a0), some (.int a1)] [.int a0] τ) ∧
    (∀ (a0 : Int32) (a1 : Int32) (x0 : Int32) (τ : St), Ru M_H_wonBy d Q 8 [some (.int a0), some (.int a1)] [.int x0] τ = Ru M_H_wonBy d Q 9 [some (.int a0), some (.int a1)] [.int a1, .int x0] τ) ∧
    (∀ (a0 : Int32) (a1 : Int32) (x0 : Int32) (x1 : Int32) (τ : St), Ru M_H_wonBy d Q 9 [some (.int a0), some (.int a1)] [.int x0, .int x1] τ = ((x1 ≤ x0 → Ru M_H_wonBy d Q 16 [some (.int a0), some (.int a1)] [] τ) ∧ (¬ x1 ≤ x0 → Ru M_H_wonBy d Q 12 [some (.int a0), some (.int a1)] [] τ))) ∧
    (∀ (a0 : Int32) (a1 : Int32) (τ : St), Ru M_H_wonBy d Q 12 [some (.int a0), some (.int a1)] [] τ = Ru M_H_wonBy d Q 13 [some (.int a0), some (.int a1)] [.int 1] τ) ∧
    (∀ (a0 : Int32) (a1 : Int32) (x0 : Int32) (τ : St), Ru M_H_wonBy d Q 13 [some (.int a0), some (.int a1)] [.int x0] τ = Ru M_H_wonBy d Q 17 [some (.int a0), some (.int a1)] [.int x0] τ) ∧
    (∀ (a0 : Int32) (a1 : Int32) (τ : St), Ru M_H_wonBy d Q 16 [some (.int a0), some (.int a1)] [] τ = Ru M_H_wonBy d Q 17 [some (.int a0), some (.int a1)] [.int (-1)] τ) ∧
    (∀ (a0 : Int32) (a1 : Int32) (x0 : Int32) (τ : St), Ru M_H_wonBy d Q 17 [some (.int a0), some (.int a1)] [.int x0] τ = Q (some (.int x0)) τ) := ⟨
  fun _ _ _ => (R_at ok_H_wonBy rfl).trans (e_ild rfl),
  fun _ _ _ _ => (R_at ok_H_wonBy rfl).trans (e_ild rfl),
  fun _ _ _ _ _ => (R_at ok_H_wonBy rfl).trans e_icn,
  fun _ _ _ => (R_at ok_H_wonBy rfl).trans e_push,
  fun _ _ _ _ => (R_at ok_H_wonBy rfl).trans e_iret,
  fun _ _ _ => (R_at ok_H_wonBy rfl).trans (e_ild rfl),
  fun _ _ _ _ => (R_at ok_H_wonBy rfl).trans (e_ild rfl),
  fun _ _ _ _ _ => (R_at ok_H_wonBy rfl).trans e_ic,
  fun _ _ _ => (R_at ok_H_wonBy rfl).trans e_push,
  fun _ _ _ _ => (R_at ok_H_wonBy rfl).trans e_goto,
  fun _ _ _ => (R_at ok_H_wonBy rfl).trans e_push,
  fun _ _ _ _ => (R_at ok_H_wonBy rfl).trans e_iret⟩
set_option maxHeartbeats 4000000 in
theorem N_H_town (d : Nat) (Q : Qt) : ∀ (x0 : Nat) (x1 : Int32) (x2 : Int32) (τ : St), Cl (d + 1) m_H_town [.ref x0, .int x1, .int x2] τ Q = Ru M_H_town d Q 0 [some (.ref x0), some (.int x1), some (.int x2)] [] τ := fun _ _ _ _ => propext ⟨fun h => h.2, fun h => ⟨Nat.le_of_ble_eq_true rfl, h⟩⟩
set_option maxHeartbeats 4000000 in
theorem E_H_town (d : Nat) (Q : Qt) :
    (∀ (a0 : Nat) (a1 : Int32) (a2 : Int32) (τ : St), Ru M_H_town d Q 0 [some (.ref a0), some (.int a1), some (.int a2)] [] τ = Ru M_H_town d Q 1 [some (.ref a0), some (.int a1), some (.int a2)] [.int a1] τ) ∧
    (∀ (a0 : Nat) (a1 : Int32) (a2 : Int32) (x0 : Int32) (τ : St), Ru M_H_town d Q 1 [some (.ref a0), some (.int a1), some (.int a2)] [.int x0] τ = Ru M_H_town d Q 2 [some (.ref a0), some (.int a1), some (.int a2)] [.int 1, .int x0] τ) ∧
    (∀ (a0 : Nat) (a1 : Int32) (a2 : Int32) (x0 : Int32) (x1 : Int32) (τ : St), Ru M_H_town d Q 2 [some (.ref a0), some (.int a1), some (.int a2)] [.int x0, .int x1] τ = ((x1 < x0 → Ru M_H_town d Q 22 [some (.ref a0), some (.int a1), some (.int a2)] [] τ) ∧ (¬ x1 < x0 → Ru M_H_town d Q 5 [some (.ref a0), some (.int a1), some (.int a2)] [] τ))) ∧
    (∀ (a0 : Nat) (a1 : Int32) (a2 : Int32) (τ : St), Ru M_H_town d Q 5 [some (.ref a0), some (.int a1), some (.int a2)] [] τ = Ru M_H_town d Q 6 [some (.ref a0), some (.int a1), some (.int a2)] [.int a1] τ) ∧
    (∀ (a0 : Nat) (a1 : Int32) (a2 : Int32) (x0 : Int32) (τ : St), Ru M_H_town d Q 6 [some (.ref a0), some (.int a1), some (.int a2)] [.int x0] τ = Ru M_H_town d Q 8 [some (.ref a0), some (.int a1), some (.int a2)] [.int 60, .int x0] τ) ∧
    (∀ (a0 : Nat) (a1 : Int32) (a2 : Int32) (x0 : Int32) (x1 : Int32) (τ : St), Ru M_H_town d Q 8 [some (.ref a0), some (.int a1), some (.int a2)] [.int x0, .int x1] τ = ((x0 < x1 → Ru M_H_town d Q 22 [some (.ref a0), some (.int a1), some (.int a2)] [] τ) ∧ (¬ x0 < x1 → Ru M_H_town d Q 11 [some (.ref a0), some (.int a1), some (.int a2)] [] τ))) ∧
    (∀ (a0 : Nat) (a1 : Int32) (a2 : Int32) (τ : St), Ru M_H_town d Q 11 [some (.ref a0), some (.int a1), some (.int a2)] [] τ = Ru M_H_town d Q 12 [some (.ref a0), some (.int a1), some (.int a2)] [.int a2] τ) ∧
    (∀ (a0 : Nat) (a1 : Int32) (a2 : Int32) (x0 : Int32) (τ : St), Ru M_H_town d Q 12 [some (.ref a0), some (.int a1), some (.int a2)] [.int x0] τ = Ru M_H_town d Q 13 [some (.ref a0), some (.int a1), some (.int a2)] [.int 1, .int x0] τ) ∧
    (∀ (a0 : Nat) (a1 : Int32) (a2 : Int32) (x0 : Int32) (x1 : Int32) (τ : St), Ru M_H_town d Q 13 [some (.ref a0), some (.int a1), some (.int a2)] [.int x0, .int x1] τ = ((x1 < x0 → Ru M_H_town d Q 22 [some (.ref a0), some (.int a1), some (.int a2)] [] τ) ∧ (¬ x1 < x0 → Ru M_H_town d Q 16 [some (.ref a0), some (.int a1), some (.int a2)] [] τ))) ∧
    (∀ (a0 : Nat) (a1 : Int32) (a2 : Int32) (τ : St), Ru M_H_town d Q 16 [some (.ref a0), some (.int a1), some (.int a2)] [] τ = Ru M_H_town d Q 17 [some (.ref a0), some (.int a1), some (.int a2)] [.int a2] τ) ∧
    (∀ (a0 : Nat) (a1 : Int32) (a2 : Int32) (x0 : Int32) (τ : St), Ru M_H_town d Q 17 [some (.ref a0), some (.int a1), some (.int a2)] [.int x0] τ = Ru M_H_town d Q 19 [some (.ref a0), some (.int a1), some (.int a2)] [.int 20, .int x0] τ) ∧
    (∀ (a0 : Nat) (a1 : Int32) (a2 : Int32) (x0 : Int32) (x1 : Int32) (τ : St), Ru M_H_town d Q 19 [some (.ref a0), some (.int a1), some (.int a2)] [.int x0, .int x1] τ = ((x1 ≤ x0 → Ru M_H_town d Q 24 [some (.ref a0), some (.int a1), some (.int a2)] [] τ) ∧ (¬ x1 ≤ x0 → Ru M_H_town d Q 22 [some (.ref a0), some (.int a1), some (.int a2)] [] τ))) ∧
    (∀ (a0 : Nat) (a1 : Int32) (a2 : Int32) (τ : St), Ru M_H_town d Q 22 [some (.ref a0), some (.int a1), some (.int a2)] [] τ = Ru M_H_town d Q 23 [some (.ref a0), some (.int a1), some (.int a2)] [.int (-1)] τ) ∧
    (∀ (a0 : Nat) (a1 : Int32) (a2 : Int32) (x0 : Int32) (τ : St), Ru M_H_town d Q 23 [some (.ref a0), some (.int a1), some (.int a2)] [.int x0] τ = Q (some (.int x0)) τ) ∧
    (∀ (a0 : Nat) (a1 : Int32) (a2 : Int32) (τ : St), Ru M_H_town d Q 24 [some (.ref a0), some (.int a1), some (.int a2)] [] τ = Ru M_H_town d Q 25 [some (.ref a0), some (.int a1), some (.int a2)] [.ref a0] τ) ∧
    (∀ (a0 : Nat) (a1 : Int32) (a2 : Int32) (x0 : Nat) (τ : St), Ru M_H_town d Q 25 [some (.ref a0), some (.int a1), some (.int a2)] [.ref x0] τ = (isA 11 x0 ∧ Ru M_H_town d Q 28 [some (.ref a0), some (.int a1), some (.int a2)] [.ref (rtab x0 15)] τ)) ∧
    (∀ (a0 : Nat) (a1 : Int32) (a2 : Int32) (x0 : Nat) (τ : St), Ru M_H_town d Q 28 [some (.ref a0), some (.int a1), some (.int a2)] [.ref x0] τ = Ru M_H_town d Q 29 [some (.ref a0), some (.int a1), some (.int a2)] [.int a1, .ref x0] τ) ∧
    (∀ (a0 : Nat) (a1 : Int32) (a2 : Int32) (x0 : Int32) (x1 : Nat) (τ : St), Ru M_H_town d Q 29 [some (.ref a0), some (.int a1), some (.int a2)] [.int x0, .ref x1] τ = Ru M_H_town d Q 30 [some (.ref a0), some (.int a1), some (.int a2)] [.int a2, .int x0, .ref x1] τ) ∧
    (∀ (a0 : Nat) (a1 : Int32) (a2 : Int32) (x0 : Int32) (x1 : Int32) (x2 : Nat) (τ : St), Ru M_H_town d Q 30 [some (.ref a0), some (.int a1), some (.int a2)] [.int x0, .int x1, .ref x2] τ = (isA 7 x2 ∧ Cl d m_Town_settle [.ref x2, .int x1, .int x0] τ (fun v τ' => Ru M_H_town d Q 33 [some (.ref a0), some (.int a1), some (.int a2)] (v.toList ++ []) τ'))) ∧
    (∀ (a0 : Nat) (a1 : Int32) (a2 : Int32) (τ : St), Ru M_H_town d Q 33 [some (.ref a0), some (.int a1), some (.int a2)] [] τ = Ru M_H_town d Q 34 [some (.ref a0), some (.int a1), some (.int a2)] [.ref a0] τ) ∧
    (∀ (a0 : Nat) (a1 : Int32) (a2 : Int32) (x0 : Nat) (τ : St), Ru M_H_town d Q 34 [some (.ref a0), some (.int a1), some (.int a2)] [.ref x0] τ = (isA 11 x0 ∧ Ru M_H_town d Q 37 [some (.ref a0), some (.int a1), some (.int a2)] [.ref (rtab x0 1)] τ)) ∧
    (∀ (a0 : Nat) (a1 : Int32) (a2 : Int32) (x0 : Nat) (τ : St), Ru M_H_town d Q 37 [some (.ref a0), some (.int a1), some (.int a2)] [.ref x0] τ = Ru M_H_town d Q 38 [some (.ref a0), some (.int a1), some (.int a2)] [.ref a0, .ref x0] τ) ∧
    (∀ (a0 : Nat) (a1 : Int32) (a2 : Int32) (x0 : Nat) (x1 : Nat) (τ : St), Ru M_H_town d Q 38 [some (.ref a0), some (.int a1), some (.int a2)] [.ref x0, .ref x1] τ = (isA 11 x0 ∧ Ru M_H_town d Q 41 [some (.ref a0), some (.int a1), some (.int a2)] [.ref (rtab x0 15), .ref x1] τ)) ∧
    (∀ (a0 : Nat) (a1 : Int32) (a2 : Int32) (x0 : Nat) (x1 : Nat) (τ : St), Ru M_H_town d Q 41 [some (.ref a0), some (.int a1), some (.int a2)] [.ref x0, .ref x1] τ = (isA 7 x0 ∧ Ru M_H_town d Q 44 [some (.ref a0), some (.int a1), some (.int a2)] [.ref (rtab x0 1), .ref x1] τ)) ∧
    (∀ (a0 : Nat) (a1 : Int32) (a2 : Int32) (x0 : Nat) (x1 : Nat) (τ : St), Ru M_H_town d Q 44 [some (.ref a0), some (.int a1), some (.int a2)] [.ref x0, .ref x1] τ = Ru M_H_town d Q 45 [some (.ref a0), some (.int a1), some (.int a2)] [.int 0, .ref x0, .ref x1] τ) ∧
    (∀ (a0 : Nat) (a1 : Int32) (a2 : Int32) (x0 : Int32) (x1 : Nat) (x2 : Nat) (τ : St), Ru M_H_town d Q 45 [some (.ref a0), some (.int a1), some (.int a2)] [.int x0, .ref x1, .ref x2] τ = (isA 14 x1 ∧ vp_in x0 (len x1) ∧ Ru M_H_town d Q 46 [some (.ref a0), some (.int a1), some (.int a2)] [.int (τ.1 x1 x0.toNatClampNeg), .ref x2] τ)) ∧
    (∀ (a0 : Nat) (a1 : Int32) (a2 : Int32) (x0 : Int32) (x1 : Nat) (τ : St), Ru M_H_town d Q 46 [some (.ref a0), some (.int a1), some (.int a2)] [.int x0, .ref x1] τ = Ru M_H_town d Q 47 [some (.ref a0), some (.int a1), some (.int a2)] [.long x0.toInt64, .ref x1] τ) ∧
    (∀ (a0 : Nat) (a1 : Int32) (a2 : Int32) (x0 : Int64) (x1 : Nat) (τ : St), Ru M_H_town d Q 47 [some (.ref a0), some (.int a1), some (.int a2)] [.long x0, .ref x1] τ = Ru M_H_town d Q 48 [some (.ref a0), some (.int a1), some (.int a2)] [.ref a0, .long x0, .ref x1] τ) ∧
    (∀ (a0 : Nat) (a1 : Int32) (a2 : Int32) (x0 : Nat) (x1 : Int64) (x2 : Nat) (τ : St), Ru M_H_town d Q 48 [some (.ref a0), some (.int a1), some (.int a2)] [.ref x0, .long x1, .ref x2] τ = (isA 11 x0 ∧ Ru M_H_town d Q 51 [some (.ref a0), some (.int a1), some (.int a2)] [.ref (rtab x0 15), .long x1, .ref x2] τ)) ∧
    (∀ (a0 : Nat) (a1 : Int32) (a2 : Int32) (x0 : Nat) (x1 : Int64) (x2 : Nat) (τ : St), Ru M_H_town d Q 51 [some (.ref a0), some (.int a1), some (.int a2)] [.ref x0, .long x1, .ref x2] τ = (isA 7 x0 ∧ Ru M_H_town d Q 54 [some (.ref a0), some (.int a1), some (.int a2)] [.int (τ.1 x0 2), .long x1, .ref x2] τ)) ∧
    (∀ (a0 : Nat) (a1 : Int32) (a2 : Int32) (x0 : Int32) (x1 : Int64) (x2 : Nat) (τ : St), Ru M_H_town d Q 54 [some (.ref a0), some (.int a1), some (.int a2)] [.int x0, .long x1, .ref x2] τ = Ru M_H_town d Q 55 [some (.ref a0), some (.int a1), some (.int a2)] [.long x0.toInt64, .long x1, .ref x2] τ) ∧
    (∀ (a0 : Nat) (a1 : Int32) (a2 : Int32) (x0 : Int64) (x1 : Int64) (x2 : Nat) (τ : St), Ru M_H_town d Q 55 [some (.ref a0), some (.int a1), some (.int a2)] [.long x0, .long x1, .ref x2] τ = (isA 4 x2 ∧ Cl d m_Row_both [.ref x2, .long x1, .long x0] τ (fun v τ' => Ru M_H_town d Q 58 [some (.ref a0), some (.int a1), some (.int a2)] (v.toList ++ []) τ'))) ∧
    (∀ (a0 : Nat) (a1 : Int32) (a2 : Int32) (τ : St), Ru M_H_town d Q 58 [some (.ref a0), some (.int a1), some (.int a2)] [] τ = Ru M_H_town d Q 59 [some (.ref a0), some (.int a1), some (.int a2)] [.ref a0] τ) ∧
    (∀ (a0 : Nat) (a1 : Int32) (a2 : Int32) (x0 : Nat) (τ : St), Ru M_H_town d Q 59 [some (.ref a0), some (.int a1), some (.int a2)] [.ref x0] τ = (isA 11 x0 ∧ Ru M_H_town d Q 62 [some (.ref a0), some (.int a1), some (.int a2)] [.ref (rtab x0 15)] τ)) ∧
    (∀ (a0 : Nat) (a1 : Int32) (a2 : Int32) (x0 : Nat) (τ : St), Ru M_H_town d Q 62 [some (.ref a0), some (.int a1), some (.int a2)] [.ref x0] τ = (isA 7 x0 ∧ Ru M_H_town d Q 65 [some (.ref a0), some (.int a1), some (.int a2)] [.ref (rtab x0 0)] τ)) ∧
    (∀ (a0 : Nat) (a1 : Int32) (a2 : Int32) (x0 : Nat) (τ : St), Ru M_H_town d Q 65 [some (.ref a0), some (.int a1), some (.int a2)] [.ref x0] τ = Ru M_H_town d Q 66 [some (.ref a0), some (.int a1), some (.int a2)] [.int 0, .ref x0] τ) ∧
    (∀ (a0 : Nat) (a1 : Int32) (a2 : Int32) (x0 : Int32) (x1 : Nat) (τ : St), Ru M_H_town d Q 66 [some (.ref a0), some (.int a1), some (.int a2)] [.int x0, .ref x1] τ = (isA 14 x1 ∧ vp_in x0 (len x1) ∧ Ru M_H_town d Q 67 [some (.ref a0), some (.int a1), some (.int a2)] [.int (τ.1 x1 x0.toNatClampNeg)] τ)) ∧
    (∀ (a0 : Nat) (a1 : Int32) (a2 : Int32) (x0 : Int32) (τ : St), Ru M_H_town d Q 67 [some (.ref a0), some (.int a1), some (.int a2)] [.int x0] τ = Q (some (.int x0)) τ) := ⟨
  fun _ _ _ _ => (R_at ok_H_town rfl).trans (e_ild rfl),
  fun _ _ _ _ _ => (R_at ok_H_town rfl).trans e_push,
  fun _ _ _ _ _ _ => (R_at ok_H_town rfl).trans e_ic,
  fun _ _ _ _ => (R_at ok_H_town rfl).trans (e_ild rfl),
  fun _ _ _ _ _ => (R_at ok_H_town rfl).trans e_push,
  fun _ _ _ _ _ _ => (R_at ok_H_town rfl).trans e_ic,
  fun _ _ _ _ => (R_at ok_H_town rfl).trans (e_ild rfl),
  fun _ _ _ _ _ => (R_at ok_H_town rfl).trans e_push,
  fun _ _ _ _ _ _ => (R_at ok_H_town rfl).trans e_ic,
  fun _ _ _ _ => (R_at ok_H_town rfl).trans (e_ild rfl),
  fun _ _ _ _ _ => (R_at ok_H_town rfl).trans e_push,
  fun _ _ _ _ _ _ => (R_at ok_H_town rfl).trans e_ic,
  fun _ _ _ _ => (R_at ok_H_town rfl).trans e_push,
  fun _ _ _ _ _ => (R_at ok_H_town rfl).trans e_iret,
  fun _ _ _ _ => (R_at ok_H_town rfl).trans (e_ald rfl),
  fun _ _ _ _ _ => (R_at ok_H_town rfl).trans e_gR,
  fun _ _ _ _ _ => (R_at ok_H_town rfl).trans (e_ild rfl),
  fun _ _ _ _ _ _ => (R_at ok_H_town rfl).trans (e_ild rfl),
  fun _ _ _ x0 x1 _ _ => (R_at ok_H_town rfl).trans (e_cv [.int x1, .int x0] rfl rfl rfl),
  fun _ _ _ _ => (R_at ok_H_town rfl).trans (e_ald rfl),
  fun _ _ _ _ _ => (R_at ok_H_town rfl).trans e_gR,
  fun _ _ _ _ _ => (R_at ok_H_town rfl).trans (e_ald rfl),
  fun _ _ _ _ _ _ => (R_at ok_H_town rfl).trans e_gR,
  fun _ _ _ _ _ _ => (R_at ok_H_town rfl).trans e_gR,
  fun _ _ _ _ _ _ => (R_at ok_H_town rfl).trans e_push,
  fun _ _ _ _ _ _ _ => (R_at ok_H_town rfl).trans e_al,
  fun _ _ _ _ _ _ => (R_at ok_H_town rfl).trans e_il,
  fun _ _ _ _ _ _ => (R_at ok_H_town rfl).trans (e_ald rfl),
  fun _ _ _ _ _ _ _ => (R_at ok_H_town rfl).trans e_gR,
  fun _ _ _ _ _ _ _ => (R_at ok_H_town rfl).trans e_gI,
  fun _ _ _ _ _ _ _ => (R_at ok_H_town rfl).trans e_il,
  fun _ _ _ x0 x1 _ _ => (R_at ok_H_town rfl).trans (e_cv [.long x1, .long x0] rfl rfl rfl),
  fun _ _ _ _ => (R_at ok_H_town rfl).trans (e_ald rfl),
  fun _ _ _ _ _ => (R_at ok_H_town rfl).trans e_gR,
  fun _ _ _ _ _ => (R_at ok_H_town rfl).trans e_gR,
  fun _ _ _ _ _ => (R_at ok_H_town rfl).trans e_push,
  fun _ _ _ _ _ _ => (R_at ok_H_town rfl).trans e_al,
  fun _ _ _ _ _ => (R_at ok_H_town rfl).trans e_iret⟩
set_option maxHeartbeats 4000000 in
theorem N_H_secret (d : Nat) (Q : Qt) : ∀ (x0 : Nat) (x1 : Int32) (x2 : Int32) (τ : St), Cl (d + 1) m_H_secret [.ref x0, .int x1, .int x2] τ Q = Ru M_H_secret d Q 0 [some (.ref x0), some (.int x1), some (.int x2), none, none, none, none, none, none] [] τ := fun _ _ _ _ => propext ⟨fun h => h.2, fun h => ⟨Nat.le_of_ble_eq_true rfl, h⟩⟩
set_option maxHeartbeats 4000000 in
theorem E_H_secret (d : Nat) (Q : Qt) :
    (∀ (a0 : Nat) (a1 : Int32) (a2 : Int32) (τ : St), Ru M_H_secret d Q 0 [some (.ref a0), some (.int a1), some (.int a2), none, none, none, none, none, none] [] τ = Ru M_H_secret d Q 1 [some (.ref a0), some (.int a1), some (.int a2), none, none, none, none, none, none] [.int a1] τ) ∧
    (∀ (a0 : Nat) (a1 : Int32) (a2 : Int32) (x0 : Int32) (τ : St), Ru M_H_secret d Q 1 [some (.ref a0), some (.int a1), some (.int a2), none, none, none, none, none, none] [.int x0] τ = ((x0 < 0 → Ru M_H_secret d Q 20 [some (.ref a0), some (.int a1), some (.int a2), none, none, none, none, none, none] [] τ) ∧ (¬ x0 < 0 → Ru M_H_secret d Q 4 [some (.ref a0), some (.int a1), some (.int a2), none, none, none, none, none, none] [] τ))) ∧
    (∀ (a0 : Nat) (a1 : Int32) (a2 : Int32) (τ : St), Ru M_H_secret d Q 4 [some (.ref a0), some (.int a1), some (.int a2), none, none, none, none, none, none] [] τ = Ru M_H_secret d Q 5 [some (.ref a0), some (.int a1), some (.int a2), none, none, none, none, none, none] [.int a1] τ) ∧
    (∀ (a0 : Nat) (a1 : Int32) (a2 : Int32) (x0 : Int32) (τ : St), Ru M_H_secret d Q 5 [some (.ref a0), some (.int a1), some (.int a2), none, none, none, none, none, none] [.int x0] τ = Ru M_H_secret d Q 7 [some (.ref a0), some (.int a1), some (.int a2), none, none, none, none, none, none] [.int 12, .int x0] τ) ∧
    (∀ (a0 : Nat) (a1 : Int32) (a2 : Int32) (x0 : Int32) (x1 : Int32) (τ : St), Ru M_H_secret d Q 7 [some (.ref a0), some (.int a1), some (.int a2), none, none, none, none, none, none] [.int x0, .int x1] τ = ((x0 < x1 → Ru M_H_secret d Q 20 [some (.ref a0), some (.int a1), some (.int a2), none, none, none, none, none, none] [] τ) ∧ (¬ x0 < x1 → Ru M_H_secret d Q 10 [some (.ref a0), some (.int a1), some (.int a2), none, none, none, none, none, none] [] τ))) ∧
    (∀ (a0 : Nat) (a1 : Int32) (a2 : Int32) (τ : St), Ru M_H_secret d Q 10 [some (.ref a0), some (.int a1), some (.int a2), none, none, none, none, none, none] [] τ = Ru M_H_secret d Q 11 [some (.ref a0), some (.int a1), some (.int a2), none, none, none, none, none, none] [.int a2] τ) ∧
    (∀ (a0 : Nat) (a1 : Int32) (a2 : Int32) (x0 : Int32) (τ : St), Ru M_H_secret d Q 11 [some (.ref a0), some (.int a1), some (.int a2), none, none, none, none, none, none] [.int x0] τ = ((x0 < 0 → Ru M_H_secret d Q 20 [some (.ref a0), some (.int a1), some (.int a2), none, none, none, none, none, none] [] τ) ∧ (¬ x0 < 0 → Ru M_H_secret d Q 14 [some (.ref a0), some (.int a1), some (.int a2), none, none, none, none, none, none] [] τ))) ∧
    (∀ (a0 : Nat) (a1 : Int32) (a2 : Int32) (τ : St), Ru M_H_secret d Q 14 [some (.ref a0), some (.int a1), some (.int a2), none, none, none, none, none, none] [] τ = Ru M_H_secret d Q 15 [some (.ref a0), some (.int a1), some (.int a2), none, none, none, none, none, none] [.int a2] τ) ∧
    (∀ (a0 : Nat) (a1 : Int32) (a2 : Int32) (x0 : Int32) (τ : St), Ru M_H_secret d Q 15 [some (.ref a0), some (.int a1), some (.int a2), none, none, none, none, none, none] [.int x0] τ = Ru M_H_secret d Q 17 [some (.ref a0), some (.int a1), some (.int a2), none, none, none, none, none, none] [.int 10, .int x0] τ) ∧
    (∀ (a0 : Nat) (a1 : Int32) (a2 : Int32) (x0 : Int32) (x1 : Int32) (τ : St), Ru M_H_secret d Q 17 [some (.ref a0), some (.int a1), some (.int a2), none, none, none, none, none, none] [.int x0, .int x1] τ = ((x1 ≤ x0 → Ru M_H_secret d Q 22 [some (.ref a0), some (.int a1), some (.int a2), none, none, none, none, none, none] [] τ) ∧ (¬ x1 ≤ x0 → Ru M_H_secret d Q 20 [some (.ref a0), some (.int a1), some (.int a2), none, none, none, none, none, none] [] τ))) ∧
    (∀ (a0 : Nat) (a1 : Int32) (a2 : Int32) (τ : St), Ru M_H_secret d Q 20 [some (.ref a0), some (.int a1), some (.int a2), none, none, none, none, none, none] [] τ = Ru M_H_secret d Q 21 [some (.ref a0), some (.int a1), some (.int a2), none, none, none, none, none, none] [.int (-1)] τ) ∧
    (∀ (a0 : Nat) (a1 : Int32) (a2 : Int32) (x0 : Int32) (τ : St), Ru M_H_secret d Q 21 [some (.ref a0), some (.int a1), some (.int a2), none, none, none, none, none, none] [.int x0] τ = Q (some (.int x0)) τ) ∧
    (∀ (a0 : Nat) (a1 : Int32) (a2 : Int32) (τ : St), Ru M_H_secret d Q 22 [some (.ref a0), some (.int a1), some (.int a2), none, none, none, none, none, none] [] τ = Ru M_H_secret d Q 24 [some (.ref a0), some (.int a1), some (.int a2), none, none, none, none, none, none] [.int 10] τ) ∧
    (∀ (a0 : Nat) (a1 : Int32) (a2 : Int32) (x0 : Int32) (τ : St), Ru M_H_secret d Q 24 [some (.ref a0), some (.int a1), some (.int a2), none, none, none, none, none, none] [.int x0] τ = Ru M_H_secret d Q 25 [some (.ref a0), some (.int a1), some (.int a2), none, none, none, none, none, none] [.int a2, .int x0] τ) ∧
    (∀ (a0 : Nat) (a1 : Int32) (a2 : Int32) (x0 : Int32) (x1 : Int32) (τ : St), Ru M_H_secret d Q 25 [some (.ref a0), some (.int a1), some (.int a2), none, none, none, none, none, none] [.int x0, .int x1] τ = Ru M_H_secret d Q 26 [some (.ref a0), some (.int a1), some (.int a2), none, none, none, none, none, none] [.int (x1 - x0)] τ) ∧
    (∀ (a0 : Nat) (a1 : Int32) (a2 : Int32) (x0 : Int32) (τ : St), Ru M_H_secret d Q 26 [some (.ref a0), some (.int a1), some (.int a2), none, none, none, none, none, none] [.int x0] τ = Ru M_H_secret d Q 27 [some (.ref a0), some (.int a1), some (.int a2), none, none, none, none, none, none] [.int a1, .int x0] τ) ∧
    (∀ (a0 : Nat) (a1 : Int32) (a2 : Int32) (x0 : Int32) (x1 : Int32) (τ : St), Ru M_H_secret d Q 27 [some (.ref a0), some (.int a1), some (.int a2), none, none, none, none, none, none] [.int x0, .int x1] τ = Cl d m_H_power [.int x1, .int x0] τ (fun v τ' => Ru M_H_secret d Q 30 [some (.ref a0), some (.int a1), some (.int a2), none, none, none, none, none, none] (v.toList ++ []) τ')) ∧
    (∀ (a0 : Nat) (a1 : Int32) (a2 : Int32) (x0 : Int64) (τ : St), Ru M_H_secret d Q 30 [some (.ref a0), some (.int a1), some (.int a2), none, none, none, none, none, none] [.long x0] τ = Ru M_H_secret d Q 31 [some (.ref a0), some (.int a1), some (.int a2), some (.long x0), none, none, none, none, none] [] τ) ∧
    (∀ (a0 : Nat) (a1 : Int32) (a2 : Int32) (a3 : Int64) (τ : St), Ru M_H_secret d Q 31 [some (.ref a0), some (.int a1), some (.int a2), some (.long a3), none, none, none, none, none] [] τ = Ru M_H_secret d Q 33 [some (.ref a0), some (.int a1), some (.int a2), some (.long a3), none, none, none, none, none] [.int 10] τ) ∧
    (∀ (a0 : Nat) (a1 : Int32) (a2 : Int32) (a3 : Int64) (x0 : Int32) (τ : St), Ru M_H_secret d Q 33 [some (.ref a0), some (.int a1), some (.int a2), some (.long a3), none, none, none, none, none] [.int x0] τ = Ru M_H_secret d Q 34 [some (.ref a0), some (.int a1), some (.int a2), some (.long a3), none, none, none, none, none] [.int a1, .int x0] τ) ∧
    (∀ (a0 : Nat) (a1 : Int32) (a2 : Int32) (a3 : Int64) (x0 : Int32) (x1 : Int32) (τ : St), Ru M_H_secret d Q 34 [some (.ref a0), some (.int a1), some (.int a2), some (.long a3), none, none, none, none, none] [.int x0, .int x1] τ = Cl d m_H_power [.int x1, .int x0] τ (fun v τ' => Ru M_H_secret d Q 37 [some (.ref a0), some (.int a1), some (.int a2), some (.long a3), none, none, none, none, none] (v.toList ++ []) τ')) ∧
    (∀ (a0 : Nat) (a1 : Int32) (a2 : Int32) (a3 : Int64) (x0 : Int64) (τ : St), Ru M_H_secret d Q 37 [some (.ref a0), some (.int a1), some (.int a2), some (.long a3), none, none, none, none, none] [.long x0] τ = Ru M_H_secret d Q 39 [some (.ref a0), some (.int a1), some (.int a2), some (.long a3), none, some (.long x0), none, none, none] [] τ) ∧
    (∀ (a0 : Nat) (a1 : Int32) (a2 : Int32) (a3 : Int64) (a5 : Int64) (τ : St), Ru M_H_secret d Q 39 [some (.ref a0), some (.int a1), some (.int a2), some (.long a3), none, some (.long a5), none, none, none] [] τ = Ru M_H_secret d Q 40 [some (.ref a0), some (.int a1), some (.int a2), some (.long a3), none, some (.long a5), none, none, none] [.long a3] τ) ∧
    (∀ (a0 : Nat) (a1 : Int32) (a2 : Int32) (a3 : Int64) (a5 : Int64) (x0 : Int64) (τ : St), Ru M_H_secret d Q 40 [some (.ref a0), some (.int a1), some (.int a2), some (.long a3), none, some (.long a5), none, none, none] [.long x0] τ = Ru M_H_secret d Q 42 [some (.ref a0), some (.int a1), some (.int a2), some (.long a3), none, some (.long a5), none, none, none] [.long a5, .long x0] τ) ∧
    (∀ (a0 : Nat) (a1 : Int32) (a2 : Int32) (a3 : Int64) (a5 : Int64) (x0 : Int64) (x1 : Int64) (τ : St), Ru M_H_secret d Q 42 [some (.ref a0), some (.int a1), some (.int a2), some (.long a3), none, some (.long a5), none, none, none] [.long x0, .long x1] τ = Cl d m_H_commonDivisor [.long x1, .long x0] τ (fun v τ' => Ru M_H_secret d Q 45 [some (.ref a0), some (.int a1), some (.int a2), some (.long a3), none, some (.long a5), none, none, none] (v.toList ++ []) τ')) ∧
    (∀ (a0 : Nat) (a1 : Int32) (a2 : Int32) (a3 : Int64) (a5 : Int64) (x0 : Int64) (τ : St), Ru M_H_secret d Q 45 [some (.ref a0), some (.int a1), some (.int a2), some (.long a3), none, some (.long a5), none, none, none] [.long x0] τ = Ru M_H_secret d Q 47 [some (.ref a0), some (.int a1), some (.int a2), some (.long a3), none, some (.long a5), none, some (.long x0), none] [] τ) ∧
    (∀ (a0 : Nat) (a1 : Int32) (a2 : Int32) (a3 : Int64) (a5 : Int64) (a7 : Int64) (τ : St), Ru M_H_secret d Q 47 [some (.ref a0), some (.int a1), some (.int a2), some (.long a3), none, some (.long a5), none, some (.long a7), none] [] τ = Ru M_H_secret d Q 49 [some (.ref a0), some (.int a1), some (.int a2), some (.long a3), none, some (.long a5), none, some (.long a7), none] [.long a7] τ) ∧
    (∀ (a0 : Nat) (a1 : Int32) (a2 : Int32) (a3 : Int64) (a5 : Int64) (a7 : Int64) (x0 : Int64) (τ : St), Ru M_H_secret d Q 49 [some (.ref a0), some (.int a1), some (.int a2), some (.long a3), none, some (.long a5), none, some (.long a7), none] [.long x0] τ = Ru M_H_secret d Q 50 [some (.ref a0), some (.int a1), some (.int a2), some (.long a3), none, some (.long a5), none, some (.long a7), none] [.long 0, .long x0] τ) ∧
    (∀ (a0 : Nat) (a1 : Int32) (a2 : Int32) (a3 : Int64) (a5 : Int64) (a7 : Int64) (x0 : Int64) (x1 : Int64) (τ : St), Ru M_H_secret d Q 50 [some (.ref a0), some (.int a1), some (.int a2), some (.long a3), none, some (.long a5), none, some (.long a7), none] [.long x0, .long x1] τ = Ru M_H_secret d Q 51 [some (.ref a0), some (.int a1), some (.int a2), some (.long a3), none, some (.long a5), none, some (.long a7), none] [.int (lg_cmp x1 x0)] τ) ∧
    (∀ (a0 : Nat) (a1 : Int32) (a2 : Int32) (a3 : Int64) (a5 : Int64) (a7 : Int64) (x0 : Int32) (τ : St), Ru M_H_secret d Q 51 [some (.ref a0), some (.int a1), some (.int a2), some (.long a3), none, some (.long a5), none, some (.long a7), none] [.int x0] τ = ((x0 ≤ 0 → Ru M_H_secret d Q 66 [some (.ref a0), some (.int a1), some (.int a2), some (.long a3), none, some (.long a5), none, some (.long a7), none] [] τ) ∧ (¬ x0 ≤ 0 → Ru M_H_secret d Q 54 [some (.ref a0), some (.int a1), some (.int a2), some (.long a3), none, some (.long a5), none, some (.long a7), none] [] τ))) ∧
    (∀ (a0 : Nat) (a1 : Int32) (a2 : Int32) (a3 : Int64) (a5 : Int64) (a7 : Int64) (τ : St), Ru M_H_secret d Q 54 [some (.ref a0), some (.int a1), some (.int a2), some (.long a3), none, some (.long a5), none, some (.long a7), none] [] τ = Ru M_H_secret d Q 55 [some (.ref a0), some (.int a1), some (.int a2), some (.long a3), none, some (.long a5), none, some (.long a7), none] [.long a3] τ) ∧
    (∀ (a0 : Nat) (a1 : Int32) (a2 : Int32) (a3 : Int64) (a5 : Int64) (a7 : Int64) (x0 : Int64) (τ : St), Ru M_H_secret d Q 55 [some (.ref a0), some (.int a1), some (.int a2), some (.long a3), none, some (.long a5), none, some (.long a7), none] [.long x0] τ = Ru M_H_secret d Q 57 [some (.ref a0), some (.int a1), some (.int a2), some (.long a3), none, some (.long a5), none, some (.long a7), none] [.long a7, .long x0] τ) ∧
    (∀ (a0 : Nat) (a1 : Int32) (a2 : Int32) (a3 : Int64) (a5 : Int64) (a7 : Int64) (x0 : Int64) (x1 : Int64) (τ : St), Ru M_H_secret d Q 57 [some (.ref a0), some (.int a1), some (.int a2), some (.long a3), none, some (.long a5), none, some (.long a7), none] [.long x0, .long x1] τ = (¬ x0 = 0 ∧ Ru M_H_secret d Q 58 [some (.ref a0), some (.int a1), some (.int a2), some (.long a3), none, some (.long a5), none, some (.long a7), none] [.long (x1 / x0)] τ)) ∧
    (∀ (a0 : Nat) (a1 : Int32) (a2 : Int32) (a3 : Int64) (a5 : Int64) (a7 : Int64) (x0 : Int64) (τ : St), Ru M_H_secret d Q 58 [some (.ref a0), some (.int a1), some (.int a2), some (.long a3), none, some (.long a5), none, some (.long a7), none] [.long x0] τ = Ru M_H_secret d Q 59 [some (.ref a0), some (.int a1), some (.int a2), some (.long x0), none, some (.long a5), none, some (.long a7), none] [] τ) ∧
    (∀ (a0 : Nat) (a1 : Int32) (a2 : Int32) (a3 : Int64) (a5 : Int64) (a7 : Int64) (τ : St), Ru M_H_secret d Q 59 [some (.ref a0), some (.int a1), some (.int a2), some (.long a3), none, some (.long a5), none, some (.long a7), none] [] τ = Ru M_H_secret d Q 61 [some (.ref a0), some (.int a1), some (.int a2), some (.long a3), none, some (.long a5), none, some (.long a7), none] [.long a5] τ) ∧
    (∀ (a0 : Nat) (a1 : Int32) (a2 : Int32) (a3 : Int64) (a5 : Int64) (a7 : Int64) (x0 : Int64) (τ : St), Ru M_H_secret d Q 61 [some (.ref a0), some (.int a1), some (.int a2), some (.long a3), none, some (.long a5), none, some (.long a7), none] [.long x0] τ = Ru M_H_secret d Q 63 [some (.ref a0), some (.int a1), some (.int a2), some (.long a3), none, some (.long a5), none, some (.long a7), none] [.long a7, .long x0] τ) ∧
    (∀ (a0 : Nat) (a1 : Int32) (a2 : Int32) (a3 : Int64) (a5 : Int64) (a7 : Int64) (x0 : Int64) (x1 : Int64) (τ : St), Ru M_H_secret d Q 63 [some (.ref a0), some (.int a1), some (.int a2), some (.long a3), none, some (.long a5), none, some (.long a7), none] [.long x0, .long x1] τ = (¬ x0 = 0 ∧ Ru M_H_secret d Q 64 [some (.ref a0), some (.int a1), some (.int a2), some (.long a3), none, some (.long a5), none, some (.long a7), none] [.long (x1 / x0)] τ)) ∧
    (∀ (a0 : Nat) (a1 : Int32) (a2 : Int32) (a3 : Int64) (a5 : Int64) (a7 : Int64) (x0 : Int64) (τ : St), Ru M_H_secret d Q 64 [some (.ref a0), some (.int a1), some (.int a2), some (.long a3), none, some (.long a5), none, some (.long a7), none] [.long x0] τ = Ru M_H_secret d Q 66 [some (.ref a0), some (.int a1), some (.int a2), some (.long a3), none, some (.long x0), none, some (.long a7), none] [] τ) ∧
    (∀ (a0 : Nat) (a1 : Int32) (a2 : Int32) (a3 : Int64) (a5 : Int64) (a7 : Int64) (τ : St), Ru M_H_secret d Q 66 [some (.ref a0), some (.int a1), some (.int a2), some (.long a3), none, some (.long a5), none, some (.long a7), none] [] τ = Ru M_H_secret d Q 67 [some (.ref a0), some (.int a1), some (.int a2), some (.long a3), none, some (.long a5), none, some (.long a7), none] [.ref a0] τ) ∧
    (∀ (a0 : Nat) (a1 : Int32) (a2 : Int32) (a3 : Int64) (a5 : Int64) (a7 : Int64) (x0 : Nat) (τ : St), Ru M_H_secret d Q 67 [some (.ref a0), some (.int a1), some (.int a2), some (.long a3), none, some (.long a5), none, some (.long a7), none] [.ref x0] τ = (isA 11 x0 ∧ Ru M_H_secret d Q 70 [some (.ref a0), some (.int a1), some (.int a2), some (.long a3), none, some (.long a5), none, some (.long a7), none] [.ref (rtab x0 1)] τ)) ∧
    (∀ (a0 : Nat) (a1 : Int32) (a2 : Int32) (a3 : Int64) (a5 : Int64) (a7 : Int64) (x0 : Nat) (τ : St), Ru M_H_secret d Q 70 [some (.ref a0), some (.int a1), some (.int a2), some (.long a3), none, some (.long a5), none, some (.long a7), none] [.ref x0] τ = Ru M_H_secret d Q 71 [some (.ref a0), some (.int a1), some (.int a2), some (.long a3), none, some (.long a5), none, some (.long a7), none] [.long a3, .ref x0] τ) ∧
    (∀ (a0 : Nat) (a1 : Int32) (a2 : Int32) (a3 : Int64) (a5 : Int64) (a7 : Int64) (x0 : Int64) (x1 : Nat) (τ : St), Ru M_H_secret d Q 71 [some (.ref a0), some (.int a1), some (.int a2), some (.long a3), none, some (.long a5), none, some (.long a7), none] [.long x0, .ref x1] τ = Ru M_H_secret d Q 73 [some (.ref a0), some (.int a1), some (.int a2), some (.long a3), none, some (.long a5), none, some (.long a7), none] [.long a5, .long x0, .ref x1] τ) ∧
    (∀ (a0 : Nat) (a1 : Int32) (a2 : Int32) (a3 : Int64) (a5 : Int64) (a7 : Int64) (x0 : Int64) (x1 : Int64) (x2 : Nat) (τ : St), Ru M_H_secret d Q 73 [some (.ref a0), some (.int a1), some (.int a2), some (.long a3), none, some (.long a5), none, some (.long a7), none] [.long x0, .long x1, .ref x2] τ = (isA 4 x2 ∧ Cl d m_Row_both [.ref x2, .long x1, .long x0] τ (fun v τ' => Ru M_H_secret d Q 76 [some (.ref a0), some (.int a1), some (.int a2), some (.long a3), none, some (.long a5), none, some (.long a7), none] (v.toList ++ []) τ'))) ∧
    (∀ (a0 : Nat) (a1 : Int32) (a2 : Int32) (a3 : Int64) (a5 : Int64) (a7 : Int64) (τ : St), Ru M_H_secret d Q 76 [some (.ref a0), some (.int a1), some (.int a2), some (.long a3), none, some (.long a5), none, some (.long a7), none] [] τ = Ru M_H_secret d Q 77 [some (.ref a0), some (.int a1), some (.int a2), some (.long a3), none, some (.long a5), none, some (.long a7), none] [.int 0] τ) ∧
    (∀ (a0 : Nat) (a1 : Int32) (a2 : Int32) (a3 : Int64) (a5 : Int64) (a7 : Int64) (x0 : Int32) (τ : St), Ru M_H_secret d Q 77 [some (.ref a0), some (.int a1), some (.int a2), some (.long a3), none, some (.long a5), none, some (.long a7), none] [.int x0] τ = Q (some (.int x0)) τ) := ⟨
  fun _ _ _ _ => (R_at ok_H_secret rfl).trans (e_ild rfl),
  fun _ _ _ _ _ => (R_at ok_H_secret rfl).trans e_if,
  fun _ _ _ _ => (R_at ok_H_secret rfl).trans (e_ild rfl),
  fun _ _ _ _ _ => (R_at ok_H_secret rfl).trans e_push,
  fun _ _ _ _ _ _ => (R_at ok_H_secret rfl).trans e_ic,
  fun _ _ _ _ => (R_at ok_H_secret rfl).trans (e_ild rfl),
  fun _ _ _ _ _ => (R_at ok_H_secret rfl).trans e_if,
  fun _ _ _ _ => (R_at ok_H_secret rfl).trans (e_ild rfl),
  fun _ _ _ _ _ => (R_at ok_H_secret rfl).trans e_push,
  fun _ _ _ _ _ _ => (R_at ok_H_secret rfl).trans e_ic,
  fun _ _ _ _ => (R_at ok_H_secret rfl).trans e_push,
  fun _ _ _ _ _ => (R_at ok_H_secret rfl).trans e_iret,
  fun _ _ _ _ => (R_at ok_H_secret rfl).trans e_push,
  fun _ _ _ _ _ => (R_at ok_H_secret rfl).trans (e_ild rfl),
  fun _ _ _ _ _ _ => (R_at ok_H_secret rfl).trans e_bin,
  fun _ _ _ _ _ => (R_at ok_H_secret rfl).trans (e_ild rfl),
  fun _ _ _ x0 x1 _ => (R_at ok_H_secret rfl).trans (e_cs [.int x1, .int x0] rfl rfl rfl),
  fun _ _ _ _ _ => (R_at ok_H_secret rfl).trans e_lst,
  fun _ _ _ _ _ => (R_at ok_H_secret rfl).trans e_push,
  fun _ _ _ _ _ _ => (R_at ok_H_secret rfl).trans (e_ild rfl),
  fun _ _ _ _ x0 x1 _ => (R_at ok_H_secret rfl).trans (e_cs [.int x1, .int x0] rfl rfl rfl),
  fun _ _ _ _ _ _ => (R_at ok_H_secret rfl).trans e_lst,
  fun _ _ _ _ _ _ => (R_at ok_H_secret rfl).trans (e_lld rfl),
  fun _ _ _ _ _ _ _ => (R_at ok_H_secret rfl).trans (e_lld rfl),
  fun _ _ _ _ _ x0 x1 _ => (R_at ok_H_secret rfl).trans (e_cs [.long x1, .long x0] rfl rfl rfl),
  fun _ _ _ _ _ _ _ => (R_at ok_H_secret rfl).trans e_lst,
  fun _ _ _ _ _ _ _ => (R_at ok_H_secret rfl).trans (e_lld rfl),
  fun _ _ _ _ _ _ _ _ => (R_at ok_H_secret rfl).trans e_push,
  fun _ _ _ _ _ _ _ _ _ => (R_at ok_H_secret rfl).trans e_lcmp,
  fun _ _ _ _ _ _ _ _ => (R_at ok_H_secret rfl).trans e_if,
  fun _ _ _ _ _ _ _ => (R_at ok_H_secret rfl).trans (e_lld rfl),
  fun _ _ _ _ _ _ _ _ => (R_at ok_H_secret rfl).trans (e_lld rfl),
  fun _ _ _ _ _ _ _ _ _ => (R_at ok_H_secret rfl).trans e_lbinz,
  fun _ _ _ _ _ _ _ _ => (R_at ok_H_secret rfl).trans e_lst,
  fun _ _ _ _ _ _ _ => (R_at ok_H_secret rfl).trans (e_lld rfl),
  fun _ _ _ _ _ _ _ _ => (R_at ok_H_secret rfl).trans (e_lld rfl),
  fun _ _ _ _ _ _ _ _ _ => (R_at ok_H_secret rfl).trans e_lbinz,
  fun _ _ _ _ _ _ _ _ => (R_at ok_H_secret rfl).trans e_lst,
  fun _ _ _ _ _ _ _ => (R_at ok_H_secret rfl).trans (e_ald rfl),
  fun _ _ _ _ _ _ _ _ => (R_at ok_H_secret rfl).trans e_gR,
  fun _ _ _ _ _ _ _ _ => (R_at ok_H_secret rfl).trans (e_lld rfl),
  fun _ _ _ _ _ _ _ _ _ => (R_at ok_H_secret rfl).trans (e_lld rfl),
  fun _ _ _ _ _ _ x0 x1 _ _ => (R_at ok_H_secret rfl).trans (e_cv [.long x1, .long x0] rfl rfl rfl),
  fun _ _ _ _ _ _ _ => (R_at ok_H_secret rfl).trans e_push,
  fun _ _ _ _ _ _ _ _ => (R_at ok_H_secret rfl).trans e_iret⟩
set_option maxHeartbeats 4000000 in
theorem N_H_power (d : Nat) (Q : Qt) : ∀ (x0 : Int32) (x1 : Int32) (τ : St), Cl (d + 1) m_H_power [.int x0, .int x1] τ Q = Ru M_H_power d Q 0 [some (.int x0), some (.int x1), none, none, none] [] τ := fun _ _ _ => propext ⟨fun h => h.2, fun h => ⟨Nat.le_of_ble_eq_true rfl, h⟩⟩
set_option maxHeartbeats 4000000 in
theorem E_H_power (d : Nat) (Q : Qt) :
    (∀ (a0 : Int32) (a1 : Int32) (τ : St), Ru M_H_power d Q 0 [some (.int a0), some (.int a1), none, none, none] [] τ = Ru M_H_power d Q 1 [some (.int a0), some (.int a1), none, none, none] [.long 1] τ) ∧
    (∀ (a0 : Int32) (a1 : Int32) (x0 : Int64) (τ : St), Ru M_H_power d Q 1 [some (.int a0), some (.int a1), none, none, none] [.long x0] τ = Ru M_H_power d Q 2 [some (.int a0), some (.int a1), some (.long x0), none, none] [] τ) ∧
    (∀ (a0 : Int32) (a1 : Int32) (a2 : Int64) (τ : St), Ru M_H_power d Q 2 [some (.int a0), some (.int a1), some (.long a2), none, none] [] τ = Ru M_H_power d Q 3 [some (.int a0), some (.int a1), some (.long a2), none, none] [.int 0] τ) ∧
    (∀ (a0 : Int32) (a1 : Int32) (a2 : Int64) (x0 : Int32) (τ : St), Ru M_H_power d Q 3 [some (.int a0), some (.int a1), some (.long a2), none, none] [.int x0] τ = Rs M_H_power d Q 5 [some (.int a0), some (.int a1), some (.long a2), none, some (.int x0)] [] τ) ∧
    (∀ (a0 : Int32) (a1 : Int32) (a2 : Int64) (a4 : Int32) (τ : St), Ru M_H_power d Q 5 [some (.int a0), some (.int a1), some (.long a2), none, some (.int a4)] [] τ = Ru M_H_power d Q 7 [some (.int a0), some (.int a1), some (.long a2), none, some (.int a4)] [.int a4] τ) ∧
    (∀ (a0 : Int32) (a1 : Int32) (a2 : Int64) (a4 : Int32) (x0 : Int32) (τ : St), Ru M_H_power d Q 7 [some (.int a0), some (.int a1), some (.long a2), none, some (.int a4)] [.int x0] τ = Ru M_H_power d Q 8 [some (.int a0), some (.int a1), some (.long a2), none, some (.int a4)] [.int a1, .int x0] τ) ∧
    (∀ (a0 : Int32) (a1 : Int32) (a2 : Int64) (a4 : Int32) (x0 : Int32) (x1 : Int32) (τ : St), Ru M_H_power d Q 8 [some (.int a0), some (.int a1), some (.long a2), none, some (.int a4)] [.int x0, .int x1] τ = ((x0 ≤ x1 → Ru M_H_power d Q 22 [some (.int a0), some (.int a1), some (.long a2), none, some (.int a4)] [] τ) ∧ (¬ x0 ≤ x1 → Ru M_H_power d Q 11 [some (.int a0), some (.int a1), some (.long a2), none, some (.int a4)] [] τ))) ∧
    (∀ (a0 : Int32) (a1 : Int32) (a2 : Int64) (a4 : Int32) (τ : St), Ru M_H_power d Q 11 [some (.int a0), some (.int a1), some (.long a2), none, some (.int a4)] [] τ = Ru M_H_power d Q 12 [some (.int a0), some (.int a1), some (.long a2), none, some (.int a4)] [.long a2] τ) ∧
    (∀ (a0 : Int32) (a1 : Int32) (a2 : Int64) (a4 : Int32) (x0 : Int64) (τ : St), Ru M_H_power d Q 12 [some (.int a0), some (.int a1), some (.long a2), none, some (.int a4)] [.long x0] τ = Ru M_H_power d Q 13 [some (.int a0), some (.int a1), some (.long a2), none, some (.int a4)] [.int a0, .long x0] τ) ∧
    (∀ (a0 : Int32) (a1 : Int32) (a2 : Int64) (a4 : Int32) (x0 : Int32) (x1 : Int64) (τ : St), Ru M_H_power d Q 13 [some (.int a0), some (.int a1), some (.long a2), none, some (.int a4)] [.int x0, .long x1] τ = Ru M_H_power d Q 14 [some (.int a0), some (.int a1), some (.long a2), none, some (.int a4)] [.long x0.toInt64, .long x1] τ) ∧
    (∀ (a0 : Int32) (a1 : Int32) (a2 : Int64) (a4 : Int32) (x0 : Int64) (x1 : Int64) (τ : St), Ru M_H_power d Q 14 [some (.int a0), some (.int a1), some (.long a2), none, some (.int a4)] [.long x0, .long x1] τ = Ru M_H_power d Q 15 [some (.int a0), some (.int a1), some (.long a2), none, some (.int a4)] [.long (x1 * x0)] τ) ∧
    (∀ (a0 : Int32) (a1 : Int32) (a2 : Int64) (a4 : Int32) (x0 : Int64) (τ : St), Ru M_H_power d Q 15 [some (.int a0), some (.int a1), some (.long a2), none, some (.int a4)] [.long x0] τ = Ru M_H_power d Q 16 [some (.int a0), some (.int a1), some (.long x0), none, some (.int a4)] [] τ) ∧
    (∀ (a0 : Int32) (a1 : Int32) (a2 : Int64) (a4 : Int32) (τ : St), Ru M_H_power d Q 16 [some (.int a0), some (.int a1), some (.long a2), none, some (.int a4)] [] τ = Ru M_H_power d Q 19 [some (.int a0), some (.int a1), some (.long a2), none, some (.int (a4 + 1))] [] τ) ∧
    (∀ (a0 : Int32) (a1 : Int32) (a2 : Int64) (a4 : Int32) (τ : St), Ru M_H_power d Q 19 [some (.int a0), some (.int a1), some (.long a2), none, some (.int a4)] [] τ = Rs M_H_power d Q 5 [some (.int a0), some (.int a1), some (.long a2), none, some (.int a4)] [] τ) ∧
    (∀ (a0 : Int32) (a1 : Int32) (a2 : Int64) (a4 : Int32) (τ : St), Ru M_H_power d Q 22 [some (.int a0), some (.int a1), some (.long a2), none, some (.int a4)] [] τ = Ru M_H_power d Q 23 [some (.int a0), some (.int a1), some (.long a2), none, some (.int a4)] [.long a2] τ) ∧
    (∀ (a0 : Int32) (a1 : Int32) (a2 : Int64) (a4 : Int32) (x0 : Int64) (τ : St), Ru M_H_power d Q 23 [some (.int a0), some (.int a1), some (.long a2), none, some (.int a4)] [.long x0] τ = Q (some (.long x0)) τ) := ⟨
  fun _ _ _ => (R_at ok_H_power rfl).trans e_push,
  fun _ _ _ _ => (R_at ok_H_power rfl).trans e_lst,
  fun _ _ _ _ => (R_at ok_H_power rfl).trans e_push,
  fun _ _ _ _ _ => (R_at ok_H_power rfl).trans e_ist,
  fun _ _ _ _ _ => (R_at ok_H_power rfl).trans (e_ild rfl),
  fun _ _ _ _ _ _ => (R_at ok_H_power rfl).trans (e_ild rfl),
  fun _ _ _ _ _ _ _ => (R_at ok_H_power rfl).trans e_ic,
  fun _ _ _ _ _ => (R_at ok_H_power rfl).trans (e_lld rfl),
  fun _ _ _ _ _ _ => (R_at ok_H_power rfl).trans (e_ild rfl),
  fun _ _ _ _ _ _ _ => (R_at ok_H_power rfl).trans e_il,
  fun _ _ _ _ _ _ _ => (R_at ok_H_power rfl).trans e_lbin,
  fun _ _ _ _ _ _ => (R_at ok_H_power rfl).trans e_lst,
  fun _ _ _ _ _ => (R_at ok_H_power rfl).trans (e_iinc rfl),
  fun _ _ _ _ _ => (R_at ok_H_power rfl).trans e_goto,
  fun _ _ _ _ _ => (R_at ok_H_power rfl).trans (e_lld rfl),
  fun _ _ _ _ _ _ => (R_at ok_H_power rfl).trans e_lret⟩
set_option maxHeartbeats 4000000 in
theorem N_H_commonDivisor (d : Nat) (Q : Qt) : ∀ (x0 : Int64) (x1 : Int64) (τ : St), Cl (d + 1) m_H_commonDivisor [.long x0, .long x1] τ Q = Ru M_H_commonDivisor d Q 0 [some (.long x0), none, some (.long x1), none, none, none, none, none, none, none, none] [] τ := fun _ _ _ => propext ⟨fun h => h.2, fun h => ⟨Nat.le_of_ble_eq_true rfl, h⟩⟩
set_option maxHeartbeats 4000000 in
theorem E_H_commonDivisor (d : Nat) (Q : Qt) :
    (∀ (a0 : Int64) (a2 : Int64) (τ : St), Ru M_H_commonDivisor d Q 0 [some (.long a0), none, some (.long a2), none, none, none, none, none, none, none, none] [] τ = Ru M_H_commonDivisor d Q 1 [some (.long a0), none, some (.long a2), none, none, none, none, none, none, none, none] [.long a0] τ) ∧
    (∀ (a0 : Int64) (a2 : Int64) (x0 : Int64) (τ : St), Ru M_H_commonDivisor d Q 1 [some (.long a0), none, some (.long a2), none, none, none, none, none, none, none, none] [.long x0] τ = Ru M_H_commonDivisor d Q 3 [some (.long a0), none, some (.long a2), none, some (.long x0), none, none, none, none, none, none] [] τ) ∧
    (∀ (a0 : Int64) (a2 : Int64) (a4 : Int64) (τ : St), Ru M_H_commonDivisor d Q 3 [some (.long a0), none, some (.long a2), none, some (.long a4), none, none, none, none, none, none] [] τ = Ru M_H_commonDivisor d Q 4 [some (.long a0), none, some (.long a2), none, some (.long a4), none, none, none, none, none, none] [.long a2] τ) ∧
    (∀ (a0 : Int64) (a2 : Int64) (a4 : Int64) (x0 : Int64) (τ : St), Ru M_H_commonDivisor d Q 4 [some (.long a0), none, some (.long a2), none, some (.long a4), none, none, none, none, none, none] [.long x0] τ = Ru M_H_commonDivisor d Q 6 [some (.long a0), none, some (.long a2), none, some (.long a4), none, some (.long x0), none, none, none, none] [] τ) ∧
    (∀ (a0 : Int64) (a2 : Int64) (a4 : Int64) (a6 : Int64) (τ : St), Ru M_H_commonDivisor d Q 6 [some (.long a0), none, some (.long a2), none, some (.long a4), none, some (.long a6), none, none, none, none] [] τ = Ru M_H_commonDivisor d Q 7 [some (.long a0), none, some (.long a2), none, some (.long a4), none, some (.long a6), none, none, none, none] [.int 0] τ) ∧
    (∀ (a0 : Int64) (a2 : Int64) (a4 : Int64) (a6 : Int64) (x0 : Int32) (τ : St), Ru M_H_commonDivisor d Q 7 [some (.long a0), none, some (.long a2), none, some (.long a4), none, some (.long a6), none, none, none, none] [.int x0] τ = Rs M_H_commonDivisor d Q 9 [some (.long a0), none, some (.long a2), none, some (.long a4), none, some (.long a6), none, some (.int x0), none, none] [] τ) ∧
    (∀ (a0 : Int64) (a2 : Int64) (a4 : Int64) (a6 : Int64) (a8 : Int32) (a9 : Option Value) (τ : St), Ru M_H_commonDivisor d Q 9 [some (.long a0), none, some (.long a2), none, some (.long a4), none, some (.long a6), none, some (.int a8), a9, none] [] τ = Ru M_H_commonDivisor d Q 11 [some (.long a0), none, some (.long a2), none, some (.long a4), none, some (.long a6), none, some (.int a8), a9, none] [.int a8] τ) ∧
    (∀ (a0 : Int64) (a2 : Int64) (a4 : Int64) (a6 : Int64) (a8 : Int32) (a9 : Option Value) (x0 : Int32) (τ : St), Ru M_H_commonDivisor d Q 11 [some (.long a0), none, some (.long a2), none, some (.long a4), none, some (.long a6), none, some (.int a8), a9, none] [.int x0] τ = Ru M_H_commonDivisor d Q 13 [some (.long a0), none, some (.long a2), none, some (.long a4), none, some (.long a6), none, some (.int a8), a9, none] [.int 100, .int x0] τ) ∧
    (∀ (a0 : Int64) (a2 : Int64) (a4 : Int64) (a6 : Int64) (a8 : Int32) (a9 : Option Value) (x0 : Int32) (x1 : Int32) (τ : St), Ru M_H_commonDivisor d Q 13 [some (.long a0), none, some (.long a2), none, some (.long a4), none, some (.long a6), none, some (.int a8), a9, none] [.int x0, .int x1] τ = ((x0 ≤ x1 → Ru M_H_commonDivisor d Q 44 [some (.long a0), none, some (.long a2), none, some (.long a4), none, some (.long a6), none, some (.int a8), a9, none] [] τ) ∧ (¬ x0 ≤ x1 → Ru M_H_commonDivisor d Q 16 [some (.long a0), none, some (.long a2), none, some (.long a4), none, some (.long a6), none, some (.int a8), a9, none] [] τ))) ∧
    (∀ (a0 : Int64) (a2 : Int64) (a4 : Int64) (a6 : Int64) (a8 : Int32) (a9 : Option Value) (τ : St), Ru M_H_commonDivisor d Q 16 [some (.long a0), none, some (.long a2), none, some (.long a4), none, some (.long a6), none, some (.int a8), a9, none] [] τ = Ru M_H_commonDivisor d Q 18 [some (.long a0), none, some (.long a2), none, some (.long a4), none, some (.long a6), none, some (.int a8), a9, none] [.long a6] τ) ∧
    (∀ (a0 : Int64) (a2 : Int64) (a4 : Int64) (a6 : Int64) (a8 : Int32) (a9 : Option Value) (x0 : Int64) (τ : St), Ru M_H_commonDivisor d Q 18 [some (.long a0), none, some (.long a2), none, some (.long a4), none, some (.long a6), none, some (.int a8), a9, none] [.long x0] τ = Ru M_H_commonDivisor d Q 19 [some (.long a0), none, some (.long a2), none, some (.long a4), none, some (.long a6), none, some (.int a8), a9, none] [.long 0, .long x0] τ) ∧
    (∀ (a0 : Int64) (a2 : Int64) (a4 : Int64) (a6 : Int64) (a8 : Int32) (a9 : Option Value) (x0 : Int64) (x1 : Int64) (τ : St), Ru M_H_commonDivisor d Q 19 [some (.long a0), none, some (.long a2), none, some (.long a4), none, some (.long a6), none, some (.int a8), a9, none] [.long x0, .long x1] τ = Ru M_H_commonDivisor d Q 20 [some (.long a0), none, some (.long a2), none, some (.long a4), none, some (.long a6), none, some (.int a8), a9, none] [.int (lg_cmp x1 x0)] τ) ∧
    (∀ (a0 : Int64) (a2 : Int64) (a4 : Int64) (a6 : Int64) (a8 : Int32) (a9 : Option Value) (x0 : Int32) (τ : St), Ru M_H_commonDivisor d Q 20 [some (.long a0), none, some (.long a2), none, some (.long a4), none, some (.long a6), none, some (.int a8), a9, none] [.int x0] τ = ((x0 = 0 → Ru M_H_commonDivisor d Q 44 [some (.long a0), none, some (.long a2), none, some (.long a4), none, some (.long a6), none, some (.int a8), a9, none] [] τ) ∧ (¬ x0 = 0 → Ru M_H_commonDivisor d Q 23 [some (.long a0), none, some (.long a2), none, some (.long a4), none, some (.long a6), none, some (.int a8), a9, none] [] τ))) ∧
    (∀ (a0 : Int64) (a2 : Int64) (a4 : Int64) (a6 : Int64) (a8 : Int32) (a9 : Option Value) (τ : St), Ru M_H_commonDivisor d Q 23 [some (.long a0), none, some (.long a2), none, some (.long a4), none, some (.long a6), none, some (.int a8), a9, none] [] τ = Ru M_H_commonDivisor d Q 25 [some (.long a0), none, some (.long a2), none, some (.long a4), none, some (.long a6), none, some (.int a8), a9, none] [.long a4] τ) ∧
    (∀ (a0 : Int64) (a2 : Int64) (a4 : Int64) (a6 : Int64) (a8 : Int32) (a9 : Option Value) (x0 : Int64) (τ : St), Ru M_H_commonDivisor d Q 25 [some (.long a0), none, some (.long a2), none, some (.long a4), none, some (.long a6), none, some (.int a8), a9, none] [.long x0] τ = Ru M_H_commonDivisor d Q 27 [some (.long a0), none, some (.long a2), none, some (.long a4), none, some (.long a6), none, some (.int a8), a9, none] [.long a6, .long x0] τ) ∧
    (∀ (a0 : Int64) (a2 : Int64) (a4 : Int64) (a6 : Int64) (a8 : Int32) (a9 : Option Value) (x0 : Int64) (x1 : Int64) (τ : St), Ru M_H_commonDivisor d Q 27 [some (.long a0), none, some (.long a2), none, some (.long a4), none, some (.long a6), none, some (.int a8), a9, none] [.long x0, .long x1] τ = (¬ x0 = 0 ∧ Ru M_H_commonDivisor d Q 28 [some (.long a0), none, some (.long a2), none, some (.long a4), none, some (.long a6), none, some (.int a8), a9, none] [.long (x1 - x1 / x0 * x0)] τ)) ∧
    (∀ (a0 : Int64) (a2 : Int64) (a4 : Int64) (a6 : Int64) (a8 : Int32) (a9 : Option Value) (x0 : Int64) (τ : St), Ru M_H_commonDivisor d Q 28 [some (.long a0), none, some (.long a2), none, some (.long a4), none, some (.long a6), none, some (.int a8), a9, none] [.long x0] τ = Ru M_H_commonDivisor d Q 30 [some (.long a0), none, some (.long a2), none, some (.long a4), none, some (.long a6), none, some (.int a8), some (.long x0), none] [] τ) ∧
    (∀ (a0 : Int64) (a2 : Int64) (a4 : Int64) (a6 : Int64) (a8 : Int32) (a9 : Int64) (τ : St), Ru M_H_commonDivisor d Q 30 [some (.long a0), none, some (.long a2), none, some (.long a4), none, some (.long a6), none, some (.int a8), some (.long a9), none] [] τ = Ru M_H_commonDivisor d Q 32 [some (.long a0), none, some (.long a2), none, some (.long a4), none, some (.long a6), none, some (.int a8), some (.long a9), none] [.long a6] τ) ∧
    (∀ (a0 : Int64) (a2 : Int64) (a4 : Int64) (a6 : Int64) (a8 : Int32) (a9 : Int64) (x0 : Int64) (τ : St), Ru M_H_commonDivisor d Q 32 [some (.long a0), none, some (.long a2), none, some (.long a4), none, some (.long a6), none, some (.int a8), some (.long a9), none] [.long x0] τ = Ru M_H_commonDivisor d Q 34 [some (.long a0), none, some (.long a2), none, some (.long x0), none, some (.long a6), none, some (.int a8), some (.long a9), none] [] τ) ∧
    (∀ (a0 : Int64) (a2 : Int64) (a4 : Int64) (a6 : Int64) (a8 : Int32) (a9 : Int64) (τ : St), Ru M_H_commonDivisor d Q 34 [some (.long a0), none, some (.long a2), none, some (.long a4), none, some (.long a6), none, some (.int a8), some (.long a9), none] [] τ = Ru M_H_commonDivisor d Q 36 [some (.long a0), none, some (.long a2), none, some (.long a4), none, some (.long a6), none, some (.int a8), some (.long a9), none] [.long a9] τ) ∧
    (∀ (a0 : Int64) (a2 : Int64) (a4 : Int64) (a6 : Int64) (a8 : Int32) (a9 : Int64) (x0 : Int64) (τ : St), Ru M_H_commonDivisor d Q 36 [some (.long a0), none, some (.long a2), none, some (.long a4), none, some (.long a6), none, some (.int a8), some (.long a9), none] [.long x0] τ = Ru M_H_commonDivisor d Q 38 [some (.long a0), none, some (.long a2), none, some (.long a4), none, some (.long x0), none, some (.int a8), some (.long a9), none] [] τ) ∧
    (∀ (a0 : Int64) (a2 : Int64) (a4 : Int64) (a6 : Int64) (a8 : Int32) (a9 : Int64) (τ : St), Ru M_H_commonDivisor d Q 38 [some (.long a0), none, some (.long a2), none, some (.long a4), none, some (.long a6), none, some (.int a8), some (.long a9), none] [] τ = Ru M_H_commonDivisor d Q 41 [some (.long a0), none, some (.long a2), none, some (.long a4), none, some (.long a6), none, some (.int (a8 + 1)), some (.long a9), none] [] τ) ∧
    (∀ (a0 : Int64) (a2 : Int64) (a4 : Int64) (a6 : Int64) (a8 : Int32) (a9 : Int64) (τ : St), Ru M_H_commonDivisor d Q 41 [some (.long a0), none, some (.long a2), none, some (.long a4), none, some (.long a6), none, some (.int a8), some (.long a9), none] [] τ = Rs M_H_commonDivisor d Q 9 [some (.long a0), none, some (.long a2), none, some (.long a4), none, some (.long a6), none, some (.int a8), some (.long a9), none] [] τ) ∧
    (∀ (a0 : Int64) (a2 : Int64) (a4 : Int64) (a6 : Int64) (a8 : Int32) (a9 : Option Value) (τ : St), Ru M_H_commonDivisor d Q 44 [some (.long a0), none, some (.long a2), none, some (.long a4), none, some (.long a6), none, some (.int a8), a9, none] [] τ = Ru M_H_commonDivisor d Q 46 [some (.long a0), none, some (.long a2), none, some (.long a4), none, some (.long a6), none, some (.int a8), a9, none] [.long a4] τ) ∧
    (∀ (a0 : Int64) (a2 : Int64) (a4 : Int64) (a6 : Int64) (a8 : Int32) (a9 : Option Value) (x0 : Int64) (τ : St), Ru M_H_commonDivisor d Q 46 [some (.long a0), none, some (.long a2), none, some (.long a4), none, some (.long a6), none, some (.int a8), a9, none] [.long x0] τ = Q (some (.long x0)) τ) := ⟨
  fun _ _ _ => (R_at ok_H_commonDivisor rfl).trans (e_lld rfl),
  fun _ _ _ _ => (R_at ok_H_commonDivisor rfl).trans e_lst,
  fun _ _ _ _ => (R_at ok_H_commonDivisor rfl).trans (e_lld rfl),
  fun _ _ _ _ _ => (R_at ok_H_commonDivisor rfl).trans e_lst,
  fun _ _ _ _ _ => (R_at ok_H_commonDivisor rfl).trans e_push,
  fun _ _ _ _ _ _ => (R_at ok_H_commonDivisor rfl).trans e_ist,
  fun _ _ _ _ _ _ _ => (R_at ok_H_commonDivisor rfl).trans (e_ild rfl),
  fun _ _ _ _ _ _ _ _ => (R_at ok_H_commonDivisor rfl).trans e_push,
  fun _ _ _ _ _ _ _ _ _ => (R_at ok_H_commonDivisor rfl).trans e_ic,
  fun _ _ _ _ _ _ _ => (R_at ok_H_commonDivisor rfl).trans (e_lld rfl),
  fun _ _ _ _ _ _ _ _ => (R_at ok_H_commonDivisor rfl).trans e_push,
  fun _ _ _ _ _ _ _ _ _ => (R_at ok_H_commonDivisor rfl).trans e_lcmp,
  fun _ _ _ _ _ _ _ _ => (R_at ok_H_commonDivisor rfl).trans e_if,
  fun _ _ _ _ _ _ _ => (R_at ok_H_commonDivisor rfl).trans (e_lld rfl),
  fun _ _ _ _ _ _ _ _ => (R_at ok_H_commonDivisor rfl).trans (e_lld rfl),
  fun _ _ _ _ _ _ _ _ _ => (R_at ok_H_commonDivisor rfl).trans e_lbinz,
  fun _ _ _ _ _ _ _ _ => (R_at ok_H_commonDivisor rfl).trans e_lst,
  fun _ _ _ _ _ _ _ => (R_at ok_H_commonDivisor rfl).trans (e_lld rfl),
  fun _ _ _ _ _ _ _ _ => (R_at ok_H_commonDivisor rfl).trans e_lst,
  fun _ _ _ _ _ _ _ => (R_at ok_H_commonDivisor rfl).trans (e_lld rfl),
  fun _ _ _ _ _ _ _ _ => (R_at ok_H_commonDivisor rfl).trans e_lst,
  fun _ _ _ _ _ _ _ => (R_at ok_H_commonDivisor rfl).trans (e_iinc rfl),
  fun _ _ _ _ _ _ _ => (R_at ok_H_commonDivisor rfl).trans e_goto,
  fun _ _ _ _ _ _ _ => (R_at ok_H_commonDivisor rfl).trans (e_lld rfl),
  fun _ _ _ _ _ _ _ _ => (R_at ok_H_commonDivisor rfl).trans e_lret⟩
set_option maxHeartbeats 4000000 in
theorem N_H_told (d : Nat) (Q : Qt) : ∀ (x0 : Nat) (x1 : Int32) (x2 : Int32) (τ : St), Cl (d + 1) m_H_told [.ref x0, .int x1, .int x2] τ Q = Ru M_H_told d Q 0 [some (.ref x0), some (.int x1), some (.int x2), none] [] τ := fun _ _ _ _ => propext ⟨fun h => h.2, fun h => ⟨Nat.le_of_ble_eq_true rfl, h⟩⟩
set_option maxHeartbeats 4000000 in
theorem E_H_told (d : Nat) (Q : Qt) :
    (∀ (a0 : Nat) (a1 : Int32) (a2 : Int32) (τ : St), Ru M_H_told d Q 0 [some (.ref a0), some (.int a1), some (.int a2), none] [] τ = Ru M_H_told d Q 1 [some (.ref a0), some (.int a1), some (.int a2), none] [.int a1] τ) ∧
    (∀ (a0 : Nat) (a1 : Int32) (a2 : Int32) (x0 : Int32) (τ : St), Ru M_H_told d Q 1 [some (.ref a0), some (.int a1), some (.int a2), none] [.int x0] τ = ((x0 < 0 → Ru M_H_told d Q 20 [some (.ref a0), some (.int a1), some (.int a2), none] [] τ) ∧ (¬ x0 < 0 → Ru M_H_told d Q 4 [some (.ref a0), some (.int a1), some (.int a2), none] [] τ))) ∧
    (∀ (a0 : Nat) (a1 : Int32) (a2 : Int32) (τ : St), Ru M_H_told d Q 4 [some (.ref a0), some (.int a1), some (.int a2), none] [] τ = Ru M_H_told d Q 5 [some (.ref a0), some (.int a1), some (.int a2), none] [.int a1] τ) ∧
    (∀ (a0 : Nat) (a1 : Int32) (a2 : Int32) (x0 : Int32) (τ : St), Ru M_H_told d Q 5 [some (.ref a0), some (.int a1), some (.int a2), none] [.int x0] τ = Ru M_H_told d Q 7 [some (.ref a0), some (.int a1), some (.int a2), none] [.int 10, .int x0] τ) ∧
    (∀ (a0 : Nat) (a1 : Int32) (a2 : Int32) (x0 : Int32) (x1 : Int32) (τ : St), Ru M_H_told d Q 7 [some (.ref a0), some (.int a1), some (.int a2), none] [.int x0, .int x1] τ = ((x0 < x1 → Ru M_H_told d Q 20 [some (.ref a0), some (.int a1), some (.int a2), none] [] τ) ∧ (¬ x0 < x1 → Ru M_H_told d Q 10 [some (.ref a0), some (.int a1), some (.int a2), none] [] τ))) ∧
    (∀ (a0 : Nat) (a1 : Int32) (a2 : Int32) (τ : St), Ru M_H_told d Q 10 [some (.ref a0), some (.int a1), some (.int a2), none] [] τ = Ru M_H_told d Q 11 [some (.ref a0), some (.int a1), some (.int a2), none] [.int a2] τ) ∧
    (∀ (a0 : Nat) (a1 : Int32) (a2 : Int32) (x0 : Int32) (τ : St), Ru M_H_told d Q 11 [some (.ref a0), some (.int a1), some (.int a2), none] [.int x0] τ = ((x0 < 0 → Ru M_H_told d Q 20 [some (.ref a0), some (.int a1), some (.int a2), none] [] τ) ∧ (¬ x0 < 0 → Ru M_H_told d Q 14 [some (.ref a0), some (.int a1), some (.int a2), none] [] τ))) ∧
    (∀ (a0 : Nat) (a1 : Int32) (a2 : Int32) (τ : St), Ru M_H_told d Q 14 [some (.ref a0), some (.int a1), some (.int a2), none] [] τ = Ru M_H_told d Q 15 [some (.ref a0), some (.int a1), some (.int a2), none] [.int a2] τ) ∧
    (∀ (a0 : Nat) (a1 : Int32) (a2 : Int32) (x0 : Int32) (τ : St), Ru M_H_told d Q 15 [some (.ref a0), some (.int a1), some (.int a2), none] [.int x0] τ = Ru M_H_told d Q 17 [some (.ref a0), some (.int a1), some (.int a2), none] [.int 100, .int x0] τ) ∧
    (∀ (a0 : Nat) (a1 : Int32) (a2 : Int32) (x0 : Int32) (x1 : Int32) (τ : St), Ru M_H_told d Q 17 [some (.ref a0), some (.int a1), some (.int a2), none] [.int x0, .int x1] τ = ((x1 ≤ x0 → Ru M_H_told d Q 22 [some (.ref a0), some (.int a1), some (.int a2), none] [] τ) ∧ (¬ x1 ≤ x0 → Ru M_H_told d Q 20 [some (.ref a0), some (.int a1), some (.int a2), none] [] τ))) ∧
    (∀ (a0 : Nat) (a1 : Int32) (a2 : Int32) (τ : St), Ru M_H_told d Q 20 [some (.ref a0), some (.int a1), some (.int a2), none] [] τ = Ru M_H_told d Q 21 [some (.ref a0), some (.int a1), some (.int a2), none] [.int (-1)] τ) ∧
    (∀ (a0 : Nat) (a1 : Int32) (a2 : Int32) (x0 : Int32) (τ : St), Ru M_H_told d Q 21 [some (.ref a0), some (.int a1), some (.int a2), none] [.int x0] τ = Q (some (.int x0)) τ) ∧
    (∀ (a0 : Nat) (a1 : Int32) (a2 : Int32) (τ : St), Ru M_H_told d Q 22 [some (.ref a0), some (.int a1), some (.int a2), none] [] τ = Ru M_H_told d Q 24 [some (.ref a0), some (.int a1), some (.int a2), none] [.int 12] τ) ∧
    (∀ (a0 : Nat) (a1 : Int32) (a2 : Int32) (x0 : Int32) (τ : St), Ru M_H_told d Q 24 [some (.ref a0), some (.int a1), some (.int a2), none] [.int x0] τ = Rs M_H_told d Q 25 [some (.ref a0), some (.int a1), some (.int a2), some (.int x0)] [] τ) ∧
    (∀ (a0 : Nat) (a1 : Int32) (a2 : Int32) (a3 : Int32) (τ : St), Ru M_H_told d Q 25 [some (.ref a0), some (.int a1), some (.int a2), some (.int a3)] [] τ = Ru M_H_told d Q 26 [some (.ref a0), some (.int a1), some (.int a2), some (.int a3)] [.int a3] τ) ∧
    (∀ (a0 : Nat) (a1 : Int32) (a2 : Int32) (a3 : Int32) (x0 : Int32) (τ : St), Ru M_H_told d Q 26 [some (.ref a0), some (.int a1), some (.int a2), some (.int a3)] [.int x0] τ = ((x0 < 0 → Ru M_H_told d Q 62 [some (.ref a0), some (.int a1), some (.int a2), some (.int a3)] [] τ) ∧ (¬ x0 < 0 → Ru M_H_told d Q 29 [some (.ref a0), some (.int a1), some (.int a2), some (.int a3)] [] τ))) ∧
    (∀ (a0 : Nat) (a1 : Int32) (a2 : Int32) (a3 : Int32) (τ : St), Ru M_H_told d Q 29 [some (.ref a0), some (.int a1), some (.int a2), some (.int a3)] [] τ = Ru M_H_told d Q 32 [some (.ref a0), some (.int a1), some (.int a2), some (.int a3)] [.long 100] τ) ∧
    (∀ (a0 : Nat) (a1 : Int32) (a2 : Int32) (a3 : Int32) (x0 : Int64) (τ : St), Ru M_H_told d Q 32 [some (.ref a0), some (.int a1), some (.int a2), some (.int a3)] [.long x0] τ = Ru M_H_told d Q 34 [some (.ref a0), some (.int a1), some (.int a2), some (.int a3)] [.int 10, .long x0] τ) ∧
    (∀ (a0 : Nat) (a1 : Int32) (a2 : Int32) (a3 : Int32) (x0 : Int32) (x1 : Int64) (τ : St), Ru M_H_told d Q 34 [some (.ref a0), some (.int a1), some (.int a2), some (.int a3)] [.int x0, .long x1] τ = Ru M_H_told d Q 35 [some (.ref a0), some (.int a1), some (.int a2), some (.int a3)] [.int a1, .int x0, .long x1] τ) ∧
    (∀ (a0 : Nat) (a1 : Int32) (a2 : Int32) (a3 : Int32) (x0 : Int32) (x1 : Int32) (x2 : Int64) (τ : St), Ru M_H_told d Q 35 [some (.ref a0), some (.int a1), some (.int a2), some (.int a3)] [.int x0, .int x1, .long x2] τ = Ru M_H_told d Q 36 [some (.ref a0), some (.int a1), some (.int a2), some (.int a3)] [.int (x1 - x0), .long x2] τ) ∧
    (∀ (a0 : Nat) (a1 : Int32) (a2 : Int32) (a3 : Int32) (x0 : Int32) (x1 : Int64) (τ : St), Ru M_H_told d Q 36 [some (.ref a0), some (.int a1), some (.int a2), some (.int a3)] [.int x0, .long x1] τ = Ru M_H_told d Q 37 [some (.ref a0), some (.int a1), some (.int a2), some (.int a3)] [.int a3, .int x0, .long x1] τ) ∧
    (∀ (a0 : Nat) (a1 : Int32) (a2 : Int32) (a3 : Int32) (x0 : Int32) (x1 : Int32) (x2 : Int64) (τ : St), Ru M_H_told d Q 37 [some (.ref a0), some (.int a1), some (.int a2), some (.int a3)] [.int x0, .int x1, .long x2] τ = Cl d m_H_power [.int x1, .int x0] τ (fun v τ' => Ru M_H_told d Q 40 [some (.ref a0), some (.int a1), some (.int a2), some (.int a3)] (v.toList ++ [.long x2]) τ')) ∧
    (∀ (a0 : Nat) (a1 : Int32) (a2 : Int32) (a3 : Int32) (x0 : Int64) (x1 : Int64) (τ : St), Ru M_H_told d Q 40 [some (.ref a0), some (.int a1), some (.int a2), some (.int a3)] [.long x0, .long x1] τ = Ru M_H_told d Q 41 [some (.ref a0), some (.int a1), some (.int a2), some (.int a3)] [.long (x1 * x0)] τ) ∧
    (∀ (a0 : Nat) (a1 : Int32) (a2 : Int32) (a3 : Int32) (x0 : Int64) (τ : St), Ru M_H_told d Q 41 [some (.ref a0), some (.int a1), some (.int a2), some (.int a3)] [.long x0] τ = Ru M_H_told d Q 42 [some (.ref a0), some (.int a1), some (.int a2), some (.int a3)] [.int a2, .long x0] τ) ∧
    (∀ (a0 : Nat) (a1 : Int32) (a2 : Int32) (a3 : Int32) (x0 : Int32) (x1 : Int64) (τ : St), Ru M_H_told d Q 42 [some (.ref a0), some (.int a1), some (.int a2), some (.int a3)] [.int x0, .long x1] τ = Ru M_H_told d Q 43 [some (.ref a0), some (.int a1), some (.int a2), some (.int a3)] [.long x0.toInt64, .long x1] τ) ∧
    (∀ (a0 : Nat) (a1 : Int32) (a2 : Int32) (a3 : Int32) (x0 : Int64) (x1 : Int64) (τ : St), Ru M_H_told d Q 43 [some (.ref a0), some (.int a1), some (.int a2), some (.int a3)] [.long x0, .long x1] τ = Ru M_H_told d Q 45 [some (.ref a0), some (.int a1), some (.int a2), some (.int a3)] [.int 10, .long x0, .long x1] τ) ∧
    (∀ (a0 : Nat) (a1 : Int32) (a2 : Int32) (a3 : Int32) (x0 : Int32) (x1 : Int64) (x2 : Int64) (τ : St), Ru M_H_told d Q 45 [some (.ref a0), some (.int a1), some (.int a2), some (.int a3)] [.int x0, .long x1, .long x2] τ = Ru M_H_told d Q 46 [some (.ref a0), some (.int a1), some (.int a2), some (.int a3)] [.int a3, .int x0, .long x1, .long x2] τ) ∧
    (∀ (a0 : Nat) (a1 : Int32) (a2 : Int32) (a3 : Int32) (x0 : Int32) (x1 : Int32) (x2 : Int64) (x3 : Int64) (τ : St), Ru M_H_told d Q 46 [some (.ref a0), some (.int a1), some (.int a2), some (.int a3)] [.int x0, .int x1, .long x2, .long x3] τ = Cl d m_H_power [.int x1, .int x0] τ (fun v τ' => Ru M_H_told d Q 49 [some (.ref a0), some (.int a1), some (.int a2), some (.int a3)] (v.toList ++ [.long x2, .long x3]) τ')) ∧
    (∀ (a0 : Nat) (a1 : Int32) (a2 : Int32) (a3 : Int32) (x0 : Int64) (x1 : Int64) (x2 : Int64) (τ : St), Ru M_H_told d Q 49 [some (.ref a0), some (.int a1), some (.int a2), some (.int a3)] [.long x0, .long x1, .long x2] τ = Ru M_H_told d Q 50 [some (.ref a0), some (.int a1), some (.int a2), some (.int a3)] [.long (x1 * x0), .long x2] τ) ∧
    (∀ (a0 : Nat) (a1 : Int32) (a2 : Int32) (a3 : Int32) (x0 : Int64) (x1 : Int64) (τ : St), Ru M_H_told d Q 50 [some (.ref a0), some (.int a1), some (.int a2), some (.int a3)] [.long x0, .long x1] τ = Ru M_H_told d Q 51 [some (.ref a0), some (.int a1), some (.int a2), some (.int a3)] [.int (lg_cmp x1 x0)] τ) ∧
    (∀ (a0 : Nat) (a1 : Int32) (a2 : Int32) (a3 : Int32) (x0 : Int32) (τ : St), Ru M_H_told d Q 51 [some (.ref a0), some (.int a1), some (.int a2), some (.int a3)] [.int x0] τ = ((x0 < 0 → Ru M_H_told d Q 56 [some (.ref a0), some (.int a1), some (.int a2), some (.int a3)] [] τ) ∧ (¬ x0 < 0 → Ru M_H_told d Q 54 [some (.ref a0), some (.int a1), some (.int a2), some (.int a3)] [] τ))) ∧
    (∀ (a0 : Nat) (a1 : Int32) (a2 : Int32) (a3 : Int32) (τ : St), Ru M_H_told d Q 54 [some (.ref a0), some (.int a1), some (.int a2), some (.int a3)] [] τ = Ru M_H_told d Q 55 [some (.ref a0), some (.int a1), some (.int a2), some (.int a3)] [.int a3] τ) ∧
    (∀ (a0 : Nat) (a1 : Int32) (a2 : Int32) (a3 : Int32) (x0 : Int32) (τ : St), Ru M_H_told d Q 55 [some (.ref a0), some (.int a1), some (.int a2), some (.int a3)] [.int x0] τ = Q (some (.int x0)) τ) ∧
    (∀ (a0 : Nat) (a1 : Int32) (a2 : Int32) (a3 : Int32) (τ : St), Ru M_H_told d Q 56 [some (.ref a0), some (.int a1), some (.int a2), some (.int a3)] [] τ = Ru M_H_told d Q 59 [some (.ref a0), some (.int a1), some (.int a2), some (.int (a3 + (-1)))] [] τ) ∧
    (∀ (a0 : Nat) (a1 : Int32) (a2 : Int32) (a3 : Int32) (τ : St), Ru M_H_told d Q 59 [some (.ref a0), some (.int a1), some (.int a2), some (.int a3)] [] τ = Rs M_H_told d Q 25 [some (.ref a0), some (.int a1), some (.int a2), some (.int a3)] [] τ) ∧
    (∀ (a0 : Nat) (a1 : Int32) (a2 : Int32) (a3 : Int32) (τ : St), Ru M_H_told d Q 62 [some (.ref a0), some (.int a1), some (.int a2), some (.int a3)] [] τ = Ru M_H_told d Q 64 [some (.ref a0), some (.int a1), some (.int a2), some (.int a3)] [.int (-2)] τ) ∧
    (∀ (a0 : Nat) (a1 : Int32) (a2 : Int32) (a3 : Int32) (x0 : Int32) (τ : St), Ru M_H_told d Q 64 [some (.ref a0), some (.int a1), some (.int a2), some (.int a3)] [.int x0] τ = Q (some (.int x0)) τ) := ⟨
  fun _ _ _ _ => (R_at ok_H_told rfl).trans (e_ild rfl),
  fun _ _ _ _ _ => (R_at ok_H_told rfl).trans e_if,
  fun _ _ _ _ => (R_at ok_H_told rfl).trans (e_ild rfl),
  fun _ _ _ _ _ => (R_at ok_H_told rfl).trans e_push,
  fun _ _ _ _ _ _ => (R_at ok_H_told rfl).trans e_ic,
  fun _ _ _ _ => (R_at ok_H_told rfl).trans (e_ild rfl),
  fun _ _ _ _ _ => (R_at ok_H_told rfl).trans e_if,
  fun _ _ _ _ => (R_at ok_H_told rfl).trans (e_ild rfl),
  fun _ _ _ _ _ => (R_at ok_H_told rfl).trans e_push,
  fun _ _ _ _ _ _ => (R_at ok_H_told rfl).trans e_ic,
  fun _ _ _ _ => (R_at ok_H_told rfl).trans e_push,
  fun _ _ _ _ _ => (R_at ok_H_told rfl).trans e_iret,
  fun _ _ _ _ => (R_at ok_H_told rfl).trans e_push,
  fun _ _ _ _ _ => (R_at ok_H_told rfl).trans e_ist,
  fun _ _ _ _ _ => (R_at ok_H_told rfl).trans (e_ild rfl),
  fun _ _ _ _ _ _ => (R_at ok_H_told rfl).trans e_if,
  fun _ _ _ _ _ => (R_at ok_H_told rfl).trans e_push,
  fun _ _ _ _ _ _ => (R_at ok_H_told rfl).trans e_push,
  fun _ _ _ _ _ _ _ => (R_at ok_H_told rfl).trans (e_ild rfl),
  fun _ _ _ _ _ _ _ _ => (R_at ok_H_told rfl).trans e_bin,
  fun _ _ _ _ _ _ _ => (R_at ok_H_told rfl).trans (e_ild rfl),
  fun _ _ _ _ x0 x1 _ _ => (R_at ok_H_told rfl).trans (e_cs [.int x1, .int x0] rfl rfl rfl),
  fun _ _ _ _ _ _ _ => (R_at ok_H_told rfl).trans e_lbin,
  fun _ _ _ _ _ _ => (R_at ok_H_told rfl).trans (e_ild rfl),
  fun _ _ _ _ _ _ _ => (R_at ok_H_told rfl).trans e_il,
  fun _ _ _ _ _ _ _ => (R_at ok_H_told rfl).trans e_push,
  fun _ _ _ _ _ _ _ _ => (R_at ok_H_told rfl).trans (e_ild rfl),
  fun _ _ _ _ x0 x1 _ _ _ => (R_at ok_H_told rfl).trans (e_cs [.int x1, .int x0] rfl rfl rfl),
  fun _ _ _ _ _ _ _ _ => (R_at ok_H_told rfl).trans e_lbin,
  fun _ _ _ _ _ _ _ => (R_at ok_H_told rfl).trans e_lcmp,
  fun _ _ _ _ _ _ => (R_at ok_H_told rfl).trans e_if,
  fun _ _ _ _ _ => (R_at ok_H_told rfl).trans (e_ild rfl),
  fun _ _ _ _ _ _ => (R_at ok_H_told rfl).trans e_iret,
  fun _ _ _ _ _ => (R_at ok_H_told rfl).trans (e_iinc rfl),
  fun _ _ _ _ _ => (R_at ok_H_told rfl).trans e_goto,
  fun _ _ _ _ _ => (R_at ok_H_told rfl).trans e_push,
  fun _ _ _ _ _ _ => (R_at ok_H_told rfl).trans e_iret⟩
set_option maxHeartbeats 4000000 in
theorem N_H_trace (d : Nat) (Q : Qt) : ∀ (x0 : Nat) (x1 : Int32) (x2 : Int32) (τ : St), Cl (d + 1) m_H_trace [.ref x0, .int x1, .int x2] τ Q = Ru M_H_trace d Q 0 [some (.ref x0), some (.int x1), some (.int x2)] [] τ := fun _ _ _ _ => propext ⟨fun h => h.2, fun h => ⟨Nat.le_of_ble_eq_true rfl, h⟩⟩
set_option maxHeartbeats 4000000 in
theorem E_H_trace (d : Nat) (Q : Qt) :
    (∀ (a0 : Nat) (a1 : Int32) (a2 : Int32) (τ : St), Ru M_H_trace d Q 0 [some (.ref a0), some (.int a1), some (.int a2)] [] τ = Ru M_H_trace d Q 1 [some (.ref a0), some (.int a1), some (.int a2)] [.int a1] τ) ∧
    (∀ (a0 : Nat) (a1 : Int32) (a2 : Int32) (x0 : Int32) (τ : St), Ru M_H_trace d Q 1 [some (.ref a0), some (.int a1), some (.int a2)] [.int x0] τ = Cl d m_H_isWeight [.int x0] τ (fun v τ' => Ru M_H_trace d Q 4 [some (.ref a0), some (.int a1), some (.int a2)] (v.toList ++ []) τ')) ∧
    (∀ (a0 : Nat) (a1 : Int32) (a2 : Int32) (x0 : Int32) (τ : St), Ru M_H_trace d Q 4 [some (.ref a0), some (.int a1), some (.int a2)] [.int x0] τ = ((x0 = 0 → Ru M_H_trace d Q 28 [some (.ref a0), some (.int a1), some (.int a2)] [] τ) ∧ (¬ x0 = 0 → Ru M_H_trace d Q 7 [some (.ref a0), some (.int a1), some (.int a2)] [] τ))) ∧
    (∀ (a0 : Nat) (a1 : Int32) (a2 : Int32) (τ : St), Ru M_H_trace d Q 7 [some (.ref a0), some (.int a1), some (.int a2)] [] τ = Ru M_H_trace d Q 8 [some (.ref a0), some (.int a1), some (.int a2)] [.int a2] τ) ∧
    (∀ (a0 : Nat) (a1 : Int32) (a2 : Int32) (x0 : Int32) (τ : St), Ru M_H_trace d Q 8 [some (.ref a0), some (.int a1), some (.int a2)] [.int x0] τ = ((x0 < 0 → Ru M_H_trace d Q 28 [some (.ref a0), some (.int a1), some (.int a2)] [] τ) ∧ (¬ x0 < 0 → Ru M_H_trace d Q 11 [some (.ref a0), some (.int a1), some (.int a2)] [] τ))) ∧
    (∀ (a0 : Nat) (a1 : Int32) (a2 : Int32) (τ : St), Ru M_H_trace d Q 11 [some (.ref a0), some (.int a1), some (.int a2)] [] τ = Ru M_H_trace d Q 12 [some (.ref a0), some (.int a1), some (.int a2)] [.int a2] τ) ∧
    (∀ (a0 : Nat) (a1 : Int32) (a2 : Int32) (x0 : Int32) (τ : St), Ru M_H_trace d Q 12 [some (.ref a0), some (.int a1), some (.int a2)] [.int x0] τ = Ru M_H_trace d Q 13 [some (.ref a0), some (.int a1), some (.int a2)] [.int 1, .int x0] τ) ∧
    (∀ (a0 : Nat) (a1 : Int32) (a2 : Int32) (x0 : Int32) (x1 : Int32) (τ : St), Ru M_H_trace d Q 13 [some (.ref a0), some (.int a1), some (.int a2)] [.int x0, .int x1] τ = ((x0 < x1 → Ru M_H_trace d Q 28 [some (.ref a0), some (.int a1), some (.int a2)] [] τ) ∧ (¬ x0 < x1 → Ru M_H_trace d Q 16 [some (.ref a0), some (.int a1), some (.int a2)] [] τ))) ∧
    (∀ (a0 : Nat) (a1 : Int32) (a2 : Int32) (τ : St), Ru M_H_trace d Q 16 [some (.ref a0), some (.int a1), some (.int a2)] [] τ = Ru M_H_trace d Q 17 [some (.ref a0), some (.int a1), some (.int a2)] [.ref a0] τ) ∧
    (∀ (a0 : Nat) (a1 : Int32) (a2 : Int32) (x0 : Nat) (τ : St), Ru M_H_trace d Q 17 [some (.ref a0), some (.int a1), some (.int a2)] [.ref x0] τ = (isA 11 x0 ∧ Ru M_H_trace d Q 20 [some (.ref a0), some (.int a1), some (.int a2)] [.ref (rtab x0 13)] τ)) ∧
    (∀ (a0 : Nat) (a1 : Int32) (a2 : Int32) (x0 : Nat) (τ : St), Ru M_H_trace d Q 20 [some (.ref a0), some (.int a1), some (.int a2)] [.ref x0] τ = (isA 8 x0 ∧ Ru M_H_trace d Q 23 [some (.ref a0), some (.int a1), some (.int a2)] [.int (τ.1 x0 0)] τ)) ∧
    (∀ (a0 : Nat) (a1 : Int32) (a2 : Int32) (x0 : Int32) (τ : St), Ru M_H_trace d Q 23 [some (.ref a0), some (.int a1), some (.int a2)] [.int x0] τ = Ru M_H_trace d Q 25 [some (.ref a0), some (.int a1), some (.int a2)] [.int 12, .int x0] τ) ∧
    (∀ (a0 : Nat) (a1 : Int32) (a2 : Int32) (x0 : Int32) (x1 : Int32) (τ : St), Ru M_H_trace d Q 25 [some (.ref a0), some (.int a1), some (.int a2)] [.int x0, .int x1] τ = ((x1 < x0 → Ru M_H_trace d Q 30 [some (.ref a0), some (.int a1), some (.int a2)] [] τ) ∧ (¬ x1 < x0 → Ru M_H_trace d Q 28 [some (.ref a0), some (.int a1), some (.int a2)] [] τ))) ∧
    (∀ (a0 : Nat) (a1 : Int32) (a2 : Int32) (τ : St), Ru M_H_trace d Q 28 [some (.ref a0), some (.int a1), some (.int a2)] [] τ = Ru M_H_trace d Q 29 [some (.ref a0), some (.int a1), some (.int a2)] [.int (-1)] τ) ∧
    (∀ (a0 : Nat) (a1 : Int32) (a2 : Int32) (x0 : Int32) (τ : St), Ru M_H_trace d Q 29 [some (.ref a0), some (.int a1), some (.int a2)] [.int x0] τ = Q (some (.int x0)) τ) ∧
    (∀ (a0 : Nat) (a1 : Int32) (a2 : Int32) (τ : St), Ru M_H_trace d Q 30 [some (.ref a0), some (.int a1), some (.int a2)] [] τ = Ru M_H_trace d Q 31 [some (.ref a0), some (.int a1), some (.int a2)] [.ref a0] τ) ∧
    (∀ (a0 : Nat) (a1 : Int32) (a2 : Int32) (x0 : Nat) (τ : St), Ru M_H_trace d Q 31 [some (.ref a0), some (.int a1), some (.int a2)] [.ref x0] τ = (isA 11 x0 ∧ Ru M_H_trace d Q 34 [some (.ref a0), some (.int a1), some (.int a2)] [.ref (rtab x0 13)] τ)) ∧
    (∀ (a0 : Nat) (a1 : Int32) (a2 : Int32) (x0 : Nat) (τ : St), Ru M_H_trace d Q 34 [some (.ref a0), some (.int a1), some (.int a2)] [.ref x0] τ = Ru M_H_trace d Q 35 [some (.ref a0), some (.int a1), some (.int a2)] [.int a1, .ref x0] τ) ∧
    (∀ (a0 : Nat) (a1 : Int32) (a2 : Int32) (x0 : Int32) (x1 : Nat) (τ : St), Ru M_H_trace d Q 35 [some (.ref a0), some (.int a1), some (.int a2)] [.int x0, .ref x1] τ = Ru M_H_trace d Q 36 [some (.ref a0), some (.int a1), some (.int a2)] [.int a2, .int x0, .ref x1] τ) ∧
    (∀ (a0 : Nat) (a1 : Int32) (a2 : Int32) (x0 : Int32) (x1 : Int32) (x2 : Nat) (τ : St), Ru M_H_trace d Q 36 [some (.ref a0), some (.int a1), some (.int a2)] [.int x0, .int x1, .ref x2] τ = Ru M_H_trace d Q 37 [some (.ref a0), some (.int a1), some (.int a2)] [.int 1, .int x0, .int x1, .ref x2] τ) ∧
    (∀ (a0 : Nat) (a1 : Int32) (a2 : Int32) (x0 : Int32) (x1 : Int32) (x2 : Int32) (x3 : Nat) (τ : St), Ru M_H_trace d Q 37 [some (.ref a0), some (.int a1), some (.int a2)] [.int x0, .int x1, .int x2, .ref x3] τ = ((¬ x1 = x0 → Ru M_H_trace d Q 44 [some (.ref a0), some (.int a1), some (.int a2)] [.int x2, .ref x3] τ) ∧ (x1 = x0 → Ru M_H_trace d Q 40 [some (.ref a0), some (.int a1), some (.int a2)] [.int x2, .ref x3] τ))) ∧
    (∀ (a0 : Nat) (a1 : Int32) (a2 : Int32) (x0 : Int32) (x1 : Nat) (τ : St), Ru M_H_trace d Q 40 [some (.ref a0), some (.int a1), some (.int a2)] [.int x0, .ref x1] τ = Ru M_H_trace d Q 41 [some (.ref a0), some (.int a1), some (.int a2)] [.int 1, .int x0, .ref x1] τ) ∧
    (∀ (a0 : Nat) (a1 : Int32) (a2 : Int32) (x0 : Int32) (x1 : Int32) (x2 : Nat) (τ : St), Ru M_H_trace d Q 41 [some (.ref a0), some (.int a1), some (.int a2)] [.int x0, .int x1, .ref x2] τ = Ru M_H_trace d Q 45 [some (.ref a0), some (.int a1), some (.int a2)] [.int x0, .int x1, .ref x2] τ) ∧
    (∀ (a0 : Nat) (a1 : Int32) (a2 : Int32) (x0 : Int32) (x1 : Nat) (τ : St), Ru M_H_trace d Q 44 [some (.ref a0), some (.int a1), some (.int a2)] [.int x0, .ref x1] τ = Ru M_H_trace d Q 45 [some (.ref a0), some (.int a1), some (.int a2)] [.int 0, .int x0, .ref x1] τ) ∧
    (∀ (a0 : Nat) (a1 : Int32) (a2 : Int32) (x0 : Int32) (x1 : Int32) (x2 : Nat) (τ : St), Ru M_H_trace d Q 45 [some (.ref a0), some (.int a1), some (.int a2)] [.int x0, .int x1, .ref x2] τ = (isA 8 x2 ∧ Cl d m_Traces_add [.ref x2, .int x1, .int x0] τ (fun v τ' => Ru M_H_trace d Q 48 [some (.ref a0), some (.int a1), some (.int a2)] (v.toList ++ []) τ'))) ∧
    (∀ (a0 : Nat) (a1 : Int32) (a2 : Int32) (τ : St), Ru M_H_trace d Q 48 [some (.ref a0), some (.int a1), some (.int a2)] [] τ = Ru M_H_trace d Q 49 [some (.ref a0), some (.int a1), some (.int a2)] [.ref a0] τ) ∧
    (∀ (a0 : Nat) (a1 : Int32) (a2 : Int32) (x0 : Nat) (τ : St), Ru M_H_trace d Q 49 [some (.ref a0), some (.int a1), some (.int a2)] [.ref x0] τ = (isA 11 x0 ∧ Ru M_H_trace d Q 52 [some (.ref a0), some (.int a1), some (.int a2)] [.ref (rtab x0 13)] τ)) ∧
    (∀ (a0 : Nat) (a1 : Int32) (a2 : Int32) (x0 : Nat) (τ : St), Ru M_H_trace d Q 52 [some (.ref a0), some (.int a1), some (.int a2)] [.ref x0] τ = (isA 8 x0 ∧ Ru M_H_trace d Q 55 [some (.ref a0), some (.int a1), some (.int a2)] [.int (τ.1 x0 0)] τ)) ∧
    (∀ (a0 : Nat) (a1 : Int32) (a2 : Int32) (x0 : Int32) (τ : St), Ru M_H_trace d Q 55 [some (.ref a0), some (.int a1), some (.int a2)] [.int x0] τ = Q (some (.int x0)) τ) := ⟨
  fun _ _ _ _ => (R_at ok_H_trace rfl).trans (e_ild rfl),
  fun _ _ _ x0 _ => (R_at ok_H_trace rfl).trans (e_cs [.int x0] rfl rfl rfl),
  fun _ _ _ _ _ => (R_at ok_H_trace rfl).trans e_if,
  fun _ _ _ _ => (R_at ok_H_trace rfl).trans (e_ild rfl),
  fun _ _ _ _ _ => (R_at ok_H_trace rfl).trans e_if,
  fun _ _ _ _ => (R_at ok_H_trace rfl).trans (e_ild rfl),
  fun _ _ _ _ _ => (R_at ok_H_trace rfl).trans e_push,
  fun _ _ _ _ _ _ => (R_at ok_H_trace rfl).trans e_ic,
  fun _ _ _ _ => (R_at ok_H_trace rfl).trans (e_ald rfl),
  fun _ _ _ _ _ => (R_at ok_H_trace rfl).trans e_gR,
  fun _ _ _ _ _ => (R_at ok_H_trace rfl).trans e_gI,
  fun _ _ _ _ _ => (R_at ok_H_trace rfl).trans e_push,
  fun _ _ _ _ _ _ => (R_at ok_H_trace rfl).trans e_ic,
  fun _ _ _ _ => (R_at ok_H_trace rfl).trans e_push,
  fun _ _ _ _ _ => (R_at ok_H_trace rfl).trans e_iret,
  fun _ _ _ _ => (R_at ok_H_trace rfl).trans (e_ald rfl),
  fun _ _ _ _ _ => (R_at ok_H_trace rfl).trans e_gR,
  fun _ _ _ _ _ => (R_at ok_H_trace rfl).trans (e_ild rfl),
  fun _ _ _ _ _ _ => (R_at ok_H_trace rfl).trans (e_ild rfl),
  fun _ _ _ _ _ _ _ => (R_at ok_H_trace rfl).trans e_push,
  fun _ _ _ _ _ _ _ _ => (R_at ok_H_trace rfl).trans e_icn,
  fun _ _ _ _ _ _ => (R_at ok_H_trace rfl).trans e_push,
  fun _ _ _ _ _ _ _ => (R_at ok_H_trace rfl).trans e_goto,
  fun _ _ _ _ _ _ => (R_at ok_H_trace rfl).trans e_push,
  fun _ _ _ x0 x1 _ _ => (R_at ok_H_trace rfl).trans (e_cv [.int x1, .int x0] rfl rfl rfl),
  fun _ _ _ _ => (R_at ok_H_trace rfl).trans (e_ald rfl),
  fun _ _ _ _ _ => (R_at ok_H_trace rfl).trans e_gR,
  fun _ _ _ _ _ => (R_at ok_H_trace rfl).trans e_gI,
  fun _ _ _ _ _ => (R_at ok_H_trace rfl).trans e_iret⟩
set_option maxHeartbeats 4000000 in
theorem N_H_forget (d : Nat) (Q : Qt) : ∀ (x0 : Nat) (τ : St), Cl (d + 1) m_H_forget [.ref x0] τ Q = Ru M_H_forget d Q 0 [some (.ref x0), none] [] τ := fun _ _ => propext ⟨fun h => h.2, fun h => ⟨Nat.le_of_ble_eq_true rfl, h⟩⟩
set_option maxHeartbeats 4000000 in
theorem E_H_forget (d : Nat) (Q : Qt) :
    (∀ (a0 : Nat) (τ : St), Ru M_H_forget d Q 0 [some (.ref a0), none] [] τ = Ru M_H_forget d Q 1 [some (.ref a0), none] [.ref a0] τ) ∧
    (∀ (a0 : Nat) (x0 : Nat) (τ : St), Ru M_H_forget d Q 1 [some (.ref a0), none] [.ref x0] τ = (isA 11 x0 ∧ Ru M_H_forget d Q 4 [some (.ref a0), none] [.ref (rtab x0 13)] τ)) ∧
    (∀ (a0 : Nat) (x0 : Nat) (τ : St), Ru M_H_forget d Q 4 [some (.ref a0), none] [.ref x0] τ = (isA 8 x0 ∧ Ru M_H_forget d Q 7 [some (.ref a0), none] [.int (τ.1 x0 0)] τ)) ∧
    (∀ (a0 : Nat) (x0 : Int32) (τ : St), Ru M_H_forget d Q 7 [some (.ref a0), none] [.int x0] τ = Ru M_H_forget d Q 8 [some (.ref a0), some (.int x0)] [] τ) ∧
    (∀ (a0 : Nat) (a1 : Int32) (τ : St), Ru M_H_forget d Q 8 [some (.ref a0), some (.int a1)] [] τ = Ru M_H_forget d Q 9 [some (.ref a0), some (.int a1)] [.ref a0] τ) ∧
    (∀ (a0 : Nat) (a1 : Int32) (x0 : Nat) (τ : St), Ru M_H_forget d Q 9 [some (.ref a0), some (.int a1)] [.ref x0] τ = (isA 11 x0 ∧ Ru M_H_forget d Q 12 [some (.ref a0), some (.int a1)] [.ref (rtab x0 13)] τ)) ∧
    (∀ (a0 : Nat) (a1 : Int32) (x0 : Nat) (τ : St), Ru M_H_forget d Q 12 [some (.ref a0), some (.int a1)] [.ref x0] τ = (isA 8 x0 ∧ Cl d m_Traces_clear [.ref x0] τ (fun v τ' => Ru M_H_forget d Q 15 [some (.ref a0), some (.int a1)] (v.toList ++ []) τ'))) ∧
    (∀ (a0 : Nat) (a1 : Int32) (τ : St), Ru M_H_forget d Q 15 [some (.ref a0), some (.int a1)] [] τ = Ru M_H_forget d Q 16 [some (.ref a0), some (.int a1)] [.int a1] τ) ∧
    (∀ (a0 : Nat) (a1 : Int32) (x0 : Int32) (τ : St), Ru M_H_forget d Q 16 [some (.ref a0), some (.int a1)] [.int x0] τ = Q (some (.int x0)) τ) := ⟨
  fun _ _ => (R_at ok_H_forget rfl).trans (e_ald rfl),
  fun _ _ _ => (R_at ok_H_forget rfl).trans e_gR,
  fun _ _ _ => (R_at ok_H_forget rfl).trans e_gI,
  fun _ _ _ => (R_at ok_H_forget rfl).trans e_ist,
  fun _ _ _ => (R_at ok_H_forget rfl).trans (e_ald rfl),
  fun _ _ _ _ => (R_at ok_H_forget rfl).trans e_gR,
  fun _ _ _ _ => (R_at ok_H_forget rfl).trans (e_cv [] rfl rfl rfl),
  fun _ _ _ => (R_at ok_H_forget rfl).trans (e_ild rfl),
  fun _ _ _ _ => (R_at ok_H_forget rfl).trans e_iret⟩
set_option maxHeartbeats 4000000 in
theorem N_H_fits (d : Nat) (Q : Qt) : ∀ (x0 : Nat) (τ : St), Cl (d + 1) m_H_fits [.ref x0] τ Q = Ru M_H_fits d Q 0 [some (.ref x0), none] [] τ := fun _ _ => propext ⟨fun h => h.2, fun h => ⟨Nat.le_of_ble_eq_true rfl, h⟩⟩
set_option maxHeartbeats 4000000 in
theorem E_H_fits (d : Nat) (Q : Qt) :
    (∀ (a0 : Nat) (τ : St), Ru M_H_fits d Q 0 [some (.ref a0), none] [] τ = Ru M_H_fits d Q 1 [some (.ref a0), none] [.ref a0] τ) ∧
    (∀ (a0 : Nat) (x0 : Nat) (τ : St), Ru M_H_fits d Q 1 [some (.ref a0), none] [.ref x0] τ = (isA 11 x0 ∧ Cl d m_H_fitting [.ref x0] τ (fun v τ' => Ru M_H_fits d Q 4 [some (.ref a0), none] (v.toList ++ []) τ'))) ∧
    (∀ (a0 : Nat) (x0 : Int32) (τ : St), Ru M_H_fits d Q 4 [some (.ref a0), none] [.int x0] τ = Ru M_H_fits d Q 5 [some (.ref a0), some (.int x0)] [] τ) ∧
    (∀ (a0 : Nat) (a1 : Int32) (τ : St), Ru M_H_fits d Q 5 [some (.ref a0), some (.int a1)] [] τ = Ru M_H_fits d Q 6 [some (.ref a0), some (.int a1)] [.ref a0] τ) ∧
    (∀ (a0 : Nat) (a1 : Int32) (x0 : Nat) (τ : St), Ru M_H_fits d Q 6 [some (.ref a0), some (.int a1)] [.ref x0] τ = (isA 11 x0 ∧ Ru M_H_fits d Q 9 [some (.ref a0), some (.int a1)] [.ref (rtab x0 1)] τ)) ∧
    (∀ (a0 : Nat) (a1 : Int32) (x0 : Nat) (τ : St), Ru M_H_fits d Q 9 [some (.ref a0), some (.int a1)] [.ref x0] τ = Ru M_H_fits d Q 10 [some (.ref a0), some (.int a1)] [.int a1, .ref x0] τ) ∧
    (∀ (a0 : Nat) (a1 : Int32) (x0 : Int32) (x1 : Nat) (τ : St), Ru M_H_fits d Q 10 [some (.ref a0), some (.int a1)] [.int x0, .ref x1] τ = Cl d m_bitsI [.int x0] τ (fun v τ' => Ru M_H_fits d Q 13 [some (.ref a0), some (.int a1)] (v.toList ++ [.ref x1]) τ')) ∧
    (∀ (a0 : Nat) (a1 : Int32) (x0 : Int32) (x1 : Nat) (τ : St), Ru M_H_fits d Q 13 [some (.ref a0), some (.int a1)] [.int x0, .ref x1] τ = Ru M_H_fits d Q 14 [some (.ref a0), some (.int a1)] [.long x0.toInt64, .ref x1] τ) ∧
    (∀ (a0 : Nat) (a1 : Int32) (x0 : Int64) (x1 : Nat) (τ : St), Ru M_H_fits d Q 14 [some (.ref a0), some (.int a1)] [.long x0, .ref x1] τ = (isA 4 x1 ∧ Cl d m_Row_only [.ref x1, .long x0] τ (fun v τ' => Ru M_H_fits d Q 17 [some (.ref a0), some (.int a1)] (v.toList ++ []) τ'))) ∧
    (∀ (a0 : Nat) (a1 : Int32) (τ : St), Ru M_H_fits d Q 17 [some (.ref a0), some (.int a1)] [] τ = Ru M_H_fits d Q 18 [some (.ref a0), some (.int a1)] [.int a1] τ) ∧
    (∀ (a0 : Nat) (a1 : Int32) (x0 : Int32) (τ : St), Ru M_H_fits d Q 18 [some (.ref a0), some (.int a1)] [.int x0] τ = Q (some (.int x0)) τ) := ⟨
  fun _ _ => (R_at ok_H_fits rfl).trans (e_ald rfl),
  fun _ _ _ => (R_at ok_H_fits rfl).trans (e_cv [] rfl rfl rfl),
  fun _ _ _ => (R_at ok_H_fits rfl).trans e_ist,
  fun _ _ _ => (R_at ok_H_fits rfl).trans (e_ald rfl),
  fun _ _ _ _ => (R_at ok_H_fits rfl).trans e_gR,
  fun _ _ _ _ => (R_at ok_H_fits rfl).trans (e_ild rfl),
  fun _ _ x0 _ _ => (R_at ok_H_fits rfl).trans (e_cs [.int x0] rfl rfl rfl),
  fun _ _ _ _ _ => (R_at ok_H_fits rfl).trans e_il,
  fun _ _ x0 _ _ => (R_at ok_H_fits rfl).trans (e_cv [.long x0] rfl rfl rfl),
  fun _ _ _ => (R_at ok_H_fits rfl).trans (e_ild rfl),
  fun _ _ _ _ => (R_at ok_H_fits rfl).trans e_iret⟩
set_option maxHeartbeats 4000000 in
theorem N_H_fitting (d : Nat) (Q : Qt) : ∀ (x0 : Nat) (τ : St), Cl (d + 1) m_H_fitting [.ref x0] τ Q = Ru M_H_fitting d Q 0 [some (.ref x0), none, none] [] τ := fun _ _ => propext ⟨fun h => h.2, fun h => ⟨Nat.le_of_ble_eq_true rfl, h⟩⟩
set_option maxHeartbeats 4000000 in
theorem E_H_fitting (d : Nat) (Q : Qt) :
    (∀ (a0 : Nat) (τ : St), Ru M_H_fitting d Q 0 [some (.ref a0), none, none] [] τ = Ru M_H_fitting d Q 1 [some (.ref a0), none, none] [.int 0] τ) ∧
    (∀ (a0 : Nat) (x0 : Int32) (τ : St), Ru M_H_fitting d Q 1 [some (.ref a0), none, none] [.int x0] τ = Ru M_H_fitting d Q 2 [some (.ref a0), some (.int x0), none] [] τ) ∧
    (∀ (a0 : Nat) (a1 : Int32) (τ : St), Ru M_H_fitting d Q 2 [some (.ref a0), some (.int a1), none] [] τ = Ru M_H_fitting d Q 3 [some (.ref a0), some (.int a1), none] [.int 0] τ) ∧
    (∀ (a0 : Nat) (a1 : Int32) (x0 : Int32) (τ : St), Ru M_H_fitting d Q 3 [some (.ref a0), some (.int a1), none] [.int x0] τ = Rs M_H_fitting d Q 4 [some (.ref a0), some (.int a1), some (.int x0)] [] τ) ∧
    (∀ (a0 : Nat) (a1 : Int32) (a2 : Int32) (τ : St), Ru M_H_fitting d Q 4 [some (.ref a0), some (.int a1), some (.int a2)] [] τ = Ru M_H_fitting d Q 5 [some (.ref a0), some (.int a1), some (.int a2)] [.int a2] τ) ∧
    (∀ (a0 : Nat) (a1 : Int32) (a2 : Int32) (x0 : Int32) (τ : St), Ru M_H_fitting d Q 5 [some (.ref a0), some (.int a1), some (.int a2)] [.int x0] τ = Ru M_H_fitting d Q 6 [some (.ref a0), some (.int a1), some (.int a2)] [.ref a0, .int x0] τ) ∧
    (∀ (a0 : Nat) (a1 : Int32) (a2 : Int32) (x0 : Nat) (x1 : Int32) (τ : St), Ru M_H_fitting d Q 6 [some (.ref a0), some (.int a1), some (.int a2)] [.ref x0, .int x1] τ = (isA 11 x0 ∧ Ru M_H_fitting d Q 9 [some (.ref a0), some (.int a1), some (.int a2)] [.ref (rtab x0 3), .int x1] τ)) ∧
    (∀ (a0 : Nat) (a1 : Int32) (a2 : Int32) (x0 : Nat) (x1 : Int32) (τ : St), Ru M_H_fitting d Q 9 [some (.ref a0), some (.int a1), some (.int a2)] [.ref x0, .int x1] τ = (isA 1 x0 ∧ Ru M_H_fitting d Q 12 [some (.ref a0), some (.int a1), some (.int a2)] [.int (τ.1 x0 1), .int x1] τ)) ∧
    (∀ (a0 : Nat) (a1 : Int32) (a2 : Int32) (x0 : Int32) (x1 : Int32) (τ : St), Ru M_H_fitting d Q 12 [some (.ref a0), some (.int a1), some (.int a2)] [.int x0, .int x1] τ = ((x0 ≤ x1 → Ru M_H_fitting d Q 49 [some (.ref a0), some (.int a1), some (.int a2)] [] τ) ∧ (¬ x0 ≤ x1 → Ru M_H_fitting d Q 15 [some (.ref a0), some (.int a1), some (.int a2)] [] τ))) ∧
    (∀ (a0 : Nat) (a1 : Int32) (a2 : Int32) (τ : St), Ru M_H_fitting d Q 15 [some (.ref a0), some (.int a1), some (.int a2)] [] τ = Ru M_H_fitting d Q 16 [some (.ref a0), some (.int a1), some (.int a2)] [.int a2] τ) ∧
    (∀ (a0 : Nat) (a1 : Int32) (a2 : Int32) (x0 : Int32) (τ : St), Ru M_H_fitting d Q 16 [some (.ref a0), some (.int a1), some (.int a2)] [.int x0] τ = Ru M_H_fitting d Q 18 [some (.ref a0), some (.int a1), some (.int a2)] [.int 8, .int x0] τ) ∧
    (∀ (a0 : Nat) (a1 : Int32) (a2 : Int32) (x0 : Int32) (x1 : Int32) (τ : St), Ru M_H_fitting d Q 18 [some (.ref a0), some (.int a1), some (.int a2)] [.int x0, .int x1] τ = ((x0 ≤ x1 → Ru M_H_fitting d Q 49 [some (.ref a0), some (.int a1), some (.int a2)] [] τ) ∧ (¬ x0 ≤ x1 → Ru M_H_fitting d Q 21 [some (.ref a0), some (.int a1), some (.int a2)] [] τ))) ∧
    (∀ (a0 : Nat) (a1 : Int32) (a2 : Int32) (τ : St), Ru M_H_fitting d Q 21 [some (.ref a0), some (.int a1), some (.int a2)] [] τ = Ru M_H_fitting d Q 22 [some (.ref a0), some (.int a1), some (.int a2)] [.ref a0] τ) ∧
    (∀ (a0 : Nat) (a1 : Int32) (a2 : Int32) (x0 : Nat) (τ : St), Ru M_H_fitting d Q 22 [some (.ref a0), some (.int a1), some (.int a2)] [.ref x0] τ = (isA 11 x0 ∧ Ru M_H_fitting d Q 25 [some (.ref a0), some (.int a1), some (.int a2)] [.ref (rtab x0 13)] τ)) ∧
    (∀ (a0 : Nat) (a1 : Int32) (a2 : Int32) (x0 : Nat) (τ : St), Ru M_H_fitting d Q 25 [some (.ref a0), some (.int a1), some (.int a2)] [.ref x0] τ = Ru M_H_fitting d Q 26 [some (.ref a0), some (.int a1), some (.int a2)] [.ref a0, .ref x0] τ) ∧
    (∀ (a0 : Nat) (a1 : Int32) (a2 : Int32) (x0 : Nat) (x1 : Nat) (τ : St), Ru M_H_fitting d Q 26 [some (.ref a0), some (.int a1), some (.int a2)] [.ref x0, .ref x1] τ = (isA 11 x0 ∧ Ru M_H_fitting d Q 29 [some (.ref a0), some (.int a1), some (.int a2)] [.ref (rtab x0 7), .ref x1] τ)) ∧
    (∀ (a0 : Nat) (a1 : Int32) (a2 : Int32) (x0 : Nat) (x1 : Nat) (τ : St), Ru M_H_fitting d Q 29 [some (.ref a0), some (.int a1), some (.int a2)] [.ref x0, .ref x1] τ = Ru M_H_fitting d Q 30 [some (.ref a0), some (.int a1), some (.int a2)] [.int a2, .ref x0, .ref x1] τ) ∧
    (∀ (a0 : Nat) (a1 : Int32) (a2 : Int32) (x0 : Int32) (x1 : Nat) (x2 : Nat) (τ : St), Ru M_H_fitting d Q 30 [some (.ref a0), some (.int a1), some (.int a2)] [.int x0, .ref x1, .ref x2] τ = (isA 14 x1 ∧ vp_in x0 (len x1) ∧ Ru M_H_fitting d Q 31 [some (.ref a0), some (.int a1), some (.int a2)] [.int (τ.1 x1 x0.toNatClampNeg), .ref x2] τ)) ∧
    (∀ (a0 : Nat) (a1 : Int32) (a2 : Int32) (x0 : Int32) (x1 : Nat) (τ : St), Ru M_H_fitting d Q 31 [some (.ref a0), some (.int a1), some (.int a2)] [.int x0, .ref x1] τ = (isA 8 x1 ∧ Cl d m_Traces_allow [.ref x1, .int x0] τ (fun v τ' => Ru M_H_fitting d Q 34 [some (.ref a0), some (.int a1), some (.int a2)] (v.toList ++ []) τ'))) ∧
    (∀ (a0 : Nat) (a1 : Int32) (a2 : Int32) (x0 : Int32) (τ : St), Ru M_H_fitting d Q 34 [some (.ref a0), some (.int a1), some (.int a2)] [.int x0] τ = ((x0 = 0 → Ru M_H_fitting d Q 43 [some (.ref a0), some (.int a1), some (.int a2)] [] τ) ∧ (¬ x0 = 0 → Ru M_H_fitting d Q 37 [some (.ref a0), some (.int a1), some (.int a2)] [] τ))) ∧
    (∀ (a0 : Nat) (a1 : Int32) (a2 : Int32) (τ : St), Ru M_H_fitting d Q 37 [some (.ref a0), some (.int a1), some (.int a2)] [] τ = Ru M_H_fitting d Q 38 [some (.ref a0), some (.int a1), some (.int a2)] [.int a1] τ) ∧
    (∀ (a0 : Nat) (a1 : Int32) (a2 : Int32) (x0 : Int32) (τ : St), Ru M_H_fitting d Q 38 [some (.ref a0), some (.int a1), some (.int a2)] [.int x0] τ = Ru M_H_fitting d Q 39 [some (.ref a0), some (.int a1), some (.int a2)] [.int 1, .int x0] τ) ∧
    (∀ (a0 : Nat) (a1 : Int32) (a2 : Int32) (x0 : Int32) (x1 : Int32) (τ : St), Ru M_H_fitting d Q 39 [some (.ref a0), some (.int a1), some (.int a2)] [.int x0, .int x1] τ = Ru M_H_fitting d Q 40 [some (.ref a0), some (.int a1), some (.int a2)] [.int a2, .int x0, .int x1] τ) ∧
    (∀ (a0 : Nat) (a1 : Int32) (a2 : Int32) (x0 : Int32) (x1 : Int32) (x2 : Int32) (τ : St), Ru M_H_fitting d Q 40 [some (.ref a0), some (.int a1), some (.int a2)] [.int x0, .int x1, .int x2] τ = Ru M_H_fitting d Q 41 [some (.ref a0), some (.int a1), some (.int a2)] [.int (x1 <<< (x0 &&& 31)), .int x2] τ) ∧
    (∀ (a0 : Nat) (a1 : Int32) (a2 : Int32) (x0 : Int32) (x1 : Int32) (τ : St), Ru M_H_fitting d Q 41 [some (.ref a0), some (.int a1), some (.int a2)] [.int x0, .int x1] τ = Ru M_H_fitting d Q 42 [some (.ref a0), some (.int a1), some (.int a2)] [.int (x1 ||| x0)] τ) ∧
    (∀ (a0 : Nat) (a1 : Int32) (a2 : Int32) (x0 : Int32) (τ : St), Ru M_H_fitting d Q 42 [some (.ref a0), some (.int a1), some (.int a2)] [.int x0] τ = Ru M_H_fitting d Q 43 [some (.ref a0), some (.int x0), some (.int a2)] [] τ) ∧
    (∀ (a0 : Nat) (a1 : Int32) (a2 : Int32) (τ : St), Ru M_H_fitting d Q 43 [some (.ref a0), some (.int a1), some (.int a2)] [] τ = Ru M_H_fitting d Q 46 [some (.ref a0), some (.int a1), some (.int (a2 + 1))] [] τ) ∧
    (∀ (a0 : Nat) (a1 : Int32) (a2 : Int32) (τ : St), Ru M_H_fitting d Q 46 [some (.ref a0), some (.int a1), some (.int a2)] [] τ = Rs M_H_fitting d Q 4 [some (.ref a0), some (.int a1), some (.int a2)] [] τ) ∧
    (∀ (a0 : Nat) (a1 : Int32) (a2 : Int32) (τ : St), Ru M_H_fitting d Q 49 [some (.ref a0), some (.int a1), some (.int a2)] [] τ = Ru M_H_fitting d Q 50 [some (.ref a0), some (.int a1), some (.int a2)] [.int a1] τ) ∧
    (∀ (a0 : Nat) (a1 : Int32) (a2 : Int32) (x0 : Int32) (τ : St), Ru M_H_fitting d Q 50 [some (.ref a0), some (.int a1), some (.int a2)] [.int x0] τ = Q (some (.int x0)) τ) := ⟨
  fun _ _ => (R_at ok_H_fitting rfl).trans e_push,
  fun _ _ _ => (R_at ok_H_fitting rfl).trans e_ist,
  fun _ _ _ => (R_at ok_H_fitting rfl).trans e_push,
  fun _ _ _ _ => (R_at ok_H_fitting rfl).trans e_ist,
  fun _ _ _ _ => (R_at ok_H_fitting rfl).trans (e_ild rfl),
  fun _ _ _ _ _ => (R_at ok_H_fitting rfl).trans (e_ald rfl),
  fun _ _ _ _ _ _ => (R_at ok_H_fitting rfl).trans e_gR,
  fun _ _ _ _ _ _ => (R_at ok_H_fitting rfl).trans e_gI,
  fun _ _ _ _ _ _ => (R_at ok_H_fitting rfl).trans e_ic,
  fun _ _ _ _ => (R_at ok_H_fitting rfl).trans (e_ild rfl),
  fun _ _ _ _ _ => (R_at ok_H_fitting rfl).trans e_push,
  fun _ _ _ _ _ _ => (R_at ok_H_fitting rfl).trans e_ic,
  fun _ _ _ _ => (R_at ok_H_fitting rfl).trans (e_ald rfl),
  fun _ _ _ _ _ => (R_at ok_H_fitting rfl).trans e_gR,
  fun _ _ _ _ _ => (R_at ok_H_fitting rfl).trans (e_ald rfl),
  fun _ _ _ _ _ _ => (R_at ok_H_fitting rfl).trans e_gR,
  fun _ _ _ _ _ _ => (R_at ok_H_fitting rfl).trans (e_ild rfl),
  fun _ _ _ _ _ _ _ => (R_at ok_H_fitting rfl).trans e_al,
  fun _ _ _ x0 _ _ => (R_at ok_H_fitting rfl).trans (e_cv [.int x0] rfl rfl rfl),
  fun _ _ _ _ _ => (R_at ok_H_fitting rfl).trans e_if,
  fun _ _ _ _ => (R_at ok_H_fitting rfl).trans (e_ild rfl),
  fun _ _ _ _ _ => (R_at ok_H_fitting rfl).trans e_push,
  fun _ _ _ _ _ _ => (R_at ok_H_fitting rfl).trans (e_ild rfl),
  fun _ _ _ _ _ _ _ => (R_at ok_H_fitting rfl).trans e_bin,
  fun _ _ _ _ _ _ => (R_at ok_H_fitting rfl).trans e_bin,
  fun _ _ _ _ _ => (R_at ok_H_fitting rfl).trans e_ist,
  fun _ _ _ _ => (R_at ok_H_fitting rfl).trans (e_iinc rfl),
  fun _ _ _ _ => (R_at ok_H_fitting rfl).trans e_goto,
  fun _ _ _ _ => (R_at ok_H_fitting rfl).trans (e_ild rfl),
  fun _ _ _ _ _ => (R_at ok_H_fitting rfl).trans e_iret⟩
set_option maxHeartbeats 4000000 in
theorem N_H_ask (d : Nat) (Q : Qt) : ∀ (x0 : Nat) (τ : St), Cl (d + 1) m_H_ask [.ref x0] τ Q = Ru M_H_ask d Q 0 [some (.ref x0), none, none, none, none, none, none] [] τ := fun _ _ => propext ⟨fun h => h.2, fun h => ⟨Nat.le_of_ble_eq_true rfl, h⟩⟩
set_option maxHeartbeats 4000000 in
theorem E_H_ask (d : Nat) (Q : Qt) :
    (∀ (a0 : Nat) (τ : St), Ru M_H_ask d Q 0 [some (.ref a0), none, none, none, none, none, none] [] τ = Ru M_H_ask d Q 1 [some (.ref a0), none, none, none, none, none, none] [.ref a0] τ) ∧
    (∀ (a0 : Nat) (x0 : Nat) (τ : St), Ru M_H_ask d Q 1 [some (.ref a0), none, none, none, none, none, none] [.ref x0] τ = (isA 11 x0 ∧ Cl d m_H_fitting [.ref x0] τ (fun v τ' => Ru M_H_ask d Q 4 [some (.ref a0), none, none, none, none, none, none] (v.toList ++ []) τ'))) ∧
    (∀ (a0 : Nat) (x0 : Int32) (τ : St), Ru M_H_ask d Q 4 [some (.ref a0), none, none, none, none, none, none] [.int x0] τ = Ru M_H_ask d Q 5 [some (.ref a0), some (.int x0), none, none, none, none, none] [] τ) ∧
    (∀ (a0 : Nat) (a1 : Int32) (τ : St), Ru M_H_ask d Q 5 [some (.ref a0), some (.int a1), none, none, none, none, none] [] τ = Ru M_H_ask d Q 6 [some (.ref a0), some (.int a1), none, none, none, none, none] [.int a1] τ) ∧
    (∀ (a0 : Nat) (a1 : Int32) (x0 : Int32) (τ : St), Ru M_H_ask d Q 6 [some (.ref a0), some (.int a1), none, none, none, none, none] [.int x0] τ = ((¬ x0 = 0 → Ru M_H_ask d Q 12 [some (.ref a0), some (.int a1), none, none, none, none, none] [] τ) ∧ (x0 = 0 → Ru M_H_ask d Q 9 [some (.ref a0), some (.int a1), none, none, none, none, none] [] τ))) ∧
    (∀ (a0 : Nat) (a1 : Int32) (τ : St), Ru M_H_ask d Q 9 [some (.ref a0), some (.int a1), none, none, none, none, none] [] τ = Ru M_H_ask d Q 11 [some (.ref a0), some (.int a1), none, none, none, none, none] [.int (-2)] τ) ∧
    (∀ (a0 : Nat) (a1 : Int32) (x0 : Int32) (τ : St), Ru M_H_ask d Q 11 [some (.ref a0), some (.int a1), none, none, none, none, none] [.int x0] τ = Q (some (.int x0)) τ) ∧
    (∀ (a0 : Nat) (a1 : Int32) (τ : St), Ru M_H_ask d Q 12 [some (.ref a0), some (.int a1), none, none, none, none, none] [] τ = Ru M_H_ask d Q 13 [some (.ref a0), some (.int a1), none, none, none, none, none] [.int (-1)] τ) ∧
    (∀ (a0 : Nat) (a1 : Int32) (x0 : Int32) (τ : St), Ru M_H_ask d Q 13 [some (.ref a0), some (.int a1), none, none, none, none, none] [.int x0] τ = Ru M_H_ask d Q 14 [some (.ref a0), some (.int a1), some (.int x0), none, none, none, none] [] τ) ∧
    (∀ (a0 : Nat) (a1 : Int32) (a2 : Int32) (τ : St), Ru M_H_ask d Q 14 [some (.ref a0), some (.int a1), some (.int a2), none, none, none, none] [] τ = Ru M_H_ask d Q 15 [some (.ref a0), some (.int a1), some (.int a2), none, none, none, none] [.int 0] τ) ∧
    (∀ (a0 : Nat) (a1 : Int32) (a2 : Int32) (x0 : Int32) (τ : St), Ru M_H_ask d Q 15 [some (.ref a0), some (.int a1), some (.int a2), none, none, none, none] [.int x0] τ = Ru M_H_ask d Q 16 [some (.ref a0), some (.int a1), some (.int a2), some (.int x0), none, none, none] [] τ) ∧
    (∀ (a0 : Nat) (a1 : Int32) (a2 : Int32) (a3 : Int32) (τ : St), Ru M_H_ask d Q 16 [some (.ref a0), some (.int a1), some (.int a2), some (.int a3), none, none, none] [] τ = Ru M_H_ask d Q 17 [some (.ref a0), some (.int a1), some (.int a2), some (.int a3), none, none, none] [.int 1] τ) ∧
    (∀ (a0 : Nat) (a1 : Int32) (a2 : Int32) (a3 : Int32) (x0 : Int32) (τ : St), Ru M_H_ask d Q 17 [some (.ref a0), some (.int a1), some (.int a2), some (.int a3), none, none, none] [.int x0] τ = Rs M_H_ask d Q 19 [some (.ref a0), some (.int a1), some (.int a2), some (.int a3), some (.int x0), none, none] [] τ) ∧
    (∀ (a0 : Nat) (a1 : Int32) (a2 : Int32) (a3 : Int32) (a4 : Int32) (a5 : Option Value) (a6 : Option Value) (τ : St), Ru M_H_ask d Q 19 [some (.ref a0), some (.int a1), some (.int a2), some (.int a3), some (.int a4), a5, a6] [] τ = Ru M_H_ask d Q 21 [some (.ref a0), some (.int a1), some (.int a2), some (.int a3), some (.int a4), a5, a6] [.int a4] τ) ∧
    (∀ (a0 : Nat) (a1 : Int32) (a2 : Int32) (a3 : Int32) (a4 : Int32) (a5 : Option Value) (a6 : Option Value) (x0 : Int32) (τ : St), Ru M_H_ask d Q 21 [some (.ref a0), some (.int a1), some (.int a2), some (.int a3), some (.int a4), a5, a6] [.int x0] τ = Ru M_H_ask d Q 23 [some (.ref a0), some (.int a1), some (.int a2), some (.int a3), some (.int a4), a5, a6] [.int 99, .int x0] τ) ∧
    (∀ (a0 : Nat) (a1 : Int32) (a2 : Int32) (a3 : Int32) (a4 : Int32) (a5 : Option Value) (a6 : Option Value) (x0 : Int32) (x1 : Int32) (τ : St), Ru M_H_ask d Q 23 [some (.ref a0), some (.int a1), some (.int a2), some (.int a3), some (.int a4), a5, a6] [.int x0, .int x1] τ = ((x0 < x1 → Ru M_H_ask d Q 72 [some (.ref a0), some (.int a1), some (.int a2), some (.int a3), some (.int a4), a5, a6] [] τ) ∧ (¬ x0 < x1 → Ru M_H_ask d Q 26 [some (.ref a0), some (.int a1), some (.int a2), some (.int a3), some (.int a4), a5, a6] [] τ))) ∧
    (∀ (a0 : Nat) (a1 : Int32) (a2 : Int32) (a3 : Int32) (a4 : Int32) (a5 : Option Value) (a6 : Option Value) (τ : St), Ru M_H_ask d Q 26 [some (.ref a0), some (.int a1), some (.int a2), some (.int a3), some (.int a4), a5, a6] [] τ = Ru M_H_ask d Q 27 [some (.ref a0), some (.int a1), some (.int a2), some (.int a3), some (.int a4), a5, a6] [.ref a0] τ) ∧
    (∀ (a0 : Nat) (a1 : Int32) (a2 : Int32) (a3 : Int32) (a4 : Int32) (a5 : Option Value) (a6 : Option Value) (x0 : Nat) (τ : St), Ru M_H_ask d Q 27 [some (.ref a0), some (.int a1), some (.int a2), some (.int a3), some (.int a4), a5, a6] [.ref x0] τ = Ru M_H_ask d Q 28 [some (.ref a0), some (.int a1), some (.int a2), some (.int a3), some (.int a4), a5, a6] [.int a1, .ref x0] τ) ∧
    (∀ (a0 : Nat) (a1 : Int32) (a2 : Int32) (a3 : Int32) (a4 : Int32) (a5 : Option Value) (a6 : Option Value) (x0 : Int32) (x1 : Nat) (τ : St), Ru M_H_ask d Q 28 [some (.ref a0), some (.int a1), some (.int a2), some (.int a3), some (.int a4), a5, a6] [.int x0, .ref x1] τ = Ru M_H_ask d Q 30 [some (.ref a0), some (.int a1), some (.int a2), some (.int a3), some (.int a4), a5, a6] [.int a4, .int x0, .ref x1] τ) ∧
    (∀ (a0 : Nat) (a1 : Int32) (a2 : Int32) (a3 : Int32) (a4 : Int32) (a5 : Option Value) (a6 : Option Value) (x0 : Int32) (x1 : Int32) (x2 : Nat) (τ : St), Ru M_H_ask d Q 30 [some (.ref a0), some (.int a1), some (.int a2), some (.int a3), some (.int a4), a5, a6] [.int x0, .int x1, .ref x2] τ = (isA 11 x2 ∧ Cl d m_H_heavyAmong [.ref x2, .int x1, .int x0] τ (fun v τ' => Ru M_H_ask d Q 33 [some (.ref a0), some (.int a1), some (.int a2), some (.int a3), some (.int a4), a5, a6] (v.toList ++ []) τ'))) ∧
    (∀ (a0 : Nat) (a1 : Int32) (a2 : Int32) (a3 : Int32) (a4 : Int32) (a5 : Option Value) (a6 : Option Value) (x0 : Int32) (τ : St), Ru M_H_ask d Q 33 [some (.ref a0), some (.int a1), some (.int a2), some (.int a3), some (.int a4), a5, a6] [.int x0] τ = Ru M_H_ask d Q 35 [some (.ref a0), some (.int a1), some (.int a2), some (.int a3), some (.int a4), some (.int x0), a6] [] τ) ∧
    (∀ (a0 : Nat) (a1 : Int32) (a2 : Int32) (a3 : Int32) (a4 : Int32) (a5 : Int32) (a6 : Option Value) (τ : St), Ru M_H_ask d Q 35 [some (.ref a0), some (.int a1), some (.int a2), some (.int a3), some (.int a4), some (.int a5), a6] [] τ = Ru M_H_ask d Q 37 [some (.ref a0), some (.int a1), some (.int a2), some (.int a3), some (.int a4), some (.int a5), a6] [.int a5] τ) ∧
    (∀ (a0 : Nat) (a1 : Int32) (a2 : Int32) (a3 : Int32) (a4 : Int32) (a5 : Int32) (a6 : Option Value) (x0 : Int32) (τ : St), Ru M_H_ask d Q 37 [some (.ref a0), some (.int a1), some (.int a2), some (.int a3), some (.int a4), some (.int a5), a6] [.int x0] τ = Ru M_H_ask d Q 38 [some (.ref a0), some (.int a1), some (.int a2), some (.int a3), some (.int a4), some (.int a5), a6] [.int a1, .int x0] τ) ∧
    (∀ (a0 : Nat) (a1 : Int32) (a2 : Int32) (a3 : Int32) (a4 : Int32) (a5 : Int32) (a6 : Option Value) (x0 : Int32) (x1 : Int32) (τ : St), Ru M_H_ask d Q 38 [some (.ref a0), some (.int a1), some (.int a2), some (.int a3), some (.int a4), some (.int a5), a6] [.int x0, .int x1] τ = Cl d m_bitsI [.int x0] τ (fun v τ' => Ru M_H_ask d Q 41 [some (.ref a0), some (.int a1), some (.int a2), some (.int a3), some (.int a4), some (.int a5), a6] (v.toList ++ [.int x1]) τ')) ∧
    (∀ (a0 : Nat) (a1 : Int32) (a2 : Int32) (a3 : Int32) (a4 : Int32) (a5 : Int32) (a6 : Option Value) (x0 : Int32) (x1 : Int32) (τ : St), Ru M_H_ask d Q 41 [some (.ref a0), some (.int a1), some (.int a2), some (.int a3), some (.int a4), some (.int a5), a6] [.int x0, .int x1] τ = Ru M_H_ask d Q 43 [some (.ref a0), some (.int a1), some (.int a2), some (.int a3), some (.int a4), some (.int a5), a6] [.int a5, .int x0, .int x1] τ) ∧
    (∀ (a0 : Nat) (a1 : Int32) (a2 : Int32) (a3 : Int32) (a4 : Int32) (a5 : Int32) (a6 : Option Value) (x0 : Int32) (x1 : Int32) (x2 : Int32) (τ : St), Ru M_H_ask d Q 43 [some (.ref a0), some (.int a1), some (.int a2), some (.int a3), some (.int a4), some (.int a5), a6] [.int x0, .int x1, .int x2] τ = Ru M_H_ask d Q 44 [some (.ref a0), some (.int a1), some (.int a2), some (.int a3), some (.int a4), some (.int a5), a6] [.int (x1 - x0), .int x2] τ) ∧
    (∀ (a0 : Nat) (a1 : Int32) (a2 : Int32) (a3 : Int32) (a4 : Int32) (a5 : Int32) (a6 : Option Value) (x0 : Int32) (x1 : Int32) (τ : St), Ru M_H_ask d Q 44 [some (.ref a0), some (.int a1), some (.int a2), some (.int a3), some (.int a4), some (.int a5), a6] [.int x0, .int x1] τ = Ru M_H_ask d Q 47 [some (.ref a0), some (.int a1), some (.int a2), some (.int a3), some (.int a4), some (.int a5), a6] [.int (if x1 < x0 then x0 else x1)] τ) ∧
    (∀ (a0 : Nat) (a1 : Int32) (a2 : Int32) (a3 : Int32) (a4 : Int32) (a5 : Int32) (a6 : Option Value) (x0 : Int32) (τ : St), Ru M_H_ask d Q 47 [some (.ref a0), some (.int a1), some (.int a2), some (.int a3), some (.int a4), some (.int a5), a6] [.int x0] τ = Ru M_H_ask d Q 49 [some (.ref a0), some (.int a1), some (.int a2), some (.int a3), some (.int a4), some (.int a5), some (.int x0)] [] τ) ∧
    (∀ (a0 : Nat) (a1 : Int32) (a2 : Int32) (a3 : Int32) (a4 : Int32) (a5 : Int32) (a6 : Int32) (τ : St), Ru M_H_ask d Q 49 [some (.ref a0), some (.int a1), some (.int a2), some (.int a3), some (.int a4), some (.int a5), some (.int a6)] [] τ = Ru M_H_ask d Q 50 [some (.ref a0), some (.int a1), some (.int a2), some (.int a3), some (.int a4), some (.int a5), some (.int a6)] [.int a2] τ) ∧
    (∀ (a0 : Nat) (a1 : Int32) (a2 : Int32) (a3 : Int32) (a4 : Int32) (a5 : Int32) (a6 : Int32) (x0 : Int32) (τ : St), Ru M_H_ask d Q 50 [some (.ref a0), some (.int a1), some (.int a2), some (.int a3), some (.int a4), some (.int a5), some (.int a6)] [.int x0] τ = Ru M_H_ask d Q 51 [some (.ref a0), some (.int a1), some (.int a2), some (.int a3), some (.int a4), some (.int a5), some (.int a6)] [.int (-1), .int x0] τ) ∧
    (∀ (a0 : Nat) (a1 : Int32) (a2 : Int32) (a3 : Int32) (a4 : Int32) (a5 : Int32) (a6 : Int32) (x0 : Int32) (x1 : Int32) (τ : St), Ru M_H_ask d Q 51 [some (.ref a0), some (.int a1), some (.int a2), some (.int a3), some (.int a4), some (.int a5), some (.int a6)] [.int x0, .int x1] τ = ((x1 = x0 → Ru M_H_ask d Q 60 [some (.ref a0), some (.int a1), some (.int a2), some (.int a3), some (.int a4), some (.int a5), some (.int a6)] [] τ) ∧ (¬ x1 = x0 → Ru M_H_ask d Q 54 [some (.ref a0), some (.int a1), some (.int a2), some (.int a3), some (.int a4), some (.int a5), some (.int a6)] [] τ))) ∧
    (∀ (a0 : Nat) (a1 : Int32) (a2 : Int32) (a3 : Int32) (a4 : Int32) (a5 : Int32) (a6 : Int32) (τ : St), Ru M_H_ask d Q 54 [some (.ref a0), some (.int a1), some (.int a2), some (.int a3), some (.int a4), some (.int a5), some (.int a6)] [] τ = Ru M_H_ask d Q 56 [some (.ref a0), some (.int a1), some (.int a2), some (.int a3), some (.int a4), some (.int a5), some (.int a6)] [.int a6] τ) ∧
    (∀ (a0 : Nat) (a1 : Int32) (a2 : Int32) (a3 : Int32) (a4 : Int32) (a5 : Int32) (a6 : Int32) (x0 : Int32) (τ : St), Ru M_H_ask d Q 56 [some (.ref a0), some (.int a1), some (.int a2), some (.int a3), some (.int a4), some (.int a5), some (.int a6)] [.int x0] τ = Ru M_H_ask d Q 57 [some (.ref a0), some (.int a1), some (.int a2), some (.int a3), some (.int a4), some (.int a5), some (.int a6)] [.int a3, .int x0] τ) ∧
    (∀ (a0 : Nat) (a1 : Int32) (a2 : Int32) (a3 : Int32) (a4 : Int32) (a5 : Int32) (a6 : Int32) (x0 : Int32) (x1 : Int32) (τ : St), Ru M_H_ask d Q 57 [some (.ref a0), some (.int a1), some (.int a2), some (.int a3), some (.int a4), some (.int a5), some (.int a6)] [.int x0, .int x1] τ = ((x0 ≤ x1 → Ru M_H_ask d Q 66 [some (.ref a0), some (.int a1), some (.int a2), some (.int a3), some (.int a4), some (.int a5), some (.int a6)] [] τ) ∧ (¬ x0 ≤ x1 → Ru M_H_ask d Q 60 [some (.ref a0), some (.int a1), some (.int a2), some (.int a3), some (.int a4), some (.int a5), some (.int a6)] [] τ))) ∧
    (∀ (a0 : Nat) (a1 : Int32) (a2 : Int32) (a3 : Int32) (a4 : Int32) (a5 : Int32) (a6 : Int32) (τ : St), Ru M_H_ask d Q 60 [some (.ref a0), some (.int a1), some (.int a2), some (.int a3), some (.int a4), some (.int a5), some (.int a6)] [] τ = Ru M_H_ask d Q 62 [some (.ref a0), some (.int a1), some (.int a2), some (.int a3), some (.int a4), some (.int a5), some (.int a6)] [.int a4] τ) ∧
    (∀ (a0 : Nat) (a1 : Int32) (a2 : Int32) (a3 : Int32) (a4 : Int32) (a5 : Int32) (a6 : Int32) (x0 : Int32) (τ : St), Ru M_H_ask d Q 62 [some (.ref a0), some (.int a1), some (.int a2), some (.int a3), some (.int a4), some (.int a5), some (.int a6)] [.int x0] τ = Ru M_H_ask d Q 63 [some (.ref a0), some (.int a1), some (.int x0), some (.int a3), some (.int a4), some (.int a5), some (.int a6)] [] τ) ∧
    (∀ (a0 : Nat) (a1 : Int32) (a2 : Int32) (a3 : Int32) (a4 : Int32) (a5 : Int32) (a6 : Int32) (τ : St), Ru M_H_ask d Q 63 [some (.ref a0), some (.int a1), some (.int a2), some (.int a3), some (.int a4), some (.int a5), some (.int a6)] [] τ = Ru M_H_ask d Q 65 [some (.ref a0), some (.int a1), some (.int a2), some (.int a3), some (.int a4), some (.int a5), some (.int a6)] [.int a6] τ) ∧
    (∀ (a0 : Nat) (a1 : Int32) (a2 : Int32) (a3 : Int32) (a4 : Int32) (a5 : Int32) (a6 : Int32) (x0 : Int32) (τ : St), Ru M_H_ask d Q 65 [some (.ref a0), some (.int a1), some (.int a2), some (.int a3), some (.int a4), some (.int a5), some (.int a6)] [.int x0] τ = Ru M_H_ask d Q 66 [some (.ref a0), some (.int a1), some (.int a2), some (.int x0), some (.int a4), some (.int a5), some (.int a6)] [] τ) ∧
    (∀ (a0 : Nat) (a1 : Int32) (a2 : Int32) (a3 : Int32) (a4 : Int32) (a5 : Int32) (a6 : Int32) (τ : St), Ru M_H_ask d Q 66 [some (.ref a0), some (.int a1), some (.int a2), some (.int a3), some (.int a4), some (.int a5), some (.int a6)] [] τ = Ru M_H_ask d Q 69 [some (.ref a0), some (.int a1), some (.int a2), some (.int a3), some (.int (a4 + 1)), some (.int a5), some (.int a6)] [] τ) ∧
    (∀ (a0 : Nat) (a1 : Int32) (a2 : Int32) (a3 : Int32) (a4 : Int32) (a5 : Int32) (a6 : Int32) (τ : St), Ru M_H_ask d Q 69 [some (.ref a0), some (.int a1), some (.int a2), some (.int a3), some (.int a4), some (.int a5), some (.int a6)] [] τ = Rs M_H_ask d Q 19 [some (.ref a0), some (.int a1), some (.int a2), some (.int a3), some (.int a4), some (.int a5), some (.int a6)] [] τ) ∧
    (∀ (a0 : Nat) (a1 : Int32) (a2 : Int32) (a3 : Int32) (a4 : Int32) (a5 : Option Value) (a6 : Option Value) (τ : St), Ru M_H_ask d Q 72 [some (.ref a0), some (.int a1), some (.int a2), some (.int a3), some (.int a4), a5, a6] [] τ = Ru M_H_ask d Q 73 [some (.ref a0), some (.int a1), some (.int a2), some (.int a3), some (.int a4), a5, a6] [.ref a0] τ) ∧
    (∀ (a0 : Nat) (a1 : Int32) (a2 : Int32) (a3 : Int32) (a4 : Int32) (a5 : Option Value) (a6 : Option Value) (x0 : Nat) (τ : St), Ru M_H_ask d Q 73 [some (.ref a0), some (.int a1), some (.int a2), some (.int a3), some (.int a4), a5, a6] [.ref x0] τ = (isA 11 x0 ∧ Ru M_H_ask d Q 76 [some (.ref a0), some (.int a1), some (.int a2), some (.int a3), some (.int a4), a5, a6] [.ref (rtab x0 1)] τ)) ∧
    (∀ (a0 : Nat) (a1 : Int32) (a2 : Int32) (a3 : Int32) (a4 : Int32) (a5 : Option Value) (a6 : Option Value) (x0 : Nat) (τ : St), Ru M_H_ask d Q 76 [some (.ref a0), some (.int a1), some (.int a2), some (.int a3), some (.int a4), a5, a6] [.ref x0] τ = Ru M_H_ask d Q 77 [some (.ref a0), some (.int a1), some (.int a2), some (.int a3), some (.int a4), a5, a6] [.int a3, .ref x0] τ) ∧
    (∀ (a0 : Nat) (a1 : Int32) (a2 : Int32) (a3 : Int32) (a4 : Int32) (a5 : Option Value) (a6 : Option Value) (x0 : Int32) (x1 : Nat) (τ : St), Ru M_H_ask d Q 77 [some (.ref a0), some (.int a1), some (.int a2), some (.int a3), some (.int a4), a5, a6] [.int x0, .ref x1] τ = Ru M_H_ask d Q 78 [some (.ref a0), some (.int a1), some (.int a2), some (.int a3), some (.int a4), a5, a6] [.long x0.toInt64, .ref x1] τ) ∧
    (∀ (a0 : Nat) (a1 : Int32) (a2 : Int32) (a3 : Int32) (a4 : Int32) (a5 : Option Value) (a6 : Option Value) (x0 : Int64) (x1 : Nat) (τ : St), Ru M_H_ask d Q 78 [some (.ref a0), some (.int a1), some (.int a2), some (.int a3), some (.int a4), a5, a6] [.long x0, .ref x1] τ = (isA 4 x1 ∧ Cl d m_Row_only [.ref x1, .long x0] τ (fun v τ' => Ru M_H_ask d Q 81 [some (.ref a0), some (.int a1), some (.int a2), some (.int a3), some (.int a4), a5, a6] (v.toList ++ []) τ'))) ∧
    (∀ (a0 : Nat) (a1 : Int32) (a2 : Int32) (a3 : Int32) (a4 : Int32) (a5 : Option Value) (a6 : Option Value) (τ : St), Ru M_H_ask d Q 81 [some (.ref a0), some (.int a1), some (.int a2), some (.int a3), some (.int a4), a5, a6] [] τ = Ru M_H_ask d Q 82 [some (.ref a0), some (.int a1), some (.int a2), some (.int a3), some (.int a4), a5, a6] [.int a2] τ) ∧
    (∀ (a0 : Nat) (a1 : Int32) (a2 : Int32) (a3 : Int32) (a4 : Int32) (a5 : Option Value) (a6 : Option Value) (x0 : Int32) (τ : St), Ru M_H_ask d Q 82 [some (.ref a0), some (.int a1), some (.int a2), some (.int a3), some (.int a4), a5, a6] [.int x0] τ = Q (some (.int x0)) τ) := ⟨
  fun _ _ => (R_at ok_H_ask rfl).trans (e_ald rfl),
  fun _ _ _ => (R_at ok_H_ask rfl).trans (e_cv [] rfl rfl rfl),
  fun _ _ _ => (R_at ok_H_ask rfl).trans e_ist,
  fun _ _ _ => (R_at ok_H_ask rfl).trans (e_ild rfl),
  fun _ _ _ _ => (R_at ok_H_ask rfl).trans e_ifn,
  fun _ _ _ => (R_at ok_H_ask rfl).trans e_push,
  fun _ _ _ _ => (R_at ok_H_ask rfl).trans e_iret,
  fun _ _ _ => (R_at ok_H_ask rfl).trans e_push,
  fun _ _ _ _ => (R_at ok_H_ask rfl).trans e_ist,
  fun _ _ _ _ => (R_at ok_H_ask rfl).trans e_push,
  fun _ _ _ _ _ => (R_at ok_H_ask rfl).trans e_ist,
  fun _ _ _ _ _ => (R_at ok_H_ask rfl).trans e_push,
  fun _ _ _ _ _ _ => (R_at ok_H_ask rfl).trans e_ist,
  fun _ _ _ _ _ _ _ _ => (R_at ok_H_ask rfl).trans (e_ild rfl),
  fun _ _ _ _ _ _ _ _ _ => (R_at ok_H_ask rfl).trans e_push,
  fun _ _ _ _ _ _ _ _ _ _ => (R_at ok_H_ask rfl).trans e_ic,
  fun _ _ _ _ _ _ _ _ => (R_at ok_H_ask rfl).trans (e_ald rfl),
  fun _ _ _ _ _ _ _ _ _ => (R_at ok_H_ask rfl).trans (e_ild rfl),
  fun _ _ _ _ _ _ _ _ _ _ => (R_at ok_H_ask rfl).trans (e_ild rfl),
  fun _ _ _ _ _ _ _ x0 x1 _ _ => (R_at ok_H_ask rfl).trans (e_cv [.int x1, .int x0] rfl rfl rfl),
  fun _ _ _ _ _ _ _ _ _ => (R_at ok_H_ask rfl).trans e_ist,
  fun _ _ _ _ _ _ _ _ => (R_at ok_H_ask rfl).trans (e_ild rfl),
  fun _ _ _ _ _ _ _ _ _ => (R_at ok_H_ask rfl).trans (e_ild rfl),
  fun _ _ _ _ _ _ _ x0 _ _ => (R_at ok_H_ask rfl).trans (e_cs [.int x0] rfl rfl rfl),
  fun _ _ _ _ _ _ _ _ _ _ => (R_at ok_H_ask rfl).trans (e_ild rfl),
  fun _ _ _ _ _ _ _ _ _ _ _ => (R_at ok_H_ask rfl).trans e_bin,
  fun _ _ _ _ _ _ _ _ _ _ => (R_at ok_H_ask rfl).trans (e_mm rfl),
  fun _ _ _ _ _ _ _ _ _ => (R_at ok_H_ask rfl).trans e_ist,
  fun _ _ _ _ _ _ _ _ => (R_at ok_H_ask rfl).trans (e_ild rfl),
  fun _ _ _ _ _ _ _ _ _ => (R_at ok_H_ask rfl).trans e_push,
  fun _ _ _ _ _ _ _ _ _ _ => (R_at ok_H_ask rfl).trans e_ic,
  fun _ _ _ _ _ _ _ _ => (R_at ok_H_ask rfl).trans (e_ild rfl),
  fun _ _ _ _ _ _ _ _ _ => (R_at ok_H_ask rfl).trans (e_ild rfl),
  fun _ _ _ _ _ _ _ _ _ _ => (R_at ok_H_ask rfl).trans e_ic,
  fun _ _ _ _ _ _ _ _ => (R_at ok_H_ask rfl).trans (e_ild rfl),
  fun _ _ _ _ _ _ _ _ _ => (R_at ok_H_ask rfl).trans e_ist,
  fun _ _ _ _ _ _ _ _ => (R_at ok_H_ask rfl).trans (e_ild rfl),
  fun _ _ _ _ _ _ _ _ _ => (R_at ok_H_ask rfl).trans e_ist,
  fun _ _ _ _ _ _ _ _ => (R_at ok_H_ask rfl).trans (e_iinc rfl),
  fun _ _ _ _ _ _ _ _ => (R_at ok_H_ask rfl).trans e_goto,
  fun _ _ _ _ _ _ _ _ => (R_at ok_H_ask rfl).trans (e_ald rfl),
  fun _ _ _ _ _ _ _ _ _ => (R_at ok_H_ask rfl).trans e_gR,
  fun _ _ _ _ _ _ _ _ _ => (R_at ok_H_ask rfl).trans (e_ild rfl),
  fun _ _ _ _ _ _ _ _ _ _ => (R_at ok_H_ask rfl).trans e_il,
  fun _ _ _ _ _ _ _ x0 _ _ => (R_at ok_H_ask rfl).trans (e_cv [.long x0] rfl rfl rfl),
  fun _ _ _ _ _ _ _ _ => (R_at ok_H_ask rfl).trans (e_ild rfl),
  fun _ _ _ _ _ _ _ _ _ => (R_at ok_H_ask rfl).trans e_iret⟩
set_option maxHeartbeats 4000000 in
theorem N_H_heavyAmong (d : Nat) (Q : Qt) : ∀ (x0 : Nat) (x1 : Int32) (x2 : Int32) (τ : St), Cl (d + 1) m_H_heavyAmong [.ref x0, .int x1, .int x2] τ Q = Ru M_H_heavyAmong d Q 0 [some (.ref x0), some (.int x1), some (.int x2), none, none] [] τ := fun _ _ _ _ => propext ⟨fun h => h.2, fun h => ⟨Nat.le_of_ble_eq_true rfl, h⟩⟩
set_option maxHeartbeats 4000000 in
theorem E_H_heavyAmong (d : Nat) (Q : Qt) :
    (∀ (a0 : Nat) (a1 : Int32) (a2 : Int32) (τ : St), Ru M_H_heavyAmong d Q 0 [some (.ref a0), some (.int a1), some (.int a2), none, none] [] τ = Ru M_H_heavyAmong d Q 1 [some (.ref a0), some (.int a1), some (.int a2), none, none] [.int 0] τ) ∧
    (∀ (a0 : Nat) (a1 : Int32) (a2 : Int32) (x0 : Int32) (τ : St), Ru M_H_heavyAmong d Q 1 [some (.ref a0), some (.int a1), some (.int a2), none, none] [.int x0] τ = Ru M_H_heavyAmong d Q 2 [some (.ref a0), some (.int a1), some (.int a2), some (.int x0), none] [] τ) ∧
    (∀ (a0 : Nat) (a1 : Int32) (a2 : Int32) (a3 : Int32) (τ : St), Ru M_H_heavyAmong d Q 2 [some (.ref a0), some (.int a1), some (.int a2), some (.int a3), none] [] τ = Ru M_H_heavyAmong d Q 3 [some (.ref a0), some (.int a1), some (.int a2), some (.int a3), none] [.int 0] τ) ∧
    (∀ (a0 : Nat) (a1 : Int32) (a2 : Int32) (a3 : Int32) (x0 : Int32) (τ : St), Ru M_H_heavyAmong d Q 3 [some (.ref a0), some (.int a1), some (.int a2), some (.int a3), none] [.int x0] τ = Rs M_H_heavyAmong d Q 5 [some (.ref a0), some (.int a1), some (.int a2), some (.int a3), some (.int x0)] [] τ) ∧
    (∀ (a0 : Nat) (a1 : Int32) (a2 : Int32) (a3 : Int32) (a4 : Int32) (τ : St), Ru M_H_heavyAmong d Q 5 [some (.ref a0), some (.int a1), some (.int a2), some (.int a3), some (.int a4)] [] τ = Ru M_H_heavyAmong d Q 7 [some (.ref a0), some (.int a1), some (.int a2), some (.int a3), some (.int a4)] [.int a4] τ) ∧
    (∀ (a0 : Nat) (a1 : Int32) (a2 : Int32) (a3 : Int32) (a4 : Int32) (x0 : Int32) (τ : St), Ru M_H_heavyAmong d Q 7 [some (.ref a0), some (.int a1), some (.int a2), some (.int a3), some (.int a4)] [.int x0] τ = Ru M_H_heavyAmong d Q 9 [some (.ref a0), some (.int a1), some (.int a2), some (.int a3), some (.int a4)] [.int 8, .int x0] τ) ∧
    (∀ (a0 : Nat) (a1 : Int32) (a2 : Int32) (a3 : Int32) (a4 : Int32) (x0 : Int32) (x1 : Int32) (τ : St), Ru M_H_heavyAmong d Q 9 [some (.ref a0), some (.int a1), some (.int a2), some (.int a3), some (.int a4)] [.int x0, .int x1] τ = ((x0 ≤ x1 → Ru M_H_heavyAmong d Q 41 [some (.ref a0), some (.int a1), some (.int a2), some (.int a3), some (.int a4)] [] τ) ∧ (¬ x0 ≤ x1 → Ru M_H_heavyAmong d Q 12 [some (.ref a0), some (.int a1), some (.int a2), some (.int a3), some (.int a4)] [] τ))) ∧
    (∀ (a0 : Nat) (a1 : Int32) (a2 : Int32) (a3 : Int32) (a4 : Int32) (τ : St), Ru M_H_heavyAmong d Q 12 [some (.ref a0), some (.int a1), some (.int a2), some (.int a3), some (.int a4)] [] τ = Ru M_H_heavyAmong d Q 13 [some (.ref a0), some (.int a1), some (.int a2), some (.int a3), some (.int a4)] [.int a1] τ) ∧
    (∀ (a0 : Nat) (a1 : Int32) (a2 : Int32) (a3 : Int32) (a4 : Int32) (x0 : Int32) (τ : St), Ru M_H_heavyAmong d Q 13 [some (.ref a0), some (.int a1), some (.int a2), some (.int a3), some (.int a4)] [.int x0] τ = Ru M_H_heavyAmong d Q 15 [some (.ref a0), some (.int a1), some (.int a2), some (.int a3), some (.int a4)] [.int a4, .int x0] τ) ∧
    (∀ (a0 : Nat) (a1 : Int32) (a2 : Int32) (a3 : Int32) (a4 : Int32) (x0 : Int32) (x1 : Int32) (τ : St), Ru M_H_heavyAmong d Q 15 [some (.ref a0), some (.int a1), some (.int a2), some (.int a3), some (.int a4)] [.int x0, .int x1] τ = Ru M_H_heavyAmong d Q 16 [some (.ref a0), some (.int a1), some (.int a2), some (.int a3), some (.int a4)] [.int ((x1.toUInt32 >>> (x0.toUInt32 &&& Int32.toUInt32 31)).toInt32)] τ) ∧
    (∀ (a0 : Nat) (a1 : Int32) (a2 : Int32) (a3 : Int32) (a4 : Int32) (x0 : Int32) (τ : St), Ru M_H_heavyAmong d Q 16 [some (.ref a0), some (.int a1), some (.int a2), some (.int a3), some (.int a4)] [.int x0] τ = Ru M_H_heavyAmong d Q 17 [some (.ref a0), some (.int a1), some (.int a2), some (.int a3), some (.int a4)] [.int 1, .int x0] τ) ∧
    (∀ (a0 : Nat) (a1 : Int32) (a2 : Int32) (a3 : Int32) (a4 : Int32) (x0 : Int32) (x1 : Int32) (τ : St), Ru M_H_heavyAmong d Q 17 [some (.ref a0), some (.int a1), some (.int a2), some (.int a3), some (.int a4)] [.int x0, .int x1] τ = Ru M_H_heavyAmong d Q 18 [some (.ref a0), some (.int a1), some (.int a2), some (.int a3), some (.int a4)] [.int (x1 &&& x0)] τ) ∧
    (∀ (a0 : Nat) (a1 : Int32) (a2 : Int32) (a3 : Int32) (a4 : Int32) (x0 : Int32) (τ : St), Ru M_H_heavyAmong d Q 18 [some (.ref a0), some (.int a1), some (.int a2), some (.int a3), some (.int a4)] [.int x0] τ = ((x0 = 0 → Ru M_H_heavyAmong d Q 35 [some (.ref a0), some (.int a1), some (.int a2), some (.int a3), some (.int a4)] [] τ) ∧ (¬ x0 = 0 → Ru M_H_heavyAmong d Q 21 [some (.ref a0), some (.int a1), some (.int a2), some (.int a3), some (.int a4)] [] τ))) ∧
    (∀ (a0 : Nat) (a1 : Int32) (a2 : Int32) (a3 : Int32) (a4 : Int32) (τ : St), Ru M_H_heavyAmong d Q 21 [some (.ref a0), some (.int a1), some (.int a2), some (.int a3), some (.int a4)] [] τ = Ru M_H_heavyAmong d Q 22 [some (.ref a0), some (.int a1), some (.int a2), some (.int a3), some (.int a4)] [.ref a0] τ) ∧
    (∀ (a0 : Nat) (a1 : Int32) (a2 : Int32) (a3 : Int32) (a4 : Int32) (x0 : Nat) (τ : St), Ru M_H_heavyAmong d Q 22 [some (.ref a0), some (.int a1), some (.int a2), some (.int a3), some (.int a4)] [.ref x0] τ = (isA 11 x0 ∧ Ru M_H_heavyAmong d Q 25 [some (.ref a0), some (.int a1), some (.int a2), some (.int a3), some (.int a4)] [.ref (rtab x0 7)] τ)) ∧
    (∀ (a0 : Nat) (a1 : Int32) (a2 : Int32) (a3 : Int32) (a4 : Int32) (x0 : Nat) (τ : St), Ru M_H_heavyAmong d Q 25 [some (.ref a0), some (.int a1), some (.int a2), some (.int a3), some (.int a4)] [.ref x0] τ = Ru M_H_heavyAmong d Q 27 [some (.ref a0), some (.int a1), some (.int a2), some (.int a3), some (.int a4)] [.int a4, .ref x0] τ) ∧
    (∀ (a0 : Nat) (a1 : Int32) (a2 : Int32) (a3 : Int32) (a4 : Int32) (x0 : Int32) (x1 : Nat) (τ : St), Ru M_H_heavyAmong d Q 27 [some (.ref a0), some (.int a1), some (.int a2), some (.int a3), some (.int a4)] [.int x0, .ref x1] τ = (isA 14 x1 ∧ vp_in x0 (len x1) ∧ Ru M_H_heavyAmong d Q 28 [some (.ref a0), some (.int a1), some (.int a2), some (.int a3), some (.int a4)] [.int (τ.1 x1 x0.toNatClampNeg)] τ)) ∧
    (∀ (a0 : Nat) (a1 : Int32) (a2 : Int32) (a3 : Int32) (a4 : Int32) (x0 : Int32) (τ : St), Ru M_H_heavyAmong d Q 28 [some (.ref a0), some (.int a1), some (.int a2), some (.int a3), some (.int a4)] [.int x0] τ = Ru M_H_heavyAmong d Q 29 [some (.ref a0), some (.int a1), some (.int a2), some (.int a3), some (.int a4)] [.int a2, .int x0] τ) ∧
    (∀ (a0 : Nat) (a1 : Int32) (a2 : Int32) (a3 : Int32) (a4 : Int32) (x0 : Int32) (x1 : Int32) (τ : St), Ru M_H_heavyAmong d Q 29 [some (.ref a0), some (.int a1), some (.int a2), some (.int a3), some (.int a4)] [.int x0, .int x1] τ = ((x1 < x0 → Ru M_H_heavyAmong d Q 35 [some (.ref a0), some (.int a1), some (.int a2), some (.int a3), some (.int a4)] [] τ) ∧ (¬ x1 < x0 → Ru M_H_heavyAmong d Q 32 [some (.ref a0), some (.int a1), some (.int a2), some (.int a3), some (.int a4)] [] τ))) ∧
    (∀ (a0 : Nat) (a1 : Int32) (a2 : Int32) (a3 : Int32) (a4 : Int32) (τ : St), Ru M_H_heavyAmong d Q 32 [some (.ref a0), some (.int a1), some (.int a2), some (.int a3), some (.int a4)] [] τ = Ru M_H_heavyAmong d Q 35 [some (.ref a0), some (.int a1), some (.int a2), some (.int (a3 + 1)), some (.int a4)] [] τ) ∧
    (∀ (a0 : Nat) (a1 : Int32) (a2 : Int32) (a3 : Int32) (a4 : Int32) (τ : St), Ru M_H_heavyAmong d Q 35 [some (.ref a0), some (.int a1), some (.int a2), some (.int a3), some (.int a4)] [] τ = Ru M_H_heavyAmong d Q 38 [some (.ref a0), some (.int a1), some (.int a2), some (.int a3), some (.int (a4 + 1))] [] τ) ∧
    (∀ (a0 : Nat) (a1 : Int32) (a2 : Int32) (a3 : Int32) (a4 : Int32) (τ : St), Ru M_H_heavyAmong d Q 38 [some (.ref a0), some (.int a1), some (.int a2), some (.int a3), some (.int a4)] [] τ = Rs M_H_heavyAmong d Q 5 [some (.ref a0), some (.int a1), some (.int a2), some (.int a3), some (.int a4)] [] τ) ∧
    (∀ (a0 : Nat) (a1 : Int32) (a2 : Int32) (a3 : Int32) (a4 : Int32) (τ : St), Ru M_H_heavyAmong d Q 41 [some (.ref a0), some (.int a1), some (.int a2), some (.int a3), some (.int a4)] [] τ = Ru M_H_heavyAmong d Q 42 [some (.ref a0), some (.int a1), some (.int a2), some (.int a3), some (.int a4)] [.int a3] τ) ∧
    (∀ (a0 : Nat) (a1 : Int32) (a2 : Int32) (a3 : Int32) (a4 : Int32) (x0 : Int32) (τ : St), Ru M_H_heavyAmong d Q 42 [some (.ref a0), some (.int a1), some (.int a2), some (.int a3), some (.int a4)] [.int x0] τ = Q (some (.int x0)) τ) := ⟨
  fun _ _ _ _ => (R_at ok_H_heavyAmong rfl).trans e_push,
  fun _ _ _ _ _ => (R_at ok_H_heavyAmong rfl).trans e_ist,
  fun _ _ _ _ _ => (R_at ok_H_heavyAmong rfl).trans e_push,
  fun _ _ _ _ _ _ => (R_at ok_H_heavyAmong rfl).trans e_ist,
  fun _ _ _ _ _ _ => (R_at ok_H_heavyAmong rfl).trans (e_ild rfl),
  fun _ _ _ _ _ _ _ => (R_at ok_H_heavyAmong rfl).trans e_push,
  fun _ _ _ _ _ _ _ _ => (R_at ok_H_heavyAmong rfl).trans e_ic,
  fun _ _ _ _ _ _ => (R_at ok_H_heavyAmong rfl).trans (e_ild rfl),
  fun _ _ _ _ _ _ _ => (R_at ok_H_heavyAmong rfl).trans (e_ild rfl),
  fun _ _ _ _ _ _ _ _ => (R_at ok_H_heavyAmong rfl).trans e_bin,
  fun _ _ _ _ _ _ _ => (R_at ok_H_heavyAmong rfl).trans e_push,
  fun _ _ _ _ _ _ _ _ => (R_at ok_H_heavyAmong rfl).trans e_bin,
  fun _ _ _ _ _ _ _ => (R_at ok_H_heavyAmong rfl).trans e_if,
  fun _ _ _ _ _ _ => (R_at ok_H_heavyAmong rfl).trans (e_ald rfl),
  fun _ _ _ _ _ _ _ => (R_at ok_H_heavyAmong rfl).trans e_gR,
  fun _ _ _ _ _ _ _ => (R_at ok_H_heavyAmong rfl).trans (e_ild rfl),
  fun _ _ _ _ _ _ _ _ => (R_at ok_H_heavyAmong rfl).trans e_al,
  fun _ _ _ _ _ _ _ => (R_at ok_H_heavyAmong rfl).trans (e_ild rfl),
  fun _ _ _ _ _ _ _ _ => (R_at ok_H_heavyAmong rfl).trans e_ic,
  fun _ _ _ _ _ _ => (R_at ok_H_heavyAmong rfl).trans (e_iinc rfl),
  fun _ _ _ _ _ _ => (R_at ok_H_heavyAmong rfl).trans (e_iinc rfl),
  fun _ _ _ _ _ _ => (R_at ok_H_heavyAmong rfl).trans e_goto,
  fun _ _ _ _ _ _ => (R_at ok_H_heavyAmong rfl).trans (e_ild rfl),
  fun _ _ _ _ _ _ _ => (R_at ok_H_heavyAmong rfl).trans e_iret⟩
set_option maxHeartbeats 4000000 in
theorem N_H_law (d : Nat) (Q : Qt) : ∀ (x0 : Nat) (x1 : Int32) (τ : St), Cl (d + 1) m_H_law [.ref x0, .int x1] τ Q = Ru M_H_law d Q 0 [some (.ref x0), some (.int x1), none, none, none, none] [] τ := fun _ _ _ => propext ⟨fun h => h.2, fun h => ⟨Nat.le_of_ble_eq_true rfl, h⟩⟩
set_option maxHeartbeats 4000000 in
theorem E_H_law (d : Nat) (Q : Qt) :
    (∀ (a0 : Nat) (a1 : Int32) (τ : St), Ru M_H_law d Q 0 [some (.ref a0), some (.int a1), none, none, none, none] [] τ = Ru M_H_law d Q 3 [some (.ref a0), some (.int a1), none, none, none, none] [.int (-20000)] τ) ∧
    (∀ (a0 : Nat) (a1 : Int32) (x0 : Int32) (τ : St), Ru M_H_law d Q 3 [some (.ref a0), some (.int a1), none, none, none, none] [.int x0] τ = Ru M_H_law d Q 4 [some (.ref a0), some (.int a1), some (.int x0), none, none, none] [] τ) ∧
    (∀ (a0 : Nat) (a1 : Int32) (a2 : Int32) (τ : St), Ru M_H_law d Q 4 [some (.ref a0), some (.int a1), some (.int a2), none, none, none] [] τ = Ru M_H_law d Q 5 [some (.ref a0), some (.int a1), some (.int a2), none, none, none] [.ref a0] τ) ∧
    (∀ (a0 : Nat) (a1 : Int32) (a2 : Int32) (x0 : Nat) (τ : St), Ru M_H_law d Q 5 [some (.ref a0), some (.int a1), some (.int a2), none, none, none] [.ref x0] τ = Ru M_H_law d Q 6 [some (.ref a0), some (.int a1), some (.int a2), none, none, none] [.int a1, .ref x0] τ) ∧
    (∀ (a0 : Nat) (a1 : Int32) (a2 : Int32) (x0 : Int32) (x1 : Nat) (τ : St), Ru M_H_law d Q 6 [some (.ref a0), some (.int a1), some (.int a2), none, none, none] [.int x0, .ref x1] τ = (isA 11 x1 ∧ Cl d m_H_hasShip [.ref x1, .int x0] τ (fun v τ' => Ru M_H_law d Q 9 [some (.ref a0), some (.int a1), some (.int a2), none, none, none] (v.toList ++ []) τ'))) ∧
    (∀ (a0 : Nat) (a1 : Int32) (a2 : Int32) (x0 : Int32) (τ : St), Ru M_H_law d Q 9 [some (.ref a0), some (.int a1), some (.int a2), none, none, none] [.int x0] τ = ((x0 = 0 → Ru M_H_law d Q 81 [some (.ref a0), some (.int a1), some (.int a2), none, none, none] [] τ) ∧ (¬ x0 = 0 → Ru M_H_law d Q 12 [some (.ref a0), some (.int a1), some (.int a2), none, none, none] [] τ))) ∧
    (∀ (a0 : Nat) (a1 : Int32) (a2 : Int32) (τ : St), Ru M_H_law d Q 12 [some (.ref a0), some (.int a1), some (.int a2), none, none, none] [] τ = Ru M_H_law d Q 13 [some (.ref a0), some (.int a1), some (.int a2), none, none, none] [.ref a0] τ) ∧
    (∀ (a0 : Nat) (a1 : Int32) (a2 : Int32) (x0 : Nat) (τ : St), Ru M_H_law d Q 13 [some (.ref a0), some (.int a1), some (.int a2), none, none, none] [.ref x0] τ = (isA 11 x0 ∧ Ru M_H_law d Q 16 [some (.ref a0), some (.int a1), some (.int a2), none, none, none] [.ref (rtab x0 11)] τ)) ∧
    (∀ (a0 : Nat) (a1 : Int32) (a2 : Int32) (x0 : Nat) (τ : St), Ru M_H_law d Q 16 [some (.ref a0), some (.int a1), some (.int a2), none, none, none] [.ref x0] τ = Ru M_H_law d Q 17 [some (.ref a0), some (.int a1), some (.int a2), none, none, none] [.ref a0, .ref x0] τ) ∧
    (∀ (a0 : Nat) (a1 : Int32) (a2 : Int32) (x0 : Nat) (x1 : Nat) (τ : St), Ru M_H_law d Q 17 [some (.ref a0), some (.int a1), some (.int a2), none, none, none] [.ref x0, .ref x1] τ = (isA 11 x0 ∧ Ru M_H_law d Q 20 [some (.ref a0), some (.int a1), some (.int a2), none, none, none] [.ref (rtab x0 0), .ref x1] τ)) ∧
    (∀ (a0 : Nat) (a1 : Int32) (a2 : Int32) (x0 : Nat) (x1 : Nat) (τ : St), Ru M_H_law d Q 20 [some (.ref a0), some (.int a1), some (.int a2), none, none, none] [.ref x0, .ref x1] τ = (isA 5 x1 ∧ Cl d m_Rule_read [.ref x1, .ref x0] τ (fun v τ' => Ru M_H_law d Q 23 [some (.ref a0), some (.int a1), some (.int a2), none, none, none] (v.toList ++ []) τ'))) ∧
    (∀ (a0 : Nat) (a1 : Int32) (a2 : Int32) (x0 : Int32) (τ : St), Ru M_H_law d Q 23 [some (.ref a0), some (.int a1), some (.int a2), none, none, none] [.int x0] τ = Ru M_H_law d Q 24 [some (.ref a0), some (.int a1), some (.int a2), some (.int x0), none, none] [] τ) ∧
    (∀ (a0 : Nat) (a1 : Int32) (a2 : Int32) (a3 : Int32) (τ : St), Ru M_H_law d Q 24 [some (.ref a0), some (.int a1), some (.int a2), some (.int a3), none, none] [] τ = Ru M_H_law d Q 27 [some (.ref a0), some (.int a1), some (.int a2), some (.int a3), none, none] [.int (-10000)] τ) ∧
    (∀ (a0 : Nat) (a1 : Int32) (a2 : Int32) (a3 : Int32) (x0 : Int32) (τ : St), Ru M_H_law d Q 27 [some (.ref a0), some (.int a1), some (.int a2), some (.int a3), none, none] [.int x0] τ = Ru M_H_law d Q 28 [some (.ref a0), some (.int a1), some (.int a2), some (.int a3), none, none] [.ref a0, .int x0] τ) ∧
    (∀ (a0 : Nat) (a1 : Int32) (a2 : Int32) (a3 : Int32) (x0 : Nat) (x1 : Int32) (τ : St), Ru M_H_law d Q 28 [some (.ref a0), some (.int a1), some (.int a2), some (.int a3), none, none] [.ref x0, .int x1] τ = (isA 11 x0 ∧ Ru M_H_law d Q 31 [some (.ref a0), some (.int a1), some (.int a2), some (.int a3), none, none] [.ref (rtab x0 0), .int x1] τ)) ∧
    (∀ (a0 : Nat) (a1 : Int32) (a2 : Int32) (a3 : Int32) (x0 : Nat) (x1 : Int32) (τ : St), Ru M_H_law d Q 31 [some (.ref a0), some (.int a1), some (.int a2), some (.int a3), none, none] [.ref x0, .int x1] τ = (isA 6 x0 ∧ Ru M_H_law d Q 34 [some (.ref a0), some (.int a1), some (.int a2), some (.int a3), none, none] [.int (τ.1 x0 2), .int x1] τ)) ∧
    (∀ (a0 : Nat) (a1 : Int32) (a2 : Int32) (a3 : Int32) (x0 : Int32) (x1 : Int32) (τ : St), Ru M_H_law d Q 34 [some (.ref a0), some (.int a1), some (.int a2), some (.int a3), none, none] [.int x0, .int x1] τ = Ru M_H_law d Q 35 [some (.ref a0), some (.int a1), some (.int a2), some (.int a3), none, none] [.int (x1 - x0)] τ) ∧
    (∀ (a0 : Nat) (a1 : Int32) (a2 : Int32) (a3 : Int32) (x0 : Int32) (τ : St), Ru M_H_law d Q 35 [some (.ref a0), some (.int a1), some (.int a2), some (.int a3), none, none] [.int x0] τ = Ru M_H_law d Q 36 [some (.ref a0), some (.int a1), some (.int x0), some (.int a3), none, none] [] τ) ∧
    (∀ (a0 : Nat) (a1 : Int32) (a2 : Int32) (a3 : Int32) (τ : St), Ru M_H_law d Q 36 [some (.ref a0), some (.int a1), some (.int a2), some (.int a3), none, none] [] τ = Ru M_H_law d Q 37 [some (.ref a0), some (.int a1), some (.int a2), some (.int a3), none, none] [.int a3] τ) ∧
    (∀ (a0 : Nat) (a1 : Int32) (a2 : Int32) (a3 : Int32) (x0 : Int32) (τ : St), Ru M_H_law d Q 37 [some (.ref a0), some (.int a1), some (.int a2), some (.int a3), none, none] [.int x0] τ = ((x0 = 0 → Ru M_H_law d Q 81 [some (.ref a0), some (.int a1), some (.int a2), some (.int a3), none, none] [] τ) ∧ (¬ x0 = 0 → Ru M_H_law d Q 40 [some (.ref a0), some (.int a1), some (.int a2), some (.int a3), none, none] [] τ))) ∧
    (∀ (a0 : Nat) (a1 : Int32) (a2 : Int32) (a3 : Int32) (τ : St), Ru M_H_law d Q 40 [some (.ref a0), some (.int a1), some (.int a2), some (.int a3), none, none] [] τ = Ru M_H_law d Q 41 [some (.ref a0), some (.int a1), some (.int a2), some (.int a3), none, none] [.ref a0] τ) ∧
    (∀ (a0 : Nat) (a1 : Int32) (a2 : Int32) (a3 : Int32) (x0 : Nat) (τ : St), Ru M_H_law d Q 41 [some (.ref a0), some (.int a1), some (.int a2), some (.int a3), none, none] [.ref x0] τ = Ru M_H_law d Q 42 [some (.ref a0), some (.int a1), some (.int a2), some (.int a3), none, none] [.ref a0, .ref x0] τ) ∧
    (∀ (a0 : Nat) (a1 : Int32) (a2 : Int32) (a3 : Int32) (x0 : Nat) (x1 : Nat) (τ : St), Ru M_H_law d Q 42 [some (.ref a0), some (.int a1), some (.int a2), some (.int a3), none, none] [.ref x0, .ref x1] τ = (isA 11 x0 ∧ Ru M_H_law d Q 45 [some (.ref a0), some (.int a1), some (.int a2), some (.int a3), none, none] [.ref (rtab x0 11), .ref x1] τ)) ∧
    (∀ (a0 : Nat) (a1 : Int32) (a2 : Int32) (a3 : Int32) (x0 : Nat) (x1 : Nat) (τ : St), Ru M_H_law d Q 45 [some (.ref a0), some (.int a1), some (.int a2), some (.int a3), none, none] [.ref x0, .ref x1] τ = Ru M_H_law d Q 46 [some (.ref a0), some (.int a1), some (.int a2), some (.int a3), none, none] [.int a1, .ref x0, .ref x1] τ) ∧
    (∀ (a0 : Nat) (a1 : Int32) (a2 : Int32) (a3 : Int32) (x0 : Int32) (x1 : Nat) (x2 : Nat) (τ : St), Ru M_H_law d Q 46 [some (.ref a0), some (.int a1), some (.int a2), some (.int a3), none, none] [.int x0, .ref x1, .ref x2] τ = (isA 11 x2 ∧ Cl d m_H_hoursOver [.ref x2, .ref x1, .int x0] τ (fun v τ' => Ru M_H_law d Q 49 [some (.ref a0), some (.int a1), some (.int a2), some (.int a3), none, none] (v.toList ++ []) τ'))) ∧
    (∀ (a0 : Nat) (a1 : Int32) (a2 : Int32) (a3 : Int32) (x0 : Int32) (τ : St), Ru M_H_law d Q 49 [some (.ref a0), some (.int a1), some (.int a2), some (.int a3), none, none] [.int x0] τ = Ru M_H_law d Q 51 [some (.ref a0), some (.int a1), some (.int a2), some (.int a3), some (.int x0), none] [] τ) ∧
    (∀ (a0 : Nat) (a1 : Int32) (a2 : Int32) (a3 : Int32) (a4 : Int32) (τ : St), Ru M_H_law d Q 51 [some (.ref a0), some (.int a1), some (.int a2), some (.int a3), some (.int a4), none] [] τ = Ru M_H_law d Q 52 [some (.ref a0), some (.int a1), some (.int a2), some (.int a3), some (.int a4), none] [.ref a0] τ) ∧
    (∀ (a0 : Nat) (a1 : Int32) (a2 : Int32) (a3 : Int32) (a4 : Int32) (x0 : Nat) (τ : St), Ru M_H_law d Q 52 [some (.ref a0), some (.int a1), some (.int a2), some (.int a3), some (.int a4), none] [.ref x0] τ = Ru M_H_law d Q 53 [some (.ref a0), some (.int a1), some (.int a2), some (.int a3), some (.int a4), none] [.ref a0, .ref x0] τ) ∧
    (∀ (a0 : Nat) (a1 : Int32) (a2 : Int32) (a3 : Int32) (a4 : Int32) (x0 : Nat) (x1 : Nat) (τ : St), Ru M_H_law d Q 53 [some (.ref a0), some (.int a1), some (.int a2), some (.int a3), some (.int a4), none] [.ref x0, .ref x1] τ = (isA 11 x0 ∧ Ru M_H_law d Q 56 [some (.ref a0), some (.int a1), some (.int a2), some (.int a3), some (.int a4), none] [.ref (rtab x0 10), .ref x1] τ)) ∧
    (∀ (a0 : Nat) (a1 : Int32) (a2 : Int32) (a3 : Int32) (a4 : Int32) (x0 : Nat) (x1 : Nat) (τ : St), Ru M_H_law d Q 56 [some (.ref a0), some (.int a1), some (.int a2), some (.int a3), some (.int a4), none] [.ref x0, .ref x1] τ = Ru M_H_law d Q 57 [some (.ref a0), some (.int a1), some (.int a2), some (.int a3), some (.int a4), none] [.int a1, .ref x0, .ref x1] τ) ∧
    (∀ (a0 : Nat) (a1 : Int32) (a2 : Int32) (a3 : Int32) (a4 : Int32) (x0 : Int32) (x1 : Nat) (x2 : Nat) (τ : St), Ru M_H_law d Q 57 [some (.ref a0), some (.int a1), some (.int a2), some (.int a3), some (.int a4), none] [.int x0, .ref x1, .ref x2] τ = (isA 11 x2 ∧ Cl d m_H_hoursOver [.ref x2, .ref x1, .int x0] τ (fun v τ' => Ru M_H_law d Q 60 [some (.ref a0), some (.int a1), some (.int a2), some (.int a3), some (.int a4), none] (v.toList ++ []) τ'))) ∧
    (∀ (a0 : Nat) (a1 : Int32) (a2 : Int32) (a3 : Int32) (a4 : Int32) (x0 : Int32) (τ : St), Ru M_H_law d Q 60 [some (.ref a0), some (.int a1), some (.int a2), some (.int a3), some (.int a4), none] [.int x0] τ = Ru M_H_law d Q 62 [some (.ref a0), some (.int a1), some (.int a2), some (.int a3), some (.int a4), some (.int x0)] [] τ) ∧
    (∀ (a0 : Nat) (a1 : Int32) (a2 : Int32) (a3 : Int32) (a4 : Int32) (a5 : Int32) (τ : St), Ru M_H_law d Q 62 [some (.ref a0), some (.int a1), some (.int a2), some (.int a3), some (.int a4), some (.int a5)] [] τ = Ru M_H_law d Q 63 [some (.ref a0), some (.int a1), some (.int a2), some (.int a3), some (.int a4), some (.int a5)] [.ref a0] τ) ∧
    (∀ (a0 : Nat) (a1 : Int32) (a2 : Int32) (a3 : Int32) (a4 : Int32) (a5 : Int32) (x0 : Nat) (τ : St), Ru M_H_law d Q 63 [some (.ref a0), some (.int a1), some (.int a2), some (.int a3), some (.int a4), some (.int a5)] [.ref x0] τ = (isA 11 x0 ∧ Ru M_H_law d Q 66 [some (.ref a0), some (.int a1), some (.int a2), some (.int a3), some (.int a4), some (.int a5)] [.ref (rtab x0 1)] τ)) ∧
    (∀ (a0 : Nat) (a1 : Int32) (a2 : Int32) (a3 : Int32) (a4 : Int32) (a5 : Int32) (x0 : Nat) (τ : St), Ru M_H_law d Q 66 [some (.ref a0), some (.int a1), some (.int a2), some (.int a3), some (.int a4), some (.int a5)] [.ref x0] τ = Ru M_H_law d Q 68 [some (.ref a0), some (.int a1), some (.int a2), some (.int a3), some (.int a4), some (.int a5)] [.int a4, .ref x0] τ) ∧
    (∀ (a0 : Nat) (a1 : Int32) (a2 : Int32) (a3 : Int32) (a4 : Int32) (a5 : Int32) (x0 : Int32) (x1 : Nat) (τ : St), Ru M_H_law d Q 68 [some (.ref a0), some (.int a1), some (.int a2), some (.int a3), some (.int a4), some (.int a5)] [.int x0, .ref x1] τ = Ru M_H_law d Q 69 [some (.ref a0), some (.int a1), some (.int a2), some (.int a3), some (.int a4), some (.int a5)] [.long x0.toInt64, .ref x1] τ) ∧
    (∀ (a0 : Nat) (a1 : Int32) (a2 : Int32) (a3 : Int32) (a4 : Int32) (a5 : Int32) (x0 : Int64) (x1 : Nat) (τ : St), Ru M_H_law d Q 69 [some (.ref a0), some (.int a1), some (.int a2), some (.int a3), some (.int a4), some (.int a5)] [.long x0, .ref x1] τ = Ru M_H_law d Q 71 [some (.ref a0), some (.int a1), some (.int a2), some (.int a3), some (.int a4), some (.int a5)] [.int a5, .long x0, .ref x1] τ) ∧
    (∀ (a0 : Nat) (a1 : Int32) (a2 : Int32) (a3 : Int32) (a4 : Int32) (a5 : Int32) (x0 : Int32) (x1 : Int64) (x2 : Nat) (τ : St), Ru M_H_law d Q 71 [some (.ref a0), some (.int a1), some (.int a2), some (.int a3), some (.int a4), some (.int a5)] [.int x0, .long x1, .ref x2] τ = Ru M_H_law d Q 72 [some (.ref a0), some (.int a1), some (.int a2), some (.int a3), some (.int a4), some (.int a5)] [.long x0.toInt64, .long x1, .ref x2] τ) ∧
    (∀ (a0 : Nat) (a1 : Int32) (a2 : Int32) (a3 : Int32) (a4 : Int32) (a5 : Int32) (x0 : Int64) (x1 : Int64) (x2 : Nat) (τ : St), Ru M_H_law d Q 72 [some (.ref a0), some (.int a1), some (.int a2), some (.int a3), some (.int a4), some (.int a5)] [.long x0, .long x1, .ref x2] τ = (isA 4 x2 ∧ Cl d m_Row_both [.ref x2, .long x1, .long x0] τ (fun v τ' => Ru M_H_law d Q 75 [some (.ref a0), some (.int a1), some (.int a2), some (.int a3), some (.int a4), some (.int a5)] (v.toList ++ []) τ'))) ∧
    (∀ (a0 : Nat) (a1 : Int32) (a2 : Int32) (a3 : Int32) (a4 : Int32) (a5 : Int32) (τ : St), Ru M_H_law d Q 75 [some (.ref a0), some (.int a1), some (.int a2), some (.int a3), some (.int a4), some (.int a5)] [] τ = Ru M_H_law d Q 77 [some (.ref a0), some (.int a1), some (.int a2), some (.int a3), some (.int a4), some (.int a5)] [.int a4] τ) ∧
    (∀ (a0 : Nat) (a1 : Int32) (a2 : Int32) (a3 : Int32) (a4 : Int32) (a5 : Int32) (x0 : Int32) (τ : St), Ru M_H_law d Q 77 [some (.ref a0), some (.int a1), some (.int a2), some (.int a3), some (.int a4), some (.int a5)] [.int x0] τ = Ru M_H_law d Q 79 [some (.ref a0), some (.int a1), some (.int a2), some (.int a3), some (.int a4), some (.int a5)] [.int a5, .int x0] τ) ∧
    (∀ (a0 : Nat) (a1 : Int32) (a2 : Int32) (a3 : Int32) (a4 : Int32) (a5 : Int32) (x0 : Int32) (x1 : Int32) (τ : St), Ru M_H_law d Q 79 [some (.ref a0), some (.int a1), some (.int a2), some (.int a3), some (.int a4), some (.int a5)] [.int x0, .int x1] τ = Ru M_H_law d Q 80 [some (.ref a0), some (.int a1), some (.int a2), some (.int a3), some (.int a4), some (.int a5)] [.int (x1 - x0)] τ) ∧
    (∀ (a0 : Nat) (a1 : Int32) (a2 : Int32) (a3 : Int32) (a4 : Int32) (a5 : Int32) (x0 : Int32) (τ : St), Ru M_H_law d Q 80 [some (.ref a0), some (.int a1), some (.int a2), some (.int a3), some (.int a4), some (.int a5)] [.int x0] τ = Ru M_H_law d Q 81 [some (.ref a0), some (.int a1), some (.int x0), some (.int a3), some (.int a4), some (.int a5)] [] τ) ∧
    (∀ (a0 : Nat) (a1 : Int32) (a2 : Int32) (a3 : Option Value) (a4 : Option Value) (a5 : Option Value) (τ : St), Ru M_H_law d Q 81 [some (.ref a0), some (.int a1), some (.int a2), a3, a4, a5] [] τ = Ru M_H_law d Q 82 [some (.ref a0), some (.int a1), some (.int a2), a3, a4, a5] [.ref a0] τ) ∧
    (∀ (a0 : Nat) (a1 : Int32) (a2 : Int32) (a3 : Option Value) (a4 : Option Value) (a5 : Option Value) (x0 : Nat) (τ : St), Ru M_H_law d Q 82 [some (.ref a0), some (.int a1), some (.int a2), a3, a4, a5] [.ref x0] τ = (isA 11 x0 ∧ Ru M_H_law d Q 85 [some (.ref a0), some (.int a1), some (.int a2), a3, a4, a5] [.ref (rtab x0 0)] τ)) ∧
    (∀ (a0 : Nat) (a1 : Int32) (a2 : Int32) (a3 : Option Value) (a4 : Option Value) (a5 : Option Value) (x0 : Nat) (τ : St), Ru M_H_law d Q 85 [some (.ref a0), some (.int a1), some (.int a2), a3, a4, a5] [.ref x0] τ = (isA 6 x0 ∧ Cl d m_Text_empty [.ref x0] τ (fun v τ' => Ru M_H_law d Q 88 [some (.ref a0), some (.int a1), some (.int a2), a3, a4, a5] (v.toList ++ []) τ'))) ∧
    (∀ (a0 : Nat) (a1 : Int32) (a2 : Int32) (a3 : Option Value) (a4 : Option Value) (a5 : Option Value) (τ : St), Ru M_H_law d Q 88 [some (.ref a0), some (.int a1), some (.int a2), a3, a4, a5] [] τ = Ru M_H_law d Q 89 [some (.ref a0), some (.int a1), some (.int a2), a3, a4, a5] [.int a2] τ) ∧
    (∀ (a0 : Nat) (a1 : Int32) (a2 : Int32) (a3 : Option Value) (a4 : Option Value) (a5 : Option Value) (x0 : Int32) (τ : St), Ru M_H_law d Q 89 [some (.ref a0), some (.int a1), some (.int a2), a3, a4, a5] [.int x0] τ = Q (some (.int x0)) τ) := ⟨
  fun _ _ _ => (R_at ok_H_law rfl).trans e_push,
  fun _ _ _ _ => (R_at ok_H_law rfl).trans e_ist,
  fun _ _ _ _ => (R_at ok_H_law rfl).trans (e_ald rfl),
  fun _ _ _ _ _ => (R_at ok_H_law rfl).trans (e_ild rfl),
  fun _ _ _ x0 _ _ => (R_at ok_H_law rfl).trans (e_cv [.int x0] rfl rfl rfl),
  fun _ _ _ _ _ => (R_at ok_H_law rfl).trans e_if,
  fun _ _ _ _ => (R_at ok_H_law rfl).trans (e_ald rfl),
  fun _ _ _ _ _ => (R_at ok_H_law rfl).trans e_gR,
  fun _ _ _ _ _ => (R_at ok_H_law rfl).trans (e_ald rfl),
  fun _ _ _ _ _ _ => (R_at ok_H_law rfl).trans e_gR,
  fun _ _ _ x0 _ _ => (R_at ok_H_law rfl).trans (e_cv [.ref x0] rfl rfl rfl),
  fun _ _ _ _ _ => (R_at ok_H_law rfl).trans e_ist,
  fun _ _ _ _ _ => (R_at ok_H_law rfl).trans e_push,
  fun _ _ _ _ _ _ => (R_at ok_H_law rfl).trans (e_ald rfl),
  fun _ _ _ _ _ _ _ => (R_at ok_H_law rfl).trans e_gR,
  fun _ _ _ _ _ _ _ => (R_at ok_H_law rfl).trans e_gI,
  fun _ _ _ _ _ _ _ => (R_at ok_H_law rfl).trans e_bin,
  fun _ _ _ _ _ _ => (R_at ok_H_law rfl).trans e_ist,
  fun _ _ _ _ _ => (R_at ok_H_law rfl).trans (e_ild rfl),
  fun _ _ _ _ _ _ => (R_at ok_H_law rfl).trans e_if,
  fun _ _ _ _ _ => (R_at ok_H_law rfl).trans (e_ald rfl),
  fun _ _ _ _ _ _ => (R_at ok_H_law rfl).trans (e_ald rfl),
  fun _ _ _ _ _ _ _ => (R_at ok_H_law rfl).trans e_gR,
  fun _ _ _ _ _ _ _ => (R_at ok_H_law rfl).trans (e_ild rfl),
  fun _ _ _ _ x0 x1 _ _ => (R_at ok_H_law rfl).trans (e_cv [.ref x1, .int x0] rfl rfl rfl),
  fun _ _ _ _ _ _ => (R_at ok_H_law rfl).trans e_ist,
  fun _ _ _ _ _ _ => (R_at ok_H_law rfl).trans (e_ald rfl),
  fun _ _ _ _ _ _ _ => (R_at ok_H_law rfl).trans (e_ald rfl),
  fun _ _ _ _ _ _ _ _ => (R_at ok_H_law rfl).trans e_gR,
  fun _ _ _ _ _ _ _ _ => (R_at ok_H_law rfl).trans (e_ild rfl),
  fun _ _ _ _ _ x0 x1 _ _ => (R_at ok_H_law rfl).trans (e_cv [.ref x1, .int x0] rfl rfl rfl),
  fun _ _ _ _ _ _ _ => (R_at ok_H_law rfl).trans e_ist,
  fun _ _ _ _ _ _ _ => (R_at ok_H_law rfl).trans (e_ald rfl),
  fun _ _ _ _ _ _ _ _ => (R_at ok_H_law rfl).trans e_gR,
  fun _ _ _ _ _ _ _ _ => (R_at ok_H_law rfl).trans (e_ild rfl),
  fun _ _ _ _ _ _ _ _ _ => (R_at ok_H_law rfl).trans e_il,
  fun _ _ _ _ _ _ _ _ _ => (R_at ok_H_law rfl).trans (e_ild rfl),
  fun _ _ _ _ _ _ _ _ _ _ => (R_at ok_H_law rfl).trans e_il,
  fun _ _ _ _ _ _ x0 x1 _ _ => (R_at ok_H_law rfl).trans (e_cv [.long x1, .long x0] rfl rfl rfl),
  fun _ _ _ _ _ _ _ => (R_at ok_H_law rfl).trans (e_ild rfl),
  fun _ _ _ _ _ _ _ _ => (R_at ok_H_law rfl).trans (e_ild rfl),
  fun _ _ _ _ _ _ _ _ _ => (R_at ok_H_law rfl).trans e_bin,
  fun _ _ _ _ _ _ _ _ => (R_at ok_H_law rfl).trans e_ist,
  fun _ _ _ _ _ _ _ => (R_at ok_H_law rfl).trans (e_ald rfl),
  fun _ _ _ _ _ _ _ _ => (R_at ok_H_law rfl).trans e_gR,
  fun _ _ _ _ _ _ _ _ => (R_at ok_H_law rfl).trans (e_cv [] rfl rfl rfl),
  fun _ _ _ _ _ _ _ => (R_at ok_H_law rfl).trans (e_ild rfl),
  fun _ _ _ _ _ _ _ _ => (R_at ok_H_law rfl).trans e_iret⟩
set_option maxHeartbeats 4000000 in
theorem N_H_rests (d : Nat) (Q : Qt) : ∀ (x0 : Nat) (x1 : Int32) (x2 : Int32) (τ : St), Cl (d + 1) m_H_rests [.ref x0, .int x1, .int x2] τ Q = Ru M_H_rests d Q 0 [some (.ref x0), some (.int x1), some (.int x2), none, none, none] [] τ := fun _ _ _ _ => propext ⟨fun h => h.2, fun h => ⟨Nat.le_of_ble_eq_true rfl, h⟩⟩
set_option maxHeartbeats 4000000 in
theorem E_H_rests (d : Nat) (Q : Qt) :
    (∀ (a0 : Nat) (a1 : Int32) (a2 : Int32) (τ : St), Ru M_H_rests d Q 0 [some (.ref a0), some (.int a1), some (.int a2), none, none, none] [] τ = Ru M_H_rests d Q 1 [some (.ref a0), some (.int a1), some (.int a2), none, none, none] [.int a1] τ) ∧
    (∀ (a0 : Nat) (a1 : Int32) (a2 : Int32) (x0 : Int32) (τ : St), Ru M_H_rests d Q 1 [some (.ref a0), some (.int a1), some (.int a2), none, none, none] [.int x0] τ = Ru M_H_rests d Q 2 [some (.ref a0), some (.int a1), some (.int a2), none, none, none] [.int 1, .int x0] τ) ∧
    (∀ (a0 : Nat) (a1 : Int32) (a2 : Int32) (x0 : Int32) (x1 : Int32) (τ : St), Ru M_H_rests d Q 2 [some (.ref a0), some (.int a1), some (.int a2), none, none, none] [.int x0, .int x1] τ = ((x1 < x0 → Ru M_H_rests d Q 21 [some (.ref a0), some (.int a1), some (.int a2), none, none, none] [] τ) ∧ (¬ x1 < x0 → Ru M_H_rests d Q 5 [some (.ref a0), some (.int a1), some (.int a2), none, none, none] [] τ))) ∧
    (∀ (a0 : Nat) (a1 : Int32) (a2 : Int32) (τ : St), Ru M_H_rests d Q 5 [some (.ref a0), some (.int a1), some (.int a2), none, none, none] [] τ = Ru M_H_rests d Q 6 [some (.ref a0), some (.int a1), some (.int a2), none, none, none] [.int a1] τ) ∧
    (∀ (a0 : Nat) (a1 : Int32) (a2 : Int32) (x0 : Int32) (τ : St), Ru M_H_rests d Q 6 [some (.ref a0), some (.int a1), some (.int a2), none, none, none] [.int x0] τ = Ru M_H_rests d Q 8 [some (.ref a0), some (.int a1), some (.int a2), none, none, none] [.int 99, .int x0] τ) ∧
    (∀ (a0 : Nat) (a1 : Int32) (a2 : Int32) (x0 : Int32) (x1 : Int32) (τ : St), Ru M_H_rests d Q 8 [some (.ref a0), some (.int a1), some (.int a2), none, none, none] [.int x0, .int x1] τ = ((x0 < x1 → Ru M_H_rests d Q 21 [some (.ref a0), some (.int a1), some (.int a2), none, none, none] [] τ) ∧ (¬ x0 < x1 → Ru M_H_rests d Q 11 [some (.ref a0), some (.int a1), some (.int a2), none, none, none] [] τ))) ∧
    (∀ (a0 : Nat) (a1 : Int32) (a2 : Int32) (τ : St), Ru M_H_rests d Q 11 [some (.ref a0), some (.int a1), some (.int a2), none, none, none] [] τ = Ru M_H_rests d Q 12 [some (.ref a0), some (.int a1), some (.int a2), none, none, none] [.int a2] τ) ∧
    (∀ (a0 : Nat) (a1 : Int32) (a2 : Int32) (x0 : Int32) (τ : St), Ru M_H_rests d Q 12 [some (.ref a0), some (.int a1), some (.int a2), none, none, none] [.int x0] τ = ((x0 < 0 → Ru M_H_rests d Q 21 [some (.ref a0), some (.int a1), some (.int a2), none, none, none] [] τ) ∧ (¬ x0 < 0 → Ru M_H_rests d Q 15 [some (.ref a0), some (.int a1), some (.int a2), none, none, none] [] τ))) ∧
    (∀ (a0 : Nat) (a1 : Int32) (a2 : Int32) (τ : St), Ru M_H_rests d Q 15 [some (.ref a0), some (.int a1), some (.int a2), none, none, none] [] τ = Ru M_H_rests d Q 16 [some (.ref a0), some (.int a1), some (.int a2), none, none, none] [.int a2] τ) ∧
    (∀ (a0 : Nat) (a1 : Int32) (a2 : Int32) (x0 : Int32) (τ : St), Ru M_H_rests d Q 16 [some (.ref a0), some (.int a1), some (.int a2), none, none, none] [.int x0] τ = Ru M_H_rests d Q 18 [some (.ref a0), some (.int a1), some (.int a2), none, none, none] [.int 20, .int x0] τ) ∧
    (∀ (a0 : Nat) (a1 : Int32) (a2 : Int32) (x0 : Int32) (x1 : Int32) (τ : St), Ru M_H_rests d Q 18 [some (.ref a0), some (.int a1), some (.int a2), none, none, none] [.int x0, .int x1] τ = ((x1 ≤ x0 → Ru M_H_rests d Q 23 [some (.ref a0), some (.int a1), some (.int a2), none, none, none] [] τ) ∧ (¬ x1 ≤ x0 → Ru M_H_rests d Q 21 [some (.ref a0), some (.int a1), some (.int a2), none, none, none] [] τ))) ∧
    (∀ (a0 : Nat) (a1 : Int32) (a2 : Int32) (τ : St), Ru M_H_rests d Q 21 [some (.ref a0), some (.int a1), some (.int a2), none, none, none] [] τ = Ru M_H_rests d Q 22 [some (.ref a0), some (.int a1), some (.int a2), none, none, none] [.int (-1)] τ) ∧
    (∀ (a0 : Nat) (a1 : Int32) (a2 : Int32) (x0 : Int32) (τ : St), Ru M_H_rests d Q 22 [some (.ref a0), some (.int a1), some (.int a2), none, none, none] [.int x0] τ = Q (some (.int x0)) τ) ∧
    (∀ (a0 : Nat) (a1 : Int32) (a2 : Int32) (τ : St), Ru M_H_rests d Q 23 [some (.ref a0), some (.int a1), some (.int a2), none, none, none] [] τ = Ru M_H_rests d Q 24 [some (.ref a0), some (.int a1), some (.int a2), none, none, none] [.int 0] τ) ∧
    (∀ (a0 : Nat) (a1 : Int32) (a2 : Int32) (x0 : Int32) (τ : St), Ru M_H_rests d Q 24 [some (.ref a0), some (.int a1), some (.int a2), none, none, none] [.int x0] τ = Ru M_H_rests d Q 25 [some (.ref a0), some (.int a1), some (.int a2), some (.int x0), none, none] [] τ) ∧
    (∀ (a0 : Nat) (a1 : Int32) (a2 : Int32) (a3 : Int32) (τ : St), Ru M_H_rests d Q 25 [some (.ref a0), some (.int a1), some (.int a2), some (.int a3), none, none] [] τ = Ru M_H_rests d Q 26 [some (.ref a0), some (.int a1), some (.int a2), some (.int a3), none, none] [.ref a0] τ) ∧
    (∀ (a0 : Nat) (a1 : Int32) (a2 : Int32) (a3 : Int32) (x0 : Nat) (τ : St), Ru M_H_rests d Q 26 [some (.ref a0), some (.int a1), some (.int a2), some (.int a3), none, none] [.ref x0] τ = (isA 11 x0 ∧ Ru M_H_rests d Q 29 [some (.ref a0), some (.int a1), some (.int a2), some (.int a3), none, none] [.ref (rtab x0 1)] τ)) ∧
    (∀ (a0 : Nat) (a1 : Int32) (a2 : Int32) (a3 : Int32) (x0 : Nat) (τ : St), Ru M_H_rests d Q 29 [some (.ref a0), some (.int a1), some (.int a2), some (.int a3), none, none] [.ref x0] τ = (isA 4 x0 ∧ Cl d m_Row_clear [.ref x0] τ (fun v τ' => Ru M_H_rests d Q 32 [some (.ref a0), some (.int a1), some (.int a2), some (.int a3), none, none] (v.toList ++ []) τ'))) ∧
    (∀ (a0 : Nat) (a1 : Int32) (a2 : Int32) (a3 : Int32) (τ : St), Ru M_H_rests d Q 32 [some (.ref a0), some (.int a1), some (.int a2), some (.int a3), none, none] [] τ = Ru M_H_rests d Q 33 [some (.ref a0), some (.int a1), some (.int a2), some (.int a3), none, none] [.int 0] τ) ∧
    (∀ (a0 : Nat) (a1 : Int32) (a2 : Int32) (a3 : Int32) (x0 : Int32) (τ : St), Ru M_H_rests d Q 33 [some (.ref a0), some (.int a1), some (.int a2), some (.int a3), none, none] [.int x0] τ = Rs M_H_rests d Q 35 [some (.ref a0), some (.int a1), some (.int a2), some (.int a3), some (.int x0), none] [] τ) ∧
    (∀ (a0 : Nat) (a1 : Int32) (a2 : Int32) (a3 : Int32) (a4 : Int32) (a5 : Option Value) (τ : St), Ru M_H_rests d Q 35 [some (.ref a0), some (.int a1), some (.int a2), some (.int a3), some (.int a4), a5] [] τ = Ru M_H_rests d Q 37 [some (.ref a0), some (.int a1), some (.int a2), some (.int a3), some (.int a4), a5] [.int a4] τ) ∧
    (∀ (a0 : Nat) (a1 : Int32) (a2 : Int32) (a3 : Int32) (a4 : Int32) (a5 : Option Value) (x0 : Int32) (τ : St), Ru M_H_rests d Q 37 [some (.ref a0), some (.int a1), some (.int a2), some (.int a3), some (.int a4), a5] [.int x0] τ = Ru M_H_rests d Q 39 [some (.ref a0), some (.int a1), some (.int a2), some (.int a3), some (.int a4), a5] [.int 9, .int x0] τ) ∧
    (∀ (a0 : Nat) (a1 : Int32) (a2 : Int32) (a3 : Int32) (a4 : Int32) (a5 : Option Value) (x0 : Int32) (x1 : Int32) (τ : St), Ru M_H_rests d Q 39 [some (.ref a0), some (.int a1), some (.int a2), some (.int a3), some (.int a4), a5] [.int x0, .int x1] τ = ((x0 < x1 → Ru M_H_rests d Q 96 [some (.ref a0), some (.int a1), some (.int a2), some (.int a3), some (.int a4), a5] [] τ) ∧ (¬ x0 < x1 → Ru M_H_rests d Q 42 [some (.ref a0), some (.int a1), some (.int a2), some (.int a3), some (.int a4), a5] [] τ))) ∧
    (∀ (a0 : Nat) (a1 : Int32) (a2 : Int32) (a3 : Int32) (a4 : Int32) (a5 : Option Value) (τ : St), Ru M_H_rests d Q 42 [some (.ref a0), some (.int a1), some (.int a2), some (.int a3), some (.int a4), a5] [] τ = Ru M_H_rests d Q 43 [some (.ref a0), some (.int a1), some (.int a2), some (.int a3), some (.int a4), a5] [.int 0] τ) ∧
    (∀ (a0 : Nat) (a1 : Int32) (a2 : Int32) (a3 : Int32) (a4 : Int32) (a5 : Option Value) (x0 : Int32) (τ : St), Ru M_H_rests d Q 43 [some (.ref a0), some (.int a1), some (.int a2), some (.int a3), some (.int a4), a5] [.int x0] τ = Rs M_H_rests d Q 45 [some (.ref a0), some (.int a1), some (.int a2), some (.int a3), some (.int a4), some (.int x0)] [] τ) ∧
    (∀ (a0 : Nat) (a1 : Int32) (a2 : Int32) (a3 : Int32) (a4 : Int32) (a5 : Int32) (τ : St), Ru M_H_rests d Q 45 [some (.ref a0), some (.int a1), some (.int a2), some (.int a3), some (.int a4), some (.int a5)] [] τ = Ru M_H_rests d Q 47 [some (.ref a0), some (.int a1), some (.int a2), some (.int a3), some (.int a4), some (.int a5)] [.int a5] τ) ∧
    (∀ (a0 : Nat) (a1 : Int32) (a2 : Int32) (a3 : Int32) (a4 : Int32) (a5 : Int32) (x0 : Int32) (τ : St), Ru M_H_rests d Q 47 [some (.ref a0), some (.int a1), some (.int a2), some (.int a3), some (.int a4), some (.int a5)] [.int x0] τ = Ru M_H_rests d Q 49 [some (.ref a0), some (.int a1), some (.int a2), some (.int a3), some (.int a4), some (.int a5)] [.int 9, .int x0] τ) ∧
    (∀ (a0 : Nat) (a1 : Int32) (a2 : Int32) (a3 : Int32) (a4 : Int32) (a5 : Int32) (x0 : Int32) (x1 : Int32) (τ : St), Ru M_H_rests d Q 49 [some (.ref a0), some (.int a1), some (.int a2), some (.int a3), some (.int a4), some (.int a5)] [.int x0, .int x1] τ = ((x0 < x1 → Ru M_H_rests d Q 90 [some (.ref a0), some (.int a1), some (.int a2), some (.int a3), some (.int a4), some (.int a5)] [] τ) ∧ (¬ x0 < x1 → Ru M_H_rests d Q 52 [some (.ref a0), some (.int a1), some (.int a2), some (.int a3), some (.int a4), some (.int a5)] [] τ))) ∧
    (∀ (a0 : Nat) (a1 : Int32) (a2 : Int32) (a3 : Int32) (a4 : Int32) (a5 : Int32) (τ : St), Ru M_H_rests d Q 52 [some (.ref a0), some (.int a1), some (.int a2), some (.int a3), some (.int a4), some (.int a5)] [] τ = Ru M_H_rests d Q 54 [some (.ref a0), some (.int a1), some (.int a2), some (.int a3), some (.int a4), some (.int a5)] [.int a4] τ) ∧
    (∀ (a0 : Nat) (a1 : Int32) (a2 : Int32) (a3 : Int32) (a4 : Int32) (a5 : Int32) (x0 : Int32) (τ : St), Ru M_H_rests d Q 54 [some (.ref a0), some (.int a1), some (.int a2), some (.int a3), some (.int a4), some (.int a5)] [.int x0] τ = Ru M_H_rests d Q 56 [some (.ref a0), some (.int a1), some (.int a2), some (.int a3), some (.int a4), some (.int a5)] [.int a5, .int x0] τ) ∧
    (∀ (a0 : Nat) (a1 : Int32) (a2 : Int32) (a3 : Int32) (a4 : Int32) (a5 : Int32) (x0 : Int32) (x1 : Int32) (τ : St), Ru M_H_rests d Q 56 [some (.ref a0), some (.int a1), some (.int a2), some (.int a3), some (.int a4), some (.int a5)] [.int x0, .int x1] τ = Ru M_H_rests d Q 57 [some (.ref a0), some (.int a1), some (.int a2), some (.int a3), some (.int a4), some (.int a5)] [.int a1, .int x0, .int x1] τ) ∧
    (∀ (a0 : Nat) (a1 : Int32) (a2 : Int32) (a3 : Int32) (a4 : Int32) (a5 : Int32) (x0 : Int32) (x1 : Int32) (x2 : Int32) (τ : St), Ru M_H_rests d Q 57 [some (.ref a0), some (.int a1), some (.int a2), some (.int a3), some (.int a4), some (.int a5)] [.int x0, .int x1, .int x2] τ = Ru M_H_rests d Q 58 [some (.ref a0), some (.int a1), some (.int a2), some (.int a3), some (.int a4), some (.int a5)] [.int a2, .int x0, .int x1, .int x2] τ) ∧
    (∀ (a0 : Nat) (a1 : Int32) (a2 : Int32) (a3 : Int32) (a4 : Int32) (a5 : Int32) (x0 : Int32) (x1 : Int32) (x2 : Int32) (x3 : Int32) (τ : St), Ru M_H_rests d Q 58 [some (.ref a0), some (.int a1), some (.int a2), some (.int a3), some (.int a4), some (.int a5)] [.int x0, .int x1, .int x2, .int x3] τ = Cl d m_H_isAtRest [.int x3, .int x2, .int x1, .int x0] τ (fun v τ' => Ru M_H_rests d Q 61 [some (.ref a0), some (.int a1), some (.int a2), some (.int a3), some (.int a4), some (.int a5)] (v.toList ++ []) τ')) ∧
    (∀ (a0 : Nat) (a1 : Int32) (a2 : Int32) (a3 : Int32) (a4 : Int32) (a5 : Int32) (x0 : Int32) (τ : St), Ru M_H_rests d Q 61 [some (.ref a0), some (.int a1), some (.int a2), some (.int a3), some (.int a4), some (.int a5)] [.int x0] τ = ((x0 = 0 → Ru M_H_rests d Q 84 [some (.ref a0), some (.int a1), some (.int a2), some (.int a3), some (.int a4), some (.int a5)] [] τ) ∧ (¬ x0 = 0 → Ru M_H_rests d Q 64 [some (.ref a0), some (.int a1), some (.int a2), some (.int a3), some (.int a4), some (.int a5)] [] τ))) ∧
    (∀ (a0 : Nat) (a1 : Int32) (a2 : Int32) (a3 : Int32) (a4 : Int32) (a5 : Int32) (τ : St), Ru M_H_rests d Q 64 [some (.ref a0), some (.int a1), some (.int a2), some (.int a3), some (.int a4), some (.int a5)] [] τ = Ru M_H_rests d Q 65 [some (.ref a0), some (.int a1), some (.int a2), some (.int a3), some (.int a4), some (.int a5)] [.int a3] τ) ∧
    (∀ (a0 : Nat) (a1 : Int32) (a2 : Int32) (a3 : Int32) (a4 : Int32) (a5 : Int32) (x0 : Int32) (τ : St), Ru M_H_rests d Q 65 [some (.ref a0), some (.int a1), some (.int a2), some (.int a3), some (.int a4), some (.int a5)] [.int x0] τ = ((¬ x0 = 0 → Ru M_H_rests d Q 81 [some (.ref a0), some (.int a1), some (.int a2), some (.int a3), some (.int a4), some (.int a5)] [] τ) ∧ (x0 = 0 → Ru M_H_rests d Q 68 [some (.ref a0), some (.int a1), some (.int a2), some (.int a3), some (.int a4), some (.int a5)] [] τ))) ∧
    (∀ (a0 : Nat) (a1 : Int32) (a2 : Int32) (a3 : Int32) (a4 : Int32) (a5 : Int32) (τ : St), Ru M_H_rests d Q 68 [some (.ref a0), some (.int a1), some (.int a2), some (.int a3), some (.int a4), some (.int a5)] [] τ = Ru M_H_rests d Q 69 [some (.ref a0), some (.int a1), some (.int a2), some (.int a3), some (.int a4), some (.int a5)] [.ref a0] τ) ∧
    (∀ (a0 : Nat) (a1 : Int32) (a2 : Int32) (a3 : Int32) (a4 : Int32) (a5 : Int32) (x0 : Nat) (τ : St), Ru M_H_rests d Q 69 [some (.ref a0), some (.int a1), some (.int a2), some (.int a3), some (.int a4), some (.int a5)] [.ref x0] τ = (isA 11 x0 ∧ Ru M_H_rests d Q 72 [some (.ref a0), some (.int a1), some (.int a2), some (.int a3), some (.int a4), some (.int a5)] [.ref (rtab x0 1)] τ)) ∧
    (∀ (a0 : Nat) (a1 : Int32) (a2 : Int32) (a3 : Int32) (a4 : Int32) (a5 : Int32) (x0 : Nat) (τ : St), Ru M_H_rests d Q 72 [some (.ref a0), some (.int a1), some (.int a2), some (.int a3), some (.int a4), some (.int a5)] [.ref x0] τ = Ru M_H_rests d Q 74 [some (.ref a0), some (.int a1), some (.int a2), some (.int a3), some (.int a4), some (.int a5)] [.int a4, .ref x0] τ) ∧
    (∀ (a0 : Nat) (a1 : Int32) (a2 : Int32) (a3 : Int32) (a4 : Int32) (a5 : Int32) (x0 : Int32) (x1 : Nat) (τ : St), Ru M_H_rests d Q 74 [some (.ref a0), some (.int a1), some (.int a2), some (.int a3), some (.int a4), some (.int a5)] [.int x0, .ref x1] τ = Ru M_H_rests d Q 75 [some (.ref a0), some (.int a1), some (.int a2), some (.int a3), some (.int a4), some (.int a5)] [.long x0.toInt64, .ref x1] τ) ∧
    (∀ (a0 : Nat) (a1 : Int32) (a2 : Int32) (a3 : Int32) (a4 : Int32) (a5 : Int32) (x0 : Int64) (x1 : Nat) (τ : St), Ru M_H_rests d Q 75 [some (.ref a0), some (.int a1), some (.int a2), some (.int a3), some (.int a4), some (.int a5)] [.long x0, .ref x1] τ = Ru M_H_rests d Q 77 [some (.ref a0), some (.int a1), some (.int a2), some (.int a3), some (.int a4), some (.int a5)] [.int a5, .long x0, .ref x1] τ) ∧
    (∀ (a0 : Nat) (a1 : Int32) (a2 : Int32) (a3 : Int32) (a4 : Int32) (a5 : Int32) (x0 : Int32) (x1 : Int64) (x2 : Nat) (τ : St), Ru M_H_rests d Q 77 [some (.ref a0), some (.int a1), some (.int a2), some (.int a3), some (.int a4), some (.int a5)] [.int x0, .long x1, .ref x2] τ = Ru M_H_rests d Q 78 [some (.ref a0), some (.int a1), some (.int a2), some (.int a3), some (.int a4), some (.int a5)] [.long x0.toInt64, .long x1, .ref x2] τ) ∧
    (∀ (a0 : Nat) (a1 : Int32) (a2 : Int32) (a3 : Int32) (a4 : Int32) (a5 : Int32) (x0 : Int64) (x1 : Int64) (x2 : Nat) (τ : St), Ru M_H_rests d Q 78 [some (.ref a0), some (.int a1), some (.int a2), some (.int a3), some (.int a4), some (.int a5)] [.long x0, .long x1, .ref x2] τ = (isA 4 x2 ∧ Cl d m_Row_both [.ref x2, .long x1, .long x0] τ (fun v τ' => Ru M_H_rests d Q 81 [some (.ref a0), some (.int a1), some (.int a2), some (.int a3), some (.int a4), some (.int a5)] (v.toList ++ []) τ'))) ∧
    (∀ (a0 : Nat) (a1 : Int32) (a2 : Int32) (a3 : Int32) (a4 : Int32) (a5 : Int32) (τ : St), Ru M_H_rests d Q 81 [some (.ref a0), some (.int a1), some (.int a2), some (.int a3), some (.int a4), some (.int a5)] [] τ = Ru M_H_rests d Q 84 [some (.ref a0), some (.int a1), some (.int a2), some (.int (a3 + 1)), some (.int a4), some (.int a5)] [] τ) ∧
    (∀ (a0 : Nat) (a1 : Int32) (a2 : Int32) (a3 : Int32) (a4 : Int32) (a5 : Int32) (τ : St), Ru M_H_rests d Q 84 [some (.ref a0), some (.int a1), some (.int a2), some (.int a3), some (.int a4), some (.int a5)] [] τ = Ru M_H_rests d Q 87 [some (.ref a0), some (.int a1), some (.int a2), some (.int a3), some (.int a4), some (.int (a5 + 1))] [] τ) ∧
    (∀ (a0 : Nat) (a1 : Int32) (a2 : Int32) (a3 : Int32) (a4 : Int32) (a5 : Int32) (τ : St), Ru M_H_rests d Q 87 [some (.ref a0), some (.int a1), some (.int a2), some (.int a3), some (.int a4), some (.int a5)] [] τ = Rs M_H_rests d Q 45 [some (.ref a0), some (.int a1), some (.int a2), some (.int a3), some (.int a4), some (.int a5)] [] τ) ∧
    (∀ (a0 : Nat) (a1 : Int32) (a2 : Int32) (a3 : Int32) (a4 : Int32) (a5 : Int32) (τ : St), Ru M_H_rests d Q 90 [some (.ref a0), some (.int a1), some (.int a2), some (.int a3), some (.int a4), some (.int a5)] [] τ = Ru M_H_rests d Q 93 [some (.ref a0), some (.int a1), some (.int a2), some (.int a3), some (.int (a4 + 1)), some (.int a5)] [] τ) ∧
    (∀ (a0 : Nat) (a1 : Int32) (a2 : Int32) (a3 : Int32) (a4 : Int32) (a5 : Int32) (τ : St), Ru M_H_rests d Q 93 [some (.ref a0), some (.int a1), some (.int a2), some (.int a3), some (.int a4), some (.int a5)] [] τ = Rs M_H_rests d Q 35 [some (.ref a0), some (.int a1), some (.int a2), some (.int a3), some (.int a4), some (.int a5)] [] τ) ∧
    (∀ (a0 : Nat) (a1 : Int32) (a2 : Int32) (a3 : Int32) (a4 : Int32) (a5 : Option Value) (τ : St), Ru M_H_rests d Q 96 [some (.ref a0), some (.int a1), some (.int a2), some (.int a3), some (.int a4), a5] [] τ = Ru M_H_rests d Q 97 [some (.ref a0), some (.int a1), some (.int a2), some (.int a3), some (.int a4), a5] [.int a3] τ) ∧
    (∀ (a0 : Nat) (a1 : Int32) (a2 : Int32) (a3 : Int32) (a4 : Int32) (a5 : Option Value) (x0 : Int32) (τ : St), Ru M_H_rests d Q 97 [some (.ref a0), some (.int a1), some (.int a2), some (.int a3), some (.int a4), a5] [.int x0] τ = Q (some (.int x0)) τ) := ⟨
  fun _ _ _ _ => (R_at ok_H_rests rfl).trans (e_ild rfl),
  fun _ _ _ _ _ => (R_at ok_H_rests rfl).trans e_push,
  fun _ _ _ _ _ _ => (R_at ok_H_rests rfl).trans e_ic,
  fun _ _ _ _ => (R_at ok_H_rests rfl).trans (e_ild rfl),
  fun _ _ _ _ _ => (R_at ok_H_rests rfl).trans e_push,
  fun _ _ _ _ _ _ => (R_at ok_H_rests rfl).trans e_ic,
  fun _ _ _ _ => (R_at ok_H_rests rfl).trans (e_ild rfl),
  fun _ _ _ _ _ => (R_at ok_H_rests rfl).trans e_if,
  fun _ _ _ _ => (R_at ok_H_rests rfl).trans (e_ild rfl),
  fun _ _ _ _ _ => (R_at ok_H_rests rfl).trans e_push,
  fun _ _ _ _ _ _ => (R_at ok_H_rests rfl).trans e_ic,
  fun _ _ _ _ => (R_at ok_H_rests rfl).trans e_push,
  fun _ _ _ _ _ => (R_at ok_H_rests rfl).trans e_iret,
  fun _ _ _ _ => (R_at ok_H_rests rfl).trans e_push,
  fun _ _ _ _ _ => (R_at ok_H_rests rfl).trans e_ist,
  fun _ _ _ _ _ => (R_at ok_H_rests rfl).trans (e_ald rfl),
  fun _ _ _ _ _ _ => (R_at ok_H_rests rfl).trans e_gR,
  fun _ _ _ _ _ _ => (R_at ok_H_rests rfl).trans (e_cv [] rfl rfl rfl),
  fun _ _ _ _ _ => (R_at ok_H_rests rfl).trans e_push,
  fun _ _ _ _ _ _ => (R_at ok_H_rests rfl).trans e_ist,
  fun _ _ _ _ _ _ _ => (R_at ok_H_rests rfl).trans (e_ild rfl),
  fun _ _ _ _ _ _ _ _ => (R_at ok_H_rests rfl).trans e_push,
  fun _ _ _ _ _ _ _ _ _ => (R_at ok_H_rests rfl).trans e_ic,
  fun _ _ _ _ _ _ _ => (R_at ok_H_rests rfl).trans e_push,
  fun _ _ _ _ _ _ _ _ => (R_at ok_H_rests rfl).trans e_ist,
  fun _ _ _ _ _ _ _ => (R_at ok_H_rests rfl).trans (e_ild rfl),
  fun _ _ _ _ _ _ _ _ => (R_at ok_H_rests rfl).trans e_push,
  fun _ _ _ _ _ _ _ _ _ => (R_at ok_H_rests rfl).trans e_ic,
  fun _ _ _ _ _ _ _ => (R_at ok_H_rests rfl).trans (e_ild rfl),
  fun _ _ _ _ _ _ _ _ => (R_at ok_H_rests rfl).trans (e_ild rfl),
  fun _ _ _ _ _ _ _ _ _ => (R_at ok_H_rests rfl).trans (e_ild rfl),
  fun _ _ _ _ _ _ _ _ _ _ => (R_at ok_H_rests rfl).trans (e_ild rfl),
  fun _ _ _ _ _ _ x0 x1 x2 x3 _ => (R_at ok_H_rests rfl).trans (e_cs [.int x3, .int x2, .int x1, .int x0] rfl rfl rfl),
  fun _ _ _ _ _ _ _ _ => (R_at ok_H_rests rfl).trans e_if,
  fun _ _ _ _ _ _ _ => (R_at ok_H_rests rfl).trans (e_ild rfl),
  fun _ _ _ _ _ _ _ _ => (R_at ok_H_rests rfl).trans e_ifn,
  fun _ _ _ _ _ _ _ => (R_at ok_H_rests rfl).trans (e_ald rfl),
  fun _ _ _ _ _ _ _ _ => (R_at ok_H_rests rfl).trans e_gR,
  fun _ _ _ _ _ _ _ _ => (R_at ok_H_rests rfl).trans (e_ild rfl),
  fun _ _ _ _ _ _ _ _ _ => (R_at ok_H_rests rfl).trans e_il,
  fun _ _ _ _ _ _ _ _ _ => (R_at ok_H_rests rfl).trans (e_ild rfl),
  fun _ _ _ _ _ _ _ _ _ _ => (R_at ok_H_rests rfl).trans e_il,
  fun _ _ _ _ _ _ x0 x1 _ _ => (R_at ok_H_rests rfl).trans (e_cv [.long x1, .long x0] rfl rfl rfl),
  fun _ _ _ _ _ _ _ => (R_at ok_H_rests rfl).trans (e_iinc rfl),
  fun _ _ _ _ _ _ _ => (R_at ok_H_rests rfl).trans (e_iinc rfl),
  fun _ _ _ _ _ _ _ => (R_at ok_H_rests rfl).trans e_goto,
  fun _ _ _ _ _ _ _ => (R_at ok_H_rests rfl).trans (e_iinc rfl),
  fun _ _ _ _ _ _ _ => (R_at ok_H_rests rfl).trans e_goto,
  fun _ _ _ _ _ _ _ => (R_at ok_H_rests rfl).trans (e_ild rfl),
  fun _ _ _ _ _ _ _ _ => (R_at ok_H_rests rfl).trans e_iret⟩
set_option maxHeartbeats 4000000 in
theorem N_H_isAtRest (d : Nat) (Q : Qt) : ∀ (x0 : Int32) (x1 : Int32) (x2 : Int32) (x3 : Int32) (τ : St), Cl (d + 1) m_H_isAtRest [.int x0, .int x1, .int x2, .int x3] τ Q = Ru M_H_isAtRest d Q 0 [some (.int x0), some (.int x1), some (.int x2), some (.int x3), none, none, none] [] τ := fun _ _ _ _ _ => propext ⟨fun h => h.2, fun h => ⟨Nat.le_of_ble_eq_true rfl, h⟩⟩
set_option maxHeartbeats 4000000 in
theorem E_H_isAtRest (d : Nat) (Q : Qt) :
    (∀ (a0 : Int32) (a1 : Int32) (a2 : Int32) (a3 : Int32) (τ : St), Ru M_H_isAtRest d Q 0 [some (.int a0), some (.int a1), some (.int a2), some (.int a3), none, none, none] [] τ = Ru M_H_isAtRest d Q 1 [some (.int a0), some (.int a1), some (.int a2), some (.int a3), none, none, none] [.int a0] τ) ∧
    (∀ (a0 : Int32) (a1 : Int32) (a2 : Int32) (a3 : Int32) (x0 : Int32) (τ : St), Ru M_H_isAtRest d Q 1 [some (.int a0), some (.int a1), some (.int a2), some (.int a3), none, none, none] [.int x0] τ = Ru M_H_isAtRest d Q 2 [some (.int a0), some (.int a1), some (.int a2), some (.int a3), none, none, none] [.int a1, .int x0] τ) ∧
    (∀ (a0 : Int32) (a1 : Int32) (a2 : Int32) (a3 : Int32) (x0 : Int32) (x1 : Int32) (τ : St), Ru M_H_isAtRest d Q 2 [some (.int a0), some (.int a1), some (.int a2), some (.int a3), none, none, none] [.int x0, .int x1] τ = Ru M_H_isAtRest d Q 3 [some (.int a0), some (.int a1), some (.int a2), some (.int a3), none, none, none] [.int a2, .int x0, .int x1] τ) ∧
    (∀ (a0 : Int32) (a1 : Int32) (a2 : Int32) (a3 : Int32) (x0 : Int32) (x1 : Int32) (x2 : Int32) (τ : St), Ru M_H_isAtRest d Q 3 [some (.int a0), some (.int a1), some (.int a2), some (.int a3), none, none, none] [.int x0, .int x1, .int x2] τ = Ru M_H_isAtRest d Q 4 [some (.int a0), some (.int a1), some (.int a2), some (.int a3), none, none, none] [.int a3, .int x0, .int x1, .int x2] τ) ∧
    (∀ (a0 : Int32) (a1 : Int32) (a2 : Int32) (a3 : Int32) (x0 : Int32) (x1 : Int32) (x2 : Int32) (x3 : Int32) (τ : St), Ru M_H_isAtRest d Q 4 [some (.int a0), some (.int a1), some (.int a2), some (.int a3), none, none, none] [.int x0, .int x1, .int x2, .int x3] τ = Cl d m_H_wallHas [.int x3, .int x2, .int x1, .int x0] τ (fun v τ' => Ru M_H_isAtRest d Q 7 [some (.int a0), some (.int a1), some (.int a2), some (.int a3), none, none, none] (v.toList ++ []) τ')) ∧
    (∀ (a0 : Int32) (a1 : Int32) (a2 : Int32) (a3 : Int32) (x0 : Int32) (τ : St), Ru M_H_isAtRest d Q 7 [some (.int a0), some (.int a1), some (.int a2), some (.int a3), none, none, none] [.int x0] τ = Ru M_H_isAtRest d Q 9 [some (.int a0), some (.int a1), some (.int a2), some (.int a3), some (.int x0), none, none] [] τ) ∧
    (∀ (a0 : Int32) (a1 : Int32) (a2 : Int32) (a3 : Int32) (a4 : Int32) (τ : St), Ru M_H_isAtRest d Q 9 [some (.int a0), some (.int a1), some (.int a2), some (.int a3), some (.int a4), none, none] [] τ = Ru M_H_isAtRest d Q 10 [some (.int a0), some (.int a1), some (.int a2), some (.int a3), some (.int a4), none, none] [.int a0] τ) ∧
    (∀ (a0 : Int32) (a1 : Int32) (a2 : Int32) (a3 : Int32) (a4 : Int32) (x0 : Int32) (τ : St), Ru M_H_isAtRest d Q 10 [some (.int a0), some (.int a1), some (.int a2), some (.int a3), some (.int a4), none, none] [.int x0] τ = Ru M_H_isAtRest d Q 11 [some (.int a0), some (.int a1), some (.int a2), some (.int a3), some (.int a4), none, none] [.int a1, .int x0] τ) ∧
    (∀ (a0 : Int32) (a1 : Int32) (a2 : Int32) (a3 : Int32) (a4 : Int32) (x0 : Int32) (x1 : Int32) (τ : St), Ru M_H_isAtRest d Q 11 [some (.int a0), some (.int a1), some (.int a2), some (.int a3), some (.int a4), none, none] [.int x0, .int x1] τ = Ru M_H_isAtRest d Q 12 [some (.int a0), some (.int a1), some (.int a2), some (.int a3), some (.int a4), none, none] [.int a2, .int x0, .int x1] τ) ∧
    (∀ (a0 : Int32) (a1 : Int32) (a2 : Int32) (a3 : Int32) (a4 : Int32) (x0 : Int32) (x1 : Int32) (x2 : Int32) (τ : St), Ru M_H_isAtRest d Q 12 [some (.int a0), some (.int a1), some (.int a2), some (.int a3), some (.int a4), none, none] [.int x0, .int x1, .int x2] τ = Ru M_H_isAtRest d Q 13 [some (.int a0), some (.int a1), some (.int a2), some (.int a3), some (.int a4), none, none] [.int a3, .int x0, .int x1, .int x2] τ) ∧
    (∀ (a0 : Int32) (a1 : Int32) (a2 : Int32) (a3 : Int32) (a4 : Int32) (x0 : Int32) (x1 : Int32) (x2 : Int32) (x3 : Int32) (τ : St), Ru M_H_isAtRest d Q 13 [some (.int a0), some (.int a1), some (.int a2), some (.int a3), some (.int a4), none, none] [.int x0, .int x1, .int x2, .int x3] τ = Cl d m_H_stormersHave [.int x3, .int x2, .int x1, .int x0] τ (fun v τ' => Ru M_H_isAtRest d Q 16 [some (.int a0), some (.int a1), some (.int a2), some (.int a3), some (.int a4), none, none] (v.toList ++ []) τ')) ∧
    (∀ (a0 : Int32) (a1 : Int32) (a2 : Int32) (a3 : Int32) (a4 : Int32) (x0 : Int32) (τ : St), Ru M_H_isAtRest d Q 16 [some (.int a0), some (.int a1), some (.int a2), some (.int a3), some (.int a4), none, none] [.int x0] τ = Ru M_H_isAtRest d Q 18 [some (.int a0), some (.int a1), some (.int a2), some (.int a3), some (.int a4), some (.int x0), none] [] τ) ∧
    (∀ (a0 : Int32) (a1 : Int32) (a2 : Int32) (a3 : Int32) (a4 : Int32) (a5 : Int32) (τ : St), Ru M_H_isAtRest d Q 18 [some (.int a0), some (.int a1), some (.int a2), some (.int a3), some (.int a4), some (.int a5), none] [] τ = Ru M_H_isAtRest d Q 19 [some (.int a0), some (.int a1), some (.int a2), some (.int a3), some (.int a4), some (.int a5), none] [.int 0] τ) ∧
    (∀ (a0 : Int32) (a1 : Int32) (a2 : Int32) (a3 : Int32) (a4 : Int32) (a5 : Int32) (x0 : Int32) (τ : St), Ru M_H_isAtRest d Q 19 [some (.int a0), some (.int a1), some (.int a2), some (.int a3), some (.int a4), some (.int a5), none] [.int x0] τ = Rs M_H_isAtRest d Q 21 [some (.int a0), some (.int a1), some (.int a2), some (.int a3), some (.int a4), some (.int a5), some (.int x0)] [] τ) ∧
    (∀ (a0 : Int32) (a1 : Int32) (a2 : Int32) (a3 : Int32) (a4 : Int32) (a5 : Int32) (a6 : Int32) (τ : St), Ru M_H_isAtRest d Q 21 [some (.int a0), some (.int a1), some (.int a2), some (.int a3), some (.int a4), some (.int a5), some (.int a6)] [] τ = Ru M_H_isAtRest d Q 23 [some (.int a0), some (.int a1), some (.int a2), some (.int a3), some (.int a4), some (.int a5), some (.int a6)] [.int a6] τ) ∧
    (∀ (a0 : Int32) (a1 : Int32) (a2 : Int32) (a3 : Int32) (a4 : Int32) (a5 : Int32) (a6 : Int32) (x0 : Int32) (τ : St), Ru M_H_isAtRest d Q 23 [some (.int a0), some (.int a1), some (.int a2), some (.int a3), some (.int a4), some (.int a5), some (.int a6)] [.int x0] τ = Ru M_H_isAtRest d Q 25 [some (.int a0), some (.int a1), some (.int a2), some (.int a3), some (.int a4), some (.int a5), some (.int a6)] [.int 9, .int x0] τ) ∧
    (∀ (a0 : Int32) (a1 : Int32) (a2 : Int32) (a3 : Int32) (a4 : Int32) (a5 : Int32) (a6 : Int32) (x0 : Int32) (x1 : Int32) (τ : St), Ru M_H_isAtRest d Q 25 [some (.int a0), some (.int a1), some (.int a2), some (.int a3), some (.int a4), some (.int a5), some (.int a6)] [.int x0, .int x1] τ = ((x0 < x1 → Ru M_H_isAtRest d Q 62 [some (.int a0), some (.int a1), some (.int a2), some (.int a3), some (.int a4), some (.int a5), some (.int a6)] [] τ) ∧ (¬ x0 < x1 → Ru M_H_isAtRest d Q 28 [some (.int a0), some (.int a1), some (.int a2), some (.int a3), some (.int a4), some (.int a5), some (.int a6)] [] τ))) ∧
    (∀ (a0 : Int32) (a1 : Int32) (a2 : Int32) (a3 : Int32) (a4 : Int32) (a5 : Int32) (a6 : Int32) (τ : St), Ru M_H_isAtRest d Q 28 [some (.int a0), some (.int a1), some (.int a2), some (.int a3), some (.int a4), some (.int a5), some (.int a6)] [] τ = Ru M_H_isAtRest d Q 30 [some (.int a0), some (.int a1), some (.int a2), some (.int a3), some (.int a4), some (.int a5), some (.int a6)] [.int a6] τ) ∧
    (∀ (a0 : Int32) (a1 : Int32) (a2 : Int32) (a3 : Int32) (a4 : Int32) (a5 : Int32) (a6 : Int32) (x0 : Int32) (τ : St), Ru M_H_isAtRest d Q 30 [some (.int a0), some (.int a1), some (.int a2), some (.int a3), some (.int a4), some (.int a5), some (.int a6)] [.int x0] τ = Ru M_H_isAtRest d Q 31 [some (.int a0), some (.int a1), some (.int a2), some (.int a3), some (.int a4), some (.int a5), some (.int a6)] [.int a1, .int x0] τ) ∧
    (∀ (a0 : Int32) (a1 : Int32) (a2 : Int32) (a3 : Int32) (a4 : Int32) (a5 : Int32) (a6 : Int32) (x0 : Int32) (x1 : Int32) (τ : St), Ru M_H_isAtRest d Q 31 [some (.int a0), some (.int a1), some (.int a2), some (.int a3), some (.int a4), some (.int a5), some (.int a6)] [.int x0, .int x1] τ = Ru M_H_isAtRest d Q 32 [some (.int a0), some (.int a1), some (.int a2), some (.int a3), some (.int a4), some (.int a5), some (.int a6)] [.int a2, .int x0, .int x1] τ) ∧
    (∀ (a0 : Int32) (a1 : Int32) (a2 : Int32) (a3 : Int32) (a4 : Int32) (a5 : Int32) (a6 : Int32) (x0 : Int32) (x1 : Int32) (x2 : Int32) (τ : St), Ru M_H_isAtRest d Q 32 [some (.int a0), some (.int a1), some (.int a2), some (.int a3), some (.int a4), some (.int a5), some (.int a6)] [.int x0, .int x1, .int x2] τ = Ru M_H_isAtRest d Q 33 [some (.int a0), some (.int a1), some (.int a2), some (.int a3), some (.int a4), some (.int a5), some (.int a6)] [.int a3, .int x0, .int x1, .int x2] τ) ∧
    (∀ (a0 : Int32) (a1 : Int32) (a2 : Int32) (a3 : Int32) (a4 : Int32) (a5 : Int32) (a6 : Int32) (x0 : Int32) (x1 : Int32) (x2 : Int32) (x3 : Int32) (τ : St), Ru M_H_isAtRest d Q 33 [some (.int a0), some (.int a1), some (.int a2), some (.int a3), some (.int a4), some (.int a5), some (.int a6)] [.int x0, .int x1, .int x2, .int x3] τ = Cl d m_H_wallHas [.int x3, .int x2, .int x1, .int x0] τ (fun v τ' => Ru M_H_isAtRest d Q 36 [some (.int a0), some (.int a1), some (.int a2), some (.int a3), some (.int a4), some (.int a5), some (.int a6)] (v.toList ++ []) τ')) ∧
    (∀ (a0 : Int32) (a1 : Int32) (a2 : Int32) (a3 : Int32) (a4 : Int32) (a5 : Int32) (a6 : Int32) (x0 : Int32) (τ : St), Ru M_H_isAtRest d Q 36 [some (.int a0), some (.int a1), some (.int a2), some (.int a3), some (.int a4), some (.int a5), some (.int a6)] [.int x0] τ = Ru M_H_isAtRest d Q 38 [some (.int a0), some (.int a1), some (.int a2), some (.int a3), some (.int a4), some (.int a5), some (.int a6)] [.int a4, .int x0] τ) ∧
    (∀ (a0 : Int32) (a1 : Int32) (a2 : Int32) (a3 : Int32) (a4 : Int32) (a5 : Int32) (a6 : Int32) (x0 : Int32) (x1 : Int32) (τ : St), Ru M_H_isAtRest d Q 38 [some (.int a0), some (.int a1), some (.int a2), some (.int a3), some (.int a4), some (.int a5), some (.int a6)] [.int x0, .int x1] τ = ((x0 < x1 → Ru M_H_isAtRest d Q 54 [some (.int a0), some (.int a1), some (.int a2), some (.int a3), some (.int a4), some (.int a5), some (.int a6)] [] τ) ∧ (¬ x0 < x1 → Ru M_H_isAtRest d Q 41 [some (.int a0), some (.int a1), some (.int a2), some (.int a3), some (.int a4), some (.int a5), some (.int a6)] [] τ))) ∧
    (∀ (a0 : Int32) (a1 : Int32) (a2 : Int32) (a3 : Int32) (a4 : Int32) (a5 : Int32) (a6 : Int32) (τ : St), Ru M_H_isAtRest d Q 41 [some (.int a0), some (.int a1), some (.int a2), some (.int a3), some (.int a4), some (.int a5), some (.int a6)] [] τ = Ru M_H_isAtRest d Q 42 [some (.int a0), some (.int a1), some (.int a2), some (.int a3), some (.int a4), some (.int a5), some (.int a6)] [.int a0] τ) ∧
    (∀ (a0 : Int32) (a1 : Int32) (a2 : Int32) (a3 : Int32) (a4 : Int32) (a5 : Int32) (a6 : Int32) (x0 : Int32) (τ : St), Ru M_H_isAtRest d Q 42 [some (.int a0), some (.int a1), some (.int a2), some (.int a3), some (.int a4), some (.int a5), some (.int a6)] [.int x0] τ = Ru M_H_isAtRest d Q 44 [some (.int a0), some (.int a1), some (.int a2), some (.int a3), some (.int a4), some (.int a5), some (.int a6)] [.int a6, .int x0] τ) ∧
    (∀ (a0 : Int32) (a1 : Int32) (a2 : Int32) (a3 : Int32) (a4 : Int32) (a5 : Int32) (a6 : Int32) (x0 : Int32) (x1 : Int32) (τ : St), Ru M_H_isAtRest d Q 44 [some (.int a0), some (.int a1), some (.int a2), some (.int a3), some (.int a4), some (.int a5), some (.int a6)] [.int x0, .int x1] τ = Ru M_H_isAtRest d Q 45 [some (.int a0), some (.int a1), some (.int a2), some (.int a3), some (.int a4), some (.int a5), some (.int a6)] [.int a2, .int x0, .int x1] τ) ∧
    (∀ (a0 : Int32) (a1 : Int32) (a2 : Int32) (a3 : Int32) (a4 : Int32) (a5 : Int32) (a6 : Int32) (x0 : Int32) (x1 : Int32) (x2 : Int32) (τ : St), Ru M_H_isAtRest d Q 45 [some (.int a0), some (.int a1), some (.int a2), some (.int a3), some (.int a4), some (.int a5), some (.int a6)] [.int x0, .int x1, .int x2] τ = Ru M_H_isAtRest d Q 46 [some (.int a0), some (.int a1), some (.int a2), some (.int a3), some (.int a4), some (.int a5), some (.int a6)] [.int a3, .int x0, .int x1, .int x2] τ) ∧
    (∀ (a0 : Int32) (a1 : Int32) (a2 : Int32) (a3 : Int32) (a4 : Int32) (a5 : Int32) (a6 : Int32) (x0 : Int32) (x1 : Int32) (x2 : Int32) (x3 : Int32) (τ : St), Ru M_H_isAtRest d Q 46 [some (.int a0), some (.int a1), some (.int a2), some (.int a3), some (.int a4), some (.int a5), some (.int a6)] [.int x0, .int x1, .int x2, .int x3] τ = Cl d m_H_stormersHave [.int x3, .int x2, .int x1, .int x0] τ (fun v τ' => Ru M_H_isAtRest d Q 49 [some (.int a0), some (.int a1), some (.int a2), some (.int a3), some (.int a4), some (.int a5), some (.int a6)] (v.toList ++ []) τ')) ∧
    (∀ (a0 : Int32) (a1 : Int32) (a2 : Int32) (a3 : Int32) (a4 : Int32) (a5 : Int32) (a6 : Int32) (x0 : Int32) (τ : St), Ru M_H_isAtRest d Q 49 [some (.int a0), some (.int a1), some (.int a2), some (.int a3), some (.int a4), some (.int a5), some (.int a6)] [.int x0] τ = Ru M_H_isAtRest d Q 51 [some (.int a0), some (.int a1), some (.int a2), some (.int a3), some (.int a4), some (.int a5), some (.int a6)] [.int a5, .int x0] τ) ∧
    (∀ (a0 : Int32) (a1 : Int32) (a2 : Int32) (a3 : Int32) (a4 : Int32) (a5 : Int32) (a6 : Int32) (x0 : Int32) (x1 : Int32) (τ : St), Ru M_H_isAtRest d Q 51 [some (.int a0), some (.int a1), some (.int a2), some (.int a3), some (.int a4), some (.int a5), some (.int a6)] [.int x0, .int x1] τ = ((x1 ≤ x0 → Ru M_H_isAtRest d Q 56 [some (.int a0), some (.int a1), some (.int a2), some (.int a3), some (.int a4), some (.int a5), some (.int a6)] [] τ) ∧ (¬ x1 ≤ x0 → Ru M_H_isAtRest d Q 54 [some (.int a0), some (.int a1), some (.int a2), some (.int a3), some (.int a4), some (.int a5), some (.int a6)] [] τ))) ∧
    (∀ (a0 : Int32) (a1 : Int32) (a2 : Int32) (a3 : Int32) (a4 : Int32) (a5 : Int32) (a6 : Int32) (τ : St), Ru M_H_isAtRest d Q 54 [some (.int a0), some (.int a1), some (.int a2), some (.int a3), some (.int a4), some (.int a5), some (.int a6)] [] τ = Ru M_H_isAtRest d Q 55 [some (.int a0), some (.int a1), some (.int a2), some (.int a3), some (.int a4), some (.int a5), some (.int a6)] [.int 0] τ) ∧
    (∀ (a0 : Int32) (a1 : Int32) (a2 : Int32) (a3 : Int32) (a4 : Int32) (a5 : Int32) (a6 : Int32) (x0 : Int32) (τ : St), Ru M_H_isAtRest d Q 55 [some (.int a0), some (.int a1), some (.int a2), some (.int a3), some (.int a4), some (.int a5), some (.int a6)] [.int x0] τ = ((x0 = 0 ∨ x0 = 1) ∧ Q (some (.int x0)) τ)) ∧
    (∀ (a0 : Int32) (a1 : Int32) (a2 : Int32) (a3 : Int32) (a4 : Int32) (a5 : Int32) (a6 : Int32) (τ : St), Ru M_H_isAtRest d Q 56 [some (.int a0), some (.int a1), some (.int a2), some (.int a3), some (.int a4), some (.int a5), some (.int a6)] [] τ = Ru M_H_isAtRest d Q 59 [some (.int a0), some (.int a1), some (.int a2), some (.int a3), some (.int a4), some (.int a5), some (.int (a6 + 1))] [] τ) ∧
    (∀ (a0 : Int32) (a1 : Int32) (a2 : Int32) (a3 : Int32) (a4 : Int32) (a5 : Int32) (a6 : Int32) (τ : St), Ru M_H_isAtRest d Q 59 [some (.int a0), some (.int a1), some (.int a2), some (.int a3), some (.int a4), some (.int a5), some (.int a6)] [] τ = Rs M_H_isAtRest d Q 21 [some (.int a0), some (.int a1), some (.int a2), some (.int a3), some (.int a4), some (.int a5), some (.int a6)] [] τ) ∧
    (∀ (a0 : Int32) (a1 : Int32) (a2 : Int32) (a3 : Int32) (a4 : Int32) (a5 : Int32) (a6 : Int32) (τ : St), Ru M_H_isAtRest d Q 62 [some (.int a0), some (.int a1), some (.int a2), some (.int a3), some (.int a4), some (.int a5), some (.int a6)] [] τ = Ru M_H_isAtRest d Q 63 [some (.int a0), some (.int a1), some (.int a2), some (.int a3), some (.int a4), some (.int a5), some (.int a6)] [.int 1] τ) ∧
    (∀ (a0 : Int32) (a1 : Int32) (a2 : Int32) (a3 : Int32) (a4 : Int32) (a5 : Int32) (a6 : Int32) (x0 : Int32) (τ : St), Ru M_H_isAtRest d Q 63 [some (.int a0), some (.int a1), some (.int a2), some (.int a3), some (.int a4), some (.int a5), some (.int a6)] [.int x0] τ = ((x0 = 0 ∨ x0 = 1) ∧ Q (some (.int x0)) τ)) := ⟨
  fun _ _ _ _ _ => (R_at ok_H_isAtRest rfl).trans (e_ild rfl),
  fun _ _ _ _ _ _ => (R_at ok_H_isAtRest rfl).trans (e_ild rfl),
  fun _ _ _ _ _ _ _ => (R_at ok_H_isAtRest rfl).trans (e_ild rfl),
  fun _ _ _ _ _ _ _ _ => (R_at ok_H_isAtRest rfl).trans (e_ild rfl),
  fun _ _ _ _ x0 x1 x2 x3 _ => (R_at ok_H_isAtRest rfl).trans (e_cs [.int x3, .int x2, .int x1, .int x0] rfl rfl rfl),
  fun _ _ _ _ _ _ => (R_at ok_H_isAtRest rfl).trans e_ist,
  fun _ _ _ _ _ _ => (R_at ok_H_isAtRest rfl).trans (e_ild rfl),
  fun _ _ _ _ _ _ _ => (R_at ok_H_isAtRest rfl).trans (e_ild rfl),
  fun _ _ _ _ _ _ _ _ => (R_at ok_H_isAtRest rfl).trans (e_ild rfl),
  fun _ _ _ _ _ _ _ _ _ => (R_at ok_H_isAtRest rfl).trans (e_ild rfl),
  fun _ _ _ _ _ x0 x1 x2 x3 _ => (R_at ok_H_isAtRest rfl).trans (e_cs [.int x3, .int x2, .int x1, .int x0] rfl rfl rfl),
  fun _ _ _ _ _ _ _ => (R_at ok_H_isAtRest rfl).trans e_ist,
  fun _ _ _ _ _ _ _ => (R_at ok_H_isAtRest rfl).trans e_push,
  fun _ _ _ _ _ _ _ _ => (R_at ok_H_isAtRest rfl).trans e_ist,
  fun _ _ _ _ _ _ _ _ => (R_at ok_H_isAtRest rfl).trans (e_ild rfl),
  fun _ _ _ _ _ _ _ _ _ => (R_at ok_H_isAtRest rfl).trans e_push,
  fun _ _ _ _ _ _ _ _ _ _ => (R_at ok_H_isAtRest rfl).trans e_ic,
  fun _ _ _ _ _ _ _ _ => (R_at ok_H_isAtRest rfl).trans (e_ild rfl),
  fun _ _ _ _ _ _ _ _ _ => (R_at ok_H_isAtRest rfl).trans (e_ild rfl),
  fun _ _ _ _ _ _ _ _ _ _ => (R_at ok_H_isAtRest rfl).trans (e_ild rfl),
  fun _ _ _ _ _ _ _ _ _ _ _ => (R_at ok_H_isAtRest rfl).trans (e_ild rfl),
  fun _ _ _ _ _ _ _ x0 x1 x2 x3 _ => (R_at ok_H_isAtRest rfl).trans (e_cs [.int x3, .int x2, .int x1, .int x0] rfl rfl rfl),
  fun _ _ _ _ _ _ _ _ _ => (R_at ok_H_isAtRest rfl).trans (e_ild rfl),
  fun _ _ _ _ _ _ _ _ _ _ => (R_at ok_H_isAtRest rfl).trans e_ic,
  fun _ _ _ _ _ _ _ _ => (R_at ok_H_isAtRest rfl).trans (e_ild rfl),
  fun _ _ _ _ _ _ _ _ _ => (R_at ok_H_isAtRest rfl).trans (e_ild rfl),
  fun _ _ _ _ _ _ _ _ _ _ => (R_at ok_H_isAtRest rfl).trans (e_ild rfl),
  fun _ _ _ _ _ _ _ _ _ _ _ => (R_at ok_H_isAtRest rfl).trans (e_ild rfl),
  fun _ _ _ _ _ _ _ x0 x1 x2 x3 _ => (R_at ok_H_isAtRest rfl).trans (e_cs [.int x3, .int x2, .int x1, .int x0] rfl rfl rfl),
  fun _ _ _ _ _ _ _ _ _ => (R_at ok_H_isAtRest rfl).trans (e_ild rfl),
  fun _ _ _ _ _ _ _ _ _ _ => (R_at ok_H_isAtRest rfl).trans e_ic,
  fun _ _ _ _ _ _ _ _ => (R_at ok_H_isAtRest rfl).trans e_push,
  fun _ _ _ _ _ _ _ _ _ => (R_at ok_H_isAtRest rfl).trans e_zret,
  fun _ _ _ _ _ _ _ _ => (R_at ok_H_isAtRest rfl).trans (e_iinc rfl),
  fun _ _ _ _ _ _ _ _ => (R_at ok_H_isAtRest rfl).trans e_goto,
  fun _ _ _ _ _ _ _ _ => (R_at ok_H_isAtRest rfl).trans e_push,
  fun _ _ _ _ _ _ _ _ _ => (R_at ok_H_isAtRest rfl).trans e_zret⟩
set_option maxHeartbeats 4000000 in
theorem N_H_wallHas (d : Nat) (Q : Qt) : ∀ (x0 : Int32) (x1 : Int32) (x2 : Int32) (x3 : Int32) (τ : St), Cl (d + 1) m_H_wallHas [.int x0, .int x1, .int x2, .int x3] τ Q = Ru M_H_wallHas d Q 0 [some (.int x0), some (.int x1), some (.int x2), some (.int x3)] [] τ := fun _ _ _ _ _ => propext ⟨fun h => h.2, fun h => ⟨Nat.le_of_ble_eq_true rfl, h⟩⟩
set_option maxHeartbeats 4000000 in
theorem E_H_wallHas (d : Nat) (Q : Qt) :
    (∀ (a0 : Int32) (a1 : Int32) (a2 : Int32) (a3 : Int32) (τ : St), Ru M_H_wallHas d Q 0 [some (.int a0), some (.int a1), some (.int a2), some (.int a3)] [] τ = Ru M_H_wallHas d Q 1 [some (.int a0), some (.int a1), some (.int a2), some (.int a3)] [.int a1] τ) ∧
    (∀ (a0 : Int32) (a1 : Int32) (a2 : Int32) (a3 : Int32) (x0 : Int32) (τ : St), Ru M_H_wallHas d Q 1 [some (.int a0), some (.int a1), some (.int a2), some (.int a3)] [.int x0] τ = Ru M_H_wallHas d Q 2 [some (.int a0), some (.int a1), some (.int a2), some (.int a3)] [.int a0, .int x0] τ) ∧
    (∀ (a0 : Int32) (a1 : Int32) (a2 : Int32) (a3 : Int32) (x0 : Int32) (x1 : Int32) (τ : St), Ru M_H_wallHas d Q 2 [some (.int a0), some (.int a1), some (.int a2), some (.int a3)] [.int x0, .int x1] τ = ((x1 ≤ x0 → Ru M_H_wallHas d Q 9 [some (.int a0), some (.int a1), some (.int a2), some (.int a3)] [] τ) ∧ (¬ x1 ≤ x0 → Ru M_H_wallHas d Q 5 [some (.int a0), some (.int a1), some (.int a2), some (.int a3)] [] τ))) ∧
    (∀ (a0 : Int32) (a1 : Int32) (a2 : Int32) (a3 : Int32) (τ : St), Ru M_H_wallHas d Q 5 [some (.int a0), some (.int a1), some (.int a2), some (.int a3)] [] τ = Ru M_H_wallHas d Q 6 [some (.int a0), some (.int a1), some (.int a2), some (.int a3)] [.int 0] τ) ∧
    (∀ (a0 : Int32) (a1 : Int32) (a2 : Int32) (a3 : Int32) (x0 : Int32) (τ : St), Ru M_H_wallHas d Q 6 [some (.int a0), some (.int a1), some (.int a2), some (.int a3)] [.int x0] τ = Ru M_H_wallHas d Q 10 [some (.int a0), some (.int a1), some (.int a2), some (.int a3)] [.int x0] τ) ∧
    (∀ (a0 : Int32) (a1 : Int32) (a2 : Int32) (a3 : Int32) (τ : St), Ru M_H_wallHas d Q 9 [some (.int a0), some (.int a1), some (.int a2), some (.int a3)] [] τ = Ru M_H_wallHas d Q 10 [some (.int a0), some (.int a1), some (.int a2), some (.int a3)] [.int a2] τ) ∧
    (∀ (a0 : Int32) (a1 : Int32) (a2 : Int32) (a3 : Int32) (x0 : Int32) (τ : St), Ru M_H_wallHas d Q 10 [some (.int a0), some (.int a1), some (.int a2), some (.int a3)] [.int x0] τ = Ru M_H_wallHas d Q 11 [some (.int a0), some (.int a1), some (.int a2), some (.int a3)] [.int a3, .int x0] τ) ∧
    (∀ (a0 : Int32) (a1 : Int32) (a2 : Int32) (a3 : Int32) (x0 : Int32) (x1 : Int32) (τ : St), Ru M_H_wallHas d Q 11 [some (.int a0), some (.int a1), some (.int a2), some (.int a3)] [.int x0, .int x1] τ = Ru M_H_wallHas d Q 12 [some (.int a0), some (.int a1), some (.int a2), some (.int a3)] [.int a0, .int x0, .int x1] τ) ∧
    (∀ (a0 : Int32) (a1 : Int32) (a2 : Int32) (a3 : Int32) (x0 : Int32) (x1 : Int32) (x2 : Int32) (τ : St), Ru M_H_wallHas d Q 12 [some (.int a0), some (.int a1), some (.int a2), some (.int a3)] [.int x0, .int x1, .int x2] τ = Ru M_H_wallHas d Q 13 [some (.int a0), some (.int a1), some (.int a2), some (.int a3)] [.int (x1 * x0), .int x2] τ) ∧
    (∀ (a0 : Int32) (a1 : Int32) (a2 : Int32) (a3 : Int32) (x0 : Int32) (x1 : Int32) (τ : St), Ru M_H_wallHas d Q 13 [some (.int a0), some (.int a1), some (.int a2), some (.int a3)] [.int x0, .int x1] τ = Ru M_H_wallHas d Q 14 [some (.int a0), some (.int a1), some (.int a2), some (.int a3)] [.int (x1 - x0)] τ) ∧
    (∀ (a0 : Int32) (a1 : Int32) (a2 : Int32) (a3 : Int32) (x0 : Int32) (τ : St), Ru M_H_wallHas d Q 14 [some (.int a0), some (.int a1), some (.int a2), some (.int a3)] [.int x0] τ = Q (some (.int x0)) τ) := ⟨
  fun _ _ _ _ _ => (R_at ok_H_wallHas rfl).trans (e_ild rfl),
  fun _ _ _ _ _ _ => (R_at ok_H_wallHas rfl).trans (e_ild rfl),
  fun _ _ _ _ _ _ _ => (R_at ok_H_wallHas rfl).trans e_ic,
  fun _ _ _ _ _ => (R_at ok_H_wallHas rfl).trans e_push,
  fun _ _ _ _ _ _ => (R_at ok_H_wallHas rfl).trans e_goto,
  fun _ _ _ _ _ => (R_at ok_H_wallHas rfl).trans (e_ild rfl),
  fun _ _ _ _ _ _ => (R_at ok_H_wallHas rfl).trans (e_ild rfl),
  fun _ _ _ _ _ _ _ => (R_at ok_H_wallHas rfl).trans (e_ild rfl),
  fun _ _ _ _ _ _ _ _ => (R_at ok_H_wallHas rfl).trans e_bin,
  fun _ _ _ _ _ _ _ => (R_at ok_H_wallHas rfl).trans e_bin,
  fun _ _ _ _ _ _ => (R_at ok_H_wallHas rfl).trans e_iret⟩
set_option maxHeartbeats 4000000 in
theorem N_H_stormersHave (d : Nat) (Q : Qt) : ∀ (x0 : Int32) (x1 : Int32) (x2 : Int32) (x3 : Int32) (τ : St), Cl (d + 1) m_H_stormersHave [.int x0, .int x1, .int x2, .int x3] τ Q = Ru M_H_stormersHave d Q 0 [some (.int x0), some (.int x1), some (.int x2), some (.int x3)] [] τ := fun _ _ _ _ _ => propext ⟨fun h => h.2, fun h => ⟨Nat.le_of_ble_eq_true rfl, h⟩⟩
set_option maxHeartbeats 4000000 in
theorem E_H_stormersHave (d : Nat) (Q : Qt) :
    (∀ (a0 : Int32) (a1 : Int32) (a2 : Int32) (a3 : Int32) (τ : St), Ru M_H_stormersHave d Q 0 [some (.int a0), some (.int a1), some (.int a2), some (.int a3)] [] τ = Ru M_H_stormersHave d Q 1 [some (.int a0), some (.int a1), some (.int a2), some (.int a3)] [.int a1] τ) ∧
    (∀ (a0 : Int32) (a1 : Int32) (a2 : Int32) (a3 : Int32) (x0 : Int32) (τ : St), Ru M_H_stormersHave d Q 1 [some (.int a0), some (.int a1), some (.int a2), some (.int a3)] [.int x0] τ = Ru M_H_stormersHave d Q 2 [some (.int a0), some (.int a1), some (.int a2), some (.int a3)] [.int a0, .int x0] τ) ∧
    (∀ (a0 : Int32) (a1 : Int32) (a2 : Int32) (a3 : Int32) (x0 : Int32) (x1 : Int32) (τ : St), Ru M_H_stormersHave d Q 2 [some (.int a0), some (.int a1), some (.int a2), some (.int a3)] [.int x0, .int x1] τ = ((x1 ≤ x0 → Ru M_H_stormersHave d Q 9 [some (.int a0), some (.int a1), some (.int a2), some (.int a3)] [] τ) ∧ (¬ x1 ≤ x0 → Ru M_H_stormersHave d Q 5 [some (.int a0), some (.int a1), some (.int a2), some (.int a3)] [] τ))) ∧
    (∀ (a0 : Int32) (a1 : Int32) (a2 : Int32) (a3 : Int32) (τ : St), Ru M_H_stormersHave d Q 5 [some (.int a0), some (.int a1), some (.int a2), some (.int a3)] [] τ = Ru M_H_stormersHave d Q 6 [some (.int a0), some (.int a1), some (.int a2), some (.int a3)] [.int a2] τ) ∧
    (∀ (a0 : Int32) (a1 : Int32) (a2 : Int32) (a3 : Int32) (x0 : Int32) (τ : St), Ru M_H_stormersHave d Q 6 [some (.int a0), some (.int a1), some (.int a2), some (.int a3)] [.int x0] τ = Ru M_H_stormersHave d Q 10 [some (.int a0), some (.int a1), some (.int a2), some (.int a3)] [.int x0] τ) ∧
    (∀ (a0 : Int32) (a1 : Int32) (a2 : Int32) (a3 : Int32) (τ : St), Ru M_H_stormersHave d Q 9 [some (.int a0), some (.int a1), some (.int a2), some (.int a3)] [] τ = Ru M_H_stormersHave d Q 10 [some (.int a0), some (.int a1), some (.int a2), some (.int a3)] [.int 0] τ) ∧
    (∀ (a0 : Int32) (a1 : Int32) (a2 : Int32) (a3 : Int32) (x0 : Int32) (τ : St), Ru M_H_stormersHave d Q 10 [some (.int a0), some (.int a1), some (.int a2), some (.int a3)] [.int x0] τ = Ru M_H_stormersHave d Q 11 [some (.int a0), some (.int a1), some (.int a2), some (.int a3)] [.int a3, .int x0] τ) ∧
    (∀ (a0 : Int32) (a1 : Int32) (a2 : Int32) (a3 : Int32) (x0 : Int32) (x1 : Int32) (τ : St), Ru M_H_stormersHave d Q 11 [some (.int a0), some (.int a1), some (.int a2), some (.int a3)] [.int x0, .int x1] τ = Ru M_H_stormersHave d Q 12 [some (.int a0), some (.int a1), some (.int a2), some (.int a3)] [.int a1, .int x0, .int x1] τ) ∧
    (∀ (a0 : Int32) (a1 : Int32) (a2 : Int32) (a3 : Int32) (x0 : Int32) (x1 : Int32) (x2 : Int32) (τ : St), Ru M_H_stormersHave d Q 12 [some (.int a0), some (.int a1), some (.int a2), some (.int a3)] [.int x0, .int x1, .int x2] τ = Ru M_H_stormersHave d Q 13 [some (.int a0), some (.int a1), some (.int a2), some (.int a3)] [.int (x1 * x0), .int x2] τ) ∧
    (∀ (a0 : Int32) (a1 : Int32) (a2 : Int32) (a3 : Int32) (x0 : Int32) (x1 : Int32) (τ : St), Ru M_H_stormersHave d Q 13 [some (.int a0), some (.int a1), some (.int a2), some (.int a3)] [.int x0, .int x1] τ = Ru M_H_stormersHave d Q 14 [some (.int a0), some (.int a1), some (.int a2), some (.int a3)] [.int (x1 - x0)] τ) ∧
    (∀ (a0 : Int32) (a1 : Int32) (a2 : Int32) (a3 : Int32) (x0 : Int32) (τ : St), Ru M_H_stormersHave d Q 14 [some (.int a0), some (.int a1), some (.int a2), some (.int a3)] [.int x0] τ = Q (some (.int x0)) τ) := ⟨
  fun _ _ _ _ _ => (R_at ok_H_stormersHave rfl).trans (e_ild rfl),
  fun _ _ _ _ _ _ => (R_at ok_H_stormersHave rfl).trans (e_ild rfl),
  fun _ _ _ _ _ _ _ => (R_at ok_H_stormersHave rfl).trans e_ic,
  fun _ _ _ _ _ => (R_at ok_H_stormersHave rfl).trans (e_ild rfl),
  fun _ _ _ _ _ _ => (R_at ok_H_stormersHave rfl).trans e_goto,
  fun _ _ _ _ _ => (R_at ok_H_stormersHave rfl).trans e_push,
  fun _ _ _ _ _ _ => (R_at ok_H_stormersHave rfl).trans (e_ild rfl),
  fun _ _ _ _ _ _ _ => (R_at ok_H_stormersHave rfl).trans (e_ild rfl),
  fun _ _ _ _ _ _ _ _ => (R_at ok_H_stormersHave rfl).trans e_bin,
  fun _ _ _ _ _ _ _ => (R_at ok_H_stormersHave rfl).trans e_bin,
  fun _ _ _ _ _ _ => (R_at ok_H_stormersHave rfl).trans e_iret⟩
set_option maxHeartbeats 4000000 in
theorem N_H_sieges (d : Nat) (Q : Qt) : ∀ (x0 : Nat) (x1 : Int32) (x2 : Int32) (τ : St), Cl (d + 1) m_H_sieges [.ref x0, .int x1, .int x2] τ Q = Ru M_H_sieges d Q 0 [some (.ref x0), some (.int x1), some (.int x2), none, none, none, none] [] τ := fun _ _ _ _ => propext ⟨fun h => h.2, fun h => ⟨Nat.le_of_ble_eq_true rfl, h⟩⟩
set_option maxHeartbeats 4000000 in
theorem E_H_sieges (d : Nat) (Q : Qt) :
    (∀ (a0 : Nat) (a1 : Int32) (a2 : Int32) (τ : St), Ru M_H_sieges d Q 0 [some (.ref a0), some (.int a1), some (.int a2), none, none, none, none] [] τ = Ru M_H_sieges d Q 1 [some (.ref a0), some (.int a1), some (.int a2), none, none, none, none] [.ref a0] τ) ∧
    (∀ (a0 : Nat) (a1 : Int32) (a2 : Int32) (x0 : Nat) (τ : St), Ru M_H_sieges d Q 1 [some (.ref a0), some (.int a1), some (.int a2), none, none, none, none] [.ref x0] τ = (isA 11 x0 ∧ Ru M_H_sieges d Q 4 [some (.ref a0), some (.int a1), some (.int a2), none, none, none, none] [.ref (rtab x0 3)] τ)) ∧
    (∀ (a0 : Nat) (a1 : Int32) (a2 : Int32) (x0 : Nat) (τ : St), Ru M_H_sieges d Q 4 [some (.ref a0), some (.int a1), some (.int a2), none, none, none, none] [.ref x0] τ = (isA 1 x0 ∧ Ru M_H_sieges d Q 7 [some (.ref a0), some (.int a1), some (.int a2), none, none, none, none] [.int (τ.1 x0 1)] τ)) ∧
    (∀ (a0 : Nat) (a1 : Int32) (a2 : Int32) (x0 : Int32) (τ : St), Ru M_H_sieges d Q 7 [some (.ref a0), some (.int a1), some (.int a2), none, none, none, none] [.int x0] τ = Ru M_H_sieges d Q 8 [some (.ref a0), some (.int a1), some (.int a2), none, none, none, none] [.int 1, .int x0] τ) ∧
    (∀ (a0 : Nat) (a1 : Int32) (a2 : Int32) (x0 : Int32) (x1 : Int32) (τ : St), Ru M_H_sieges d Q 8 [some (.ref a0), some (.int a1), some (.int a2), none, none, none, none] [.int x0, .int x1] τ = ((x0 ≤ x1 → Ru M_H_sieges d Q 14 [some (.ref a0), some (.int a1), some (.int a2), none, none, none, none] [] τ) ∧ (¬ x0 ≤ x1 → Ru M_H_sieges d Q 11 [some (.ref a0), some (.int a1), some (.int a2), none, none, none, none] [] τ))) ∧
    (∀ (a0 : Nat) (a1 : Int32) (a2 : Int32) (τ : St), Ru M_H_sieges d Q 11 [some (.ref a0), some (.int a1), some (.int a2), none, none, none, none] [] τ = Ru M_H_sieges d Q 13 [some (.ref a0), some (.int a1), some (.int a2), none, none, none, none] [.int (-2)] τ) ∧
    (∀ (a0 : Nat) (a1 : Int32) (a2 : Int32) (x0 : Int32) (τ : St), Ru M_H_sieges d Q 13 [some (.ref a0), some (.int a1), some (.int a2), none, none, none, none] [.int x0] τ = Q (some (.int x0)) τ) ∧
    (∀ (a0 : Nat) (a1 : Int32) (a2 : Int32) (τ : St), Ru M_H_sieges d Q 14 [some (.ref a0), some (.int a1), some (.int a2), none, none, none, none] [] τ = Ru M_H_sieges d Q 15 [some (.ref a0), some (.int a1), some (.int a2), none, none, none, none] [.int a2] τ) ∧
    (∀ (a0 : Nat) (a1 : Int32) (a2 : Int32) (x0 : Int32) (τ : St), Ru M_H_sieges d Q 15 [some (.ref a0), some (.int a1), some (.int a2), none, none, none, none] [.int x0] τ = Ru M_H_sieges d Q 16 [some (.ref a0), some (.int a1), some (.int a2), none, none, none, none] [.int 1, .int x0] τ) ∧
    (∀ (a0 : Nat) (a1 : Int32) (a2 : Int32) (x0 : Int32) (x1 : Int32) (τ : St), Ru M_H_sieges d Q 16 [some (.ref a0), some (.int a1), some (.int a2), none, none, none, none] [.int x0, .int x1] τ = ((x1 < x0 → Ru M_H_sieges d Q 25 [some (.ref a0), some (.int a1), some (.int a2), none, none, none, none] [] τ) ∧ (¬ x1 < x0 → Ru M_H_sieges d Q 19 [some (.ref a0), some (.int a1), some (.int a2), none, none, none, none] [] τ))) ∧
    (∀ (a0 : Nat) (a1 : Int32) (a2 : Int32) (τ : St), Ru M_H_sieges d Q 19 [some (.ref a0), some (.int a1), some (.int a2), none, none, none, none] [] τ = Ru M_H_sieges d Q 20 [some (.ref a0), some (.int a1), some (.int a2), none, none, none, none] [.int a2] τ) ∧
    (∀ (a0 : Nat) (a1 : Int32) (a2 : Int32) (x0 : Int32) (τ : St), Ru M_H_sieges d Q 20 [some (.ref a0), some (.int a1), some (.int a2), none, none, none, none] [.int x0] τ = Ru M_H_sieges d Q 22 [some (.ref a0), some (.int a1), some (.int a2), none, none, none, none] [.int 99, .int x0] τ) ∧
    (∀ (a0 : Nat) (a1 : Int32) (a2 : Int32) (x0 : Int32) (x1 : Int32) (τ : St), Ru M_H_sieges d Q 22 [some (.ref a0), some (.int a1), some (.int a2), none, none, none, none] [.int x0, .int x1] τ = ((x1 ≤ x0 → Ru M_H_sieges d Q 27 [some (.ref a0), some (.int a1), some (.int a2), none, none, none, none] [] τ) ∧ (¬ x1 ≤ x0 → Ru M_H_sieges d Q 25 [some (.ref a0), some (.int a1), some (.int a2), none, none, none, none] [] τ))) ∧
    (∀ (a0 : Nat) (a1 : Int32) (a2 : Int32) (τ : St), Ru M_H_sieges d Q 25 [some (.ref a0), some (.int a1), some (.int a2), none, none, none, none] [] τ = Ru M_H_sieges d Q 26 [some (.ref a0), some (.int a1), some (.int a2), none, none, none, none] [.int (-1)] τ) ∧
    (∀ (a0 : Nat) (a1 : Int32) (a2 : Int32) (x0 : Int32) (τ : St), Ru M_H_sieges d Q 26 [some (.ref a0), some (.int a1), some (.int a2), none, none, none, none] [.int x0] τ = Q (some (.int x0)) τ) ∧
    (∀ (a0 : Nat) (a1 : Int32) (a2 : Int32) (τ : St), Ru M_H_sieges d Q 27 [some (.ref a0), some (.int a1), some (.int a2), none, none, none, none] [] τ = Ru M_H_sieges d Q 28 [some (.ref a0), some (.int a1), some (.int a2), none, none, none, none] [.ref a0] τ) ∧
    (∀ (a0 : Nat) (a1 : Int32) (a2 : Int32) (x0 : Nat) (τ : St), Ru M_H_sieges d Q 28 [some (.ref a0), some (.int a1), some (.int a2), none, none, none, none] [.ref x0] τ = (isA 11 x0 ∧ Ru M_H_sieges d Q 31 [some (.ref a0), some (.int a1), some (.int a2), none, none, none, none] [.ref (rtab x0 4)] τ)) ∧
    (∀ (a0 : Nat) (a1 : Int32) (a2 : Int32) (x0 : Nat) (τ : St), Ru M_H_sieges d Q 31 [some (.ref a0), some (.int a1), some (.int a2), none, none, none, none] [.ref x0] τ = Ru M_H_sieges d Q 32 [some (.ref a0), some (.int a1), some (.int a2), none, none, none, none] [.ref a0, .ref x0] τ) ∧
    (∀ (a0 : Nat) (a1 : Int32) (a2 : Int32) (x0 : Nat) (x1 : Nat) (τ : St), Ru M_H_sieges d Q 32 [some (.ref a0), some (.int a1), some (.int a2), none, none, none, none] [.ref x0, .ref x1] τ = (isA 11 x0 ∧ Ru M_H_sieges d Q 35 [some (.ref a0), some (.int a1), some (.int a2), none, none, none, none] [.ref (rtab x0 3), .ref x1] τ)) ∧
    (∀ (a0 : Nat) (a1 : Int32) (a2 : Int32) (x0 : Nat) (x1 : Nat) (τ : St), Ru M_H_sieges d Q 35 [some (.ref a0), some (.int a1), some (.int a2), none, none, none, none] [.ref x0, .ref x1] τ = (isA 1 x1 ∧ Cl d m_Moment_copy [.ref x1, .ref x0] τ (fun v τ' => Ru M_H_sieges d Q 38 [some (.ref a0), some (.int a1), some (.int a2), none, none, none, none] (v.toList ++ []) τ'))) ∧
    (∀ (a0 : Nat) (a1 : Int32) (a2 : Int32) (τ : St), Ru M_H_sieges d Q 38 [some (.ref a0), some (.int a1), some (.int a2), none, none, none, none] [] τ = Ru M_H_sieges d Q 39 [some (.ref a0), some (.int a1), some (.int a2), none, none, none, none] [.int 0] τ) ∧
    (∀ (a0 : Nat) (a1 : Int32) (a2 : Int32) (x0 : Int32) (τ : St), Ru M_H_sieges d Q 39 [some (.ref a0), some (.int a1), some (.int a2), none, none, none, none] [.int x0] τ = Ru M_H_sieges d Q 40 [some (.ref a0), some (.int a1), some (.int a2), some (.int x0), none, none, none] [] τ) ∧
    (∀ (a0 : Nat) (a1 : Int32) (a2 : Int32) (a3 : Int32) (τ : St), Ru M_H_sieges d Q 40 [some (.ref a0), some (.int a1), some (.int a2), some (.int a3), none, none, none] [] τ = Ru M_H_sieges d Q 41 [some (.ref a0), some (.int a1), some (.int a2), some (.int a3), none, none, none] [.int a1] τ) ∧
    (∀ (a0 : Nat) (a1 : Int32) (a2 : Int32) (a3 : Int32) (x0 : Int32) (τ : St), Ru M_H_sieges d Q 41 [some (.ref a0), some (.int a1), some (.int a2), some (.int a3), none, none, none] [.int x0] τ = Ru M_H_sieges d Q 43 [some (.ref a0), some (.int a1), some (.int a2), some (.int a3), some (.int x0), none, none] [] τ) ∧
    (∀ (a0 : Nat) (a1 : Int32) (a2 : Int32) (a3 : Int32) (a4 : Int32) (τ : St), Ru M_H_sieges d Q 43 [some (.ref a0), some (.int a1), some (.int a2), some (.int a3), some (.int a4), none, none] [] τ = Ru M_H_sieges d Q 44 [some (.ref a0), some (.int a1), some (.int a2), some (.int a3), some (.int a4), none, none] [.int 1] τ) ∧
    (∀ (a0 : Nat) (a1 : Int32) (a2 : Int32) (a3 : Int32) (a4 : Int32) (x0 : Int32) (τ : St), Ru M_H_sieges d Q 44 [some (.ref a0), some (.int a1), some (.int a2), some (.int a3), some (.int a4), none, none] [.int x0] τ = Rs M_H_sieges d Q 46 [some (.ref a0), some (.int a1), some (.int a2), some (.int a3), some (.int a4), some (.int x0), none] [] τ) ∧
    (∀ (a0 : Nat) (a1 : Int32) (a2 : Int32) (a3 : Int32) (a4 : Int32) (a5 : Int32) (a6 : Option Value) (τ : St), Ru M_H_sieges d Q 46 [some (.ref a0), some (.int a1), some (.int a2), some (.int a3), some (.int a4), some (.int a5), a6] [] τ = Ru M_H_sieges d Q 48 [some (.ref a0), some (.int a1), some (.int a2), some (.int a3), some (.int a4), some (.int a5), a6] [.int a5] τ) ∧
    (∀ (a0 : Nat) (a1 : Int32) (a2 : Int32) (a3 : Int32) (a4 : Int32) (a5 : Int32) (a6 : Option Value) (x0 : Int32) (τ : St), Ru M_H_sieges d Q 48 [some (.ref a0), some (.int a1), some (.int a2), some (.int a3), some (.int a4), some (.int a5), a6] [.int x0] τ = Ru M_H_sieges d Q 49 [some (.ref a0), some (.int a1), some (.int a2), some (.int a3), some (.int a4), some (.int a5), a6] [.int a2, .int x0] τ) ∧
    (∀ (a0 : Nat) (a1 : Int32) (a2 : Int32) (a3 : Int32) (a4 : Int32) (a5 : Int32) (a6 : Option Value) (x0 : Int32) (x1 : Int32) (τ : St), Ru M_H_sieges d Q 49 [some (.ref a0), some (.int a1), some (.int a2), some (.int a3), some (.int a4), some (.int a5), a6] [.int x0, .int x1] τ = ((x0 < x1 → Ru M_H_sieges d Q 122 [some (.ref a0), some (.int a1), some (.int a2), some (.int a3), some (.int a4), some (.int a5), a6] [] τ) ∧ (¬ x0 < x1 → Ru M_H_sieges d Q 52 [some (.ref a0), some (.int a1), some (.int a2), some (.int a3), some (.int a4), some (.int a5), a6] [] τ))) ∧
    (∀ (a0 : Nat) (a1 : Int32) (a2 : Int32) (a3 : Int32) (a4 : Int32) (a5 : Int32) (a6 : Option Value) (τ : St), Ru M_H_sieges d Q 52 [some (.ref a0), some (.int a1), some (.int a2), some (.int a3), some (.int a4), some (.int a5), a6] [] τ = Ru M_H_sieges d Q 54 [some (.ref a0), some (.int a1), some (.int a2), some (.int a3), some (.int a4), some (.int a5), a6] [.int a4] τ) ∧
    (∀ (a0 : Nat) (a1 : Int32) (a2 : Int32) (a3 : Int32) (a4 : Int32) (a5 : Int32) (a6 : Option Value) (x0 : Int32) (τ : St), Ru M_H_sieges d Q 54 [some (.ref a0), some (.int a1), some (.int a2), some (.int a3), some (.int a4), some (.int a5), a6] [.int x0] τ = Cl d m_H_drawnBehind [.int x0] τ (fun v τ' => Ru M_H_sieges d Q 57 [some (.ref a0), some (.int a1), some (.int a2), some (.int a3), some (.int a4), some (.int a5), a6] (v.toList ++ []) τ')) ∧
    (∀ (a0 : Nat) (a1 : Int32) (a2 : Int32) (a3 : Int32) (a4 : Int32) (a5 : Int32) (a6 : Option Value) (x0 : Int32) (τ : St), Ru M_H_sieges d Q 57 [some (.ref a0), some (.int a1), some (.int a2), some (.int a3), some (.int a4), some (.int a5), a6] [.int x0] τ = Ru M_H_sieges d Q 59 [some (.ref a0), some (.int a1), some (.int a2), some (.int a3), some (.int x0), some (.int a5), a6] [] τ) ∧
    (∀ (a0 : Nat) (a1 : Int32) (a2 : Int32) (a3 : Int32) (a4 : Int32) (a5 : Int32) (a6 : Option Value) (τ : St), Ru M_H_sieges d Q 59 [some (.ref a0), some (.int a1), some (.int a2), some (.int a3), some (.int a4), some (.int a5), a6] [] τ = Ru M_H_sieges d Q 61 [some (.ref a0), some (.int a1), some (.int a2), some (.int a3), some (.int a4), some (.int a5), a6] [.int a4] τ) ∧
    (∀ (a0 : Nat) (a1 : Int32) (a2 : Int32) (a3 : Int32) (a4 : Int32) (a5 : Int32) (a6 : Option Value) (x0 : Int32) (τ : St), Ru M_H_sieges d Q 61 [some (.ref a0), some (.int a1), some (.int a2), some (.int a3), some (.int a4), some (.int a5), a6] [.int x0] τ = Ru M_H_sieges d Q 62 [some (.ref a0), some (.int a1), some (.int a2), some (.int a3), some (.int a4), some (.int a5), a6] [.ref a0, .int x0] τ) ∧
    (∀ (a0 : Nat) (a1 : Int32) (a2 : Int32) (a3 : Int32) (a4 : Int32) (a5 : Int32) (a6 : Option Value) (x0 : Nat) (x1 : Int32) (τ : St), Ru M_H_sieges d Q 62 [some (.ref a0), some (.int a1), some (.int a2), some (.int a3), some (.int a4), some (.int a5), a6] [.ref x0, .int x1] τ = (isA 11 x0 ∧ Ru M_H_sieges d Q 65 [some (.ref a0), some (.int a1), some (.int a2), some (.int a3), some (.int a4), some (.int a5), a6] [.ref (rtab x0 3), .int x1] τ)) ∧
    (∀ (a0 : Nat) (a1 : Int32) (a2 : Int32) (a3 : Int32) (a4 : Int32) (a5 : Int32) (a6 : Option Value) (x0 : Nat) (x1 : Int32) (τ : St), Ru M_H_sieges d Q 65 [some (.ref a0), some (.int a1), some (.int a2), some (.int a3), some (.int a4), some (.int a5), a6] [.ref x0, .int x1] τ = (isA 1 x0 ∧ Ru M_H_sieges d Q 68 [some (.ref a0), some (.int a1), some (.int a2), some (.int a3), some (.int a4), some (.int a5), a6] [.int (τ.1 x0 1), .int x1] τ)) ∧
    (∀ (a0 : Nat) (a1 : Int32) (a2 : Int32) (a3 : Int32) (a4 : Int32) (a5 : Int32) (a6 : Option Value) (x0 : Int32) (x1 : Int32) (τ : St), Ru M_H_sieges d Q 68 [some (.ref a0), some (.int a1), some (.int a2), some (.int a3), some (.int a4), some (.int a5), a6] [.int x0, .int x1] τ = Cl d m_H_drawOf [.int x1, .int x0] τ (fun v τ' => Ru M_H_sieges d Q 71 [some (.ref a0), some (.int a1), some (.int a2), some (.int a3), some (.int a4), some (.int a5), a6] (v.toList ++ []) τ')) ∧
    (∀ (a0 : Nat) (a1 : Int32) (a2 : Int32) (a3 : Int32) (a4 : Int32) (a5 : Int32) (a6 : Option Value) (x0 : Int32) (τ : St), Ru M_H_sieges d Q 71 [some (.ref a0), some (.int a1), some (.int a2), some (.int a3), some (.int a4), some (.int a5), a6] [.int x0] τ = Ru M_H_sieges d Q 73 [some (.ref a0), some (.int a1), some (.int a2), some (.int a3), some (.int a4), some (.int a5), some (.int x0)] [] τ) ∧
    (∀ (a0 : Nat) (a1 : Int32) (a2 : Int32) (a3 : Int32) (a4 : Int32) (a5 : Int32) (a6 : Int32) (τ : St), Ru M_H_sieges d Q 73 [some (.ref a0), some (.int a1), some (.int a2), some (.int a3), some (.int a4), some (.int a5), some (.int a6)] [] τ = Ru M_H_sieges d Q 75 [some (.ref a0), some (.int a1), some (.int a2), some (.int a3), some (.int a4), some (.int a5), some (.int a6)] [.int a4] τ) ∧
    (∀ (a0 : Nat) (a1 : Int32) (a2 : Int32) (a3 : Int32) (a4 : Int32) (a5 : Int32) (a6 : Int32) (x0 : Int32) (τ : St), Ru M_H_sieges d Q 75 [some (.ref a0), some (.int a1), some (.int a2), some (.int a3), some (.int a4), some (.int a5), some (.int a6)] [.int x0] τ = Cl d m_H_drawnBehind [.int x0] τ (fun v τ' => Ru M_H_sieges d Q 78 [some (.ref a0), some (.int a1), some (.int a2), some (.int a3), some (.int a4), some (.int a5), some (.int a6)] (v.toList ++ []) τ')) ∧
    (∀ (a0 : Nat) (a1 : Int32) (a2 : Int32) (a3 : Int32) (a4 : Int32) (a5 : Int32) (a6 : Int32) (x0 : Int32) (τ : St), Ru M_H_sieges d Q 78 [some (.ref a0), some (.int a1), some (.int a2), some (.int a3), some (.int a4), some (.int a5), some (.int a6)] [.int x0] τ = Ru M_H_sieges d Q 80 [some (.ref a0), some (.int a1), some (.int a2), some (.int a3), some (.int x0), some (.int a5), some (.int a6)] [] τ) ∧
    (∀ (a0 : Nat) (a1 : Int32) (a2 : Int32) (a3 : Int32) (a4 : Int32) (a5 : Int32) (a6 : Int32) (τ : St), Ru M_H_sieges d Q 80 [some (.ref a0), some (.int a1), some (.int a2), some (.int a3), some (.int a4), some (.int a5), some (.int a6)] [] τ = Ru M_H_sieges d Q 81 [some (.ref a0), some (.int a1), some (.int a2), some (.int a3), some (.int a4), some (.int a5), some (.int a6)] [.ref a0] τ) ∧
    (∀ (a0 : Nat) (a1 : Int32) (a2 : Int32) (a3 : Int32) (a4 : Int32) (a5 : Int32) (a6 : Int32) (x0 : Nat) (τ : St), Ru M_H_sieges d Q 81 [some (.ref a0), some (.int a1), some (.int a2), some (.int a3), some (.int a4), some (.int a5), some (.int a6)] [.ref x0] τ = Ru M_H_sieges d Q 83 [some (.ref a0), some (.int a1), some (.int a2), some (.int a3), some (.int a4), some (.int a5), some (.int a6)] [.int a6, .ref x0] τ) ∧
    (∀ (a0 : Nat) (a1 : Int32) (a2 : Int32) (a3 : Int32) (a4 : Int32) (a5 : Int32) (a6 : Int32) (x0 : Int32) (x1 : Nat) (τ : St), Ru M_H_sieges d Q 83 [some (.ref a0), some (.int a1), some (.int a2), some (.int a3), some (.int a4), some (.int a5), some (.int a6)] [.int x0, .ref x1] τ = Ru M_H_sieges d Q 85 [some (.ref a0), some (.int a1), some (.int a2), some (.int a3), some (.int a4), some (.int a5), some (.int a6)] [.int a4, .int x0, .ref x1] τ) ∧
    (∀ (a0 : Nat) (a1 : Int32) (a2 : Int32) (a3 : Int32) (a4 : Int32) (a5 : Int32) (a6 : Int32) (x0 : Int32) (x1 : Int32) (x2 : Nat) (τ : St), Ru M_H_sieges d Q 85 [some (.ref a0), some (.int a1), some (.int a2), some (.int a3), some (.int a4), some (.int a5), some (.int a6)] [.int x0, .int x1, .ref x2] τ = Ru M_H_sieges d Q 86 [some (.ref a0), some (.int a1), some (.int a2), some (.int a3), some (.int a4), some (.int a5), some (.int a6)] [.int 4, .int x0, .int x1, .ref x2] τ) ∧
    (∀ (a0 : Nat) (a1 : Int32) (a2 : Int32) (a3 : Int32) (a4 : Int32) (a5 : Int32) (a6 : Int32) (x0 : Int32) (x1 : Int32) (x2 : Int32) (x3 : Nat) (τ : St), Ru M_H_sieges d Q 86 [some (.ref a0), some (.int a1), some (.int a2), some (.int a3), some (.int a4), some (.int a5), some (.int a6)] [.int x0, .int x1, .int x2, .ref x3] τ = Cl d m_H_drawOf [.int x1, .int x0] τ (fun v τ' => Ru M_H_sieges d Q 89 [some (.ref a0), some (.int a1), some (.int a2), some (.int a3), some (.int a4), some (.int a5), some (.int a6)] (v.toList ++ [.int x2, .ref x3]) τ')) ∧
    (∀ (a0 : Nat) (a1 : Int32) (a2 : Int32) (a3 : Int32) (a4 : Int32) (a5 : Int32) (a6 : Int32) (x0 : Int32) (x1 : Int32) (x2 : Nat) (τ : St), Ru M_H_sieges d Q 89 [some (.ref a0), some (.int a1), some (.int a2), some (.int a3), some (.int a4), some (.int a5), some (.int a6)] [.int x0, .int x1, .ref x2] τ = (isA 11 x2 ∧ Cl d m_H_dragShip [.ref x2, .int x1, .int x0] τ (fun v τ' => Ru M_H_sieges d Q 92 [some (.ref a0), some (.int a1), some (.int a2), some (.int a3), some (.int a4), some (.int a5), some (.int a6)] (v.toList ++ []) τ'))) ∧
    (∀ (a0 : Nat) (a1 : Int32) (a2 : Int32) (a3 : Int32) (a4 : Int32) (a5 : Int32) (a6 : Int32) (x0 : Int32) (τ : St), Ru M_H_sieges d Q 92 [some (.ref a0), some (.int a1), some (.int a2), some (.int a3), some (.int a4), some (.int a5), some (.int a6)] [.int x0] τ = ((x0 < 0 → Ru M_H_sieges d Q 98 [some (.ref a0), some (.int a1), some (.int a2), some (.int a3), some (.int a4), some (.int a5), some (.int a6)] [] τ) ∧ (¬ x0 < 0 → Ru M_H_sieges d Q 95 [some (.ref a0), some (.int a1), some (.int a2), some (.int a3), some (.int a4), some (.int a5), some (.int a6)] [] τ))) ∧
    (∀ (a0 : Nat) (a1 : Int32) (a2 : Int32) (a3 : Int32) (a4 : Int32) (a5 : Int32) (a6 : Int32) (τ : St), Ru M_H_sieges d Q 95 [some (.ref a0), some (.int a1), some (.int a2), some (.int a3), some (.int a4), some (.int a5), some (.int a6)] [] τ = Ru M_H_sieges d Q 98 [some (.ref a0), some (.int a1), some (.int a2), some (.int (a3 + 1)), some (.int a4), some (.int a5), some (.int a6)] [] τ) ∧
    (∀ (a0 : Nat) (a1 : Int32) (a2 : Int32) (a3 : Int32) (a4 : Int32) (a5 : Int32) (a6 : Int32) (τ : St), Ru M_H_sieges d Q 98 [some (.ref a0), some (.int a1), some (.int a2), some (.int a3), some (.int a4), some (.int a5), some (.int a6)] [] τ = Ru M_H_sieges d Q 100 [some (.ref a0), some (.int a1), some (.int a2), some (.int a3), some (.int a4), some (.int a5), some (.int a6)] [.int a5] τ) ∧
    (∀ (a0 : Nat) (a1 : Int32) (a2 : Int32) (a3 : Int32) (a4 : Int32) (a5 : Int32) (a6 : Int32) (x0 : Int32) (τ : St), Ru M_H_sieges d Q 100 [some (.ref a0), some (.int a1), some (.int a2), some (.int a3), some (.int a4), some (.int a5), some (.int a6)] [.int x0] τ = Ru M_H_sieges d Q 101 [some (.ref a0), some (.int a1), some (.int a2), some (.int a3), some (.int a4), some (.int a5), some (.int a6)] [.int 3, .int x0] τ) ∧
    (∀ (a0 : Nat) (a1 : Int32) (a2 : Int32) (a3 : Int32) (a4 : Int32) (a5 : Int32) (a6 : Int32) (x0 : Int32) (x1 : Int32) (τ : St), Ru M_H_sieges d Q 101 [some (.ref a0), some (.int a1), some (.int a2), some (.int a3), some (.int a4), some (.int a5), some (.int a6)] [.int x0, .int x1] τ = (¬ x0 = 0 ∧ Ru M_H_sieges d Q 102 [some (.ref a0), some (.int a1), some (.int a2), some (.int a3), some (.int a4), some (.int a5), some (.int a6)] [.int (x1 - x1 / x0 * x0)] τ)) ∧
    (∀ (a0 : Nat) (a1 : Int32) (a2 : Int32) (a3 : Int32) (a4 : Int32) (a5 : Int32) (a6 : Int32) (x0 : Int32) (τ : St), Ru M_H_sieges d Q 102 [some (.ref a0), some (.int a1), some (.int a2), some (.int a3), some (.int a4), some (.int a5), some (.int a6)] [.int x0] τ = ((¬ x0 = 0 → Ru M_H_sieges d Q 116 [some (.ref a0), some (.int a1), some (.int a2), some (.int a3), some (.int a4), some (.int a5), some (.int a6)] [] τ) ∧ (x0 = 0 → Ru M_H_sieges d Q 105 [some (.ref a0), some (.int a1), some (.int a2), some (.int a3), some (.int a4), some (.int a5), some (.int a6)] [] τ))) ∧
    (∀ (a0 : Nat) (a1 : Int32) (a2 : Int32) (a3 : Int32) (a4 : Int32) (a5 : Int32) (a6 : Int32) (τ : St), Ru M_H_sieges d Q 105 [some (.ref a0), some (.int a1), some (.int a2), some (.int a3), some (.int a4), some (.int a5), some (.int a6)] [] τ = Ru M_H_sieges d Q 106 [some (.ref a0), some (.int a1), some (.int a2), some (.int a3), some (.int a4), some (.int a5), some (.int a6)] [.ref a0] τ) ∧
    (∀ (a0 : Nat) (a1 : Int32) (a2 : Int32) (a3 : Int32) (a4 : Int32) (a5 : Int32) (a6 : Int32) (x0 : Nat) (τ : St), Ru M_H_sieges d Q 106 [some (.ref a0), some (.int a1), some (.int a2), some (.int a3), some (.int a4), some (.int a5), some (.int a6)] [.ref x0] τ = (isA 11 x0 ∧ Ru M_H_sieges d Q 109 [some (.ref a0), some (.int a1), some (.int a2), some (.int a3), some (.int a4), some (.int a5), some (.int a6)] [.ref (rtab x0 3)] τ)) ∧
    (∀ (a0 : Nat) (a1 : Int32) (a2 : Int32) (a3 : Int32) (a4 : Int32) (a5 : Int32) (a6 : Int32) (x0 : Nat) (τ : St), Ru M_H_sieges d Q 109 [some (.ref a0), some (.int a1), some (.int a2), some (.int a3), some (.int a4), some (.int a5), some (.int a6)] [.ref x0] τ = Ru M_H_sieges d Q 110 [some (.ref a0), some (.int a1), some (.int a2), some (.int a3), some (.int a4), some (.int a5), some (.int a6)] [.ref a0, .ref x0] τ) ∧
    (∀ (a0 : Nat) (a1 : Int32) (a2 : Int32) (a3 : Int32) (a4 : Int32) (a5 : Int32) (a6 : Int32) (x0 : Nat) (x1 : Nat) (τ : St), Ru M_H_sieges d Q 110 [some (.ref a0), some (.int a1), some (.int a2), some (.int a3), some (.int a4), some (.int a5), some (.int a6)] [.ref x0, .ref x1] τ = (isA 11 x0 ∧ Ru M_H_sieges d Q 113 [some (.ref a0), some (.int a1), some (.int a2), some (.int a3), some (.int a4), some (.int a5), some (.int a6)] [.int (τ.1 x0 9), .ref x1] τ)) ∧
    (∀ (a0 : Nat) (a1 : Int32) (a2 : Int32) (a3 : Int32) (a4 : Int32) (a5 : Int32) (a6 : Int32) (x0 : Int32) (x1 : Nat) (τ : St), Ru M_H_sieges d Q 113 [some (.ref a0), some (.int a1), some (.int a2), some (.int a3), some (.int a4), some (.int a5), some (.int a6)] [.int x0, .ref x1] τ = (isA 1 x1 ∧ Cl d m_Moment_letHourPass [.ref x1, .int x0] τ (fun v τ' => Ru M_H_sieges d Q 116 [some (.ref a0), some (.int a1), some (.int a2), some (.int a3), some (.int a4), some (.int a5), some (.int a6)] (v.toList ++ []) τ'))) ∧
    (∀ (a0 : Nat) (a1 : Int32) (a2 : Int32) (a3 : Int32) (a4 : Int32) (a5 : Int32) (a6 : Int32) (τ : St), Ru M_H_sieges d Q 116 [some (.ref a0), some (.int a1), some (.int a2), some (.int a3), some (.int a4), some (.int a5), some (.int a6)] [] τ = Ru M_H_sieges d Q 119 [some (.ref a0), some (.int a1), some (.int a2), some (.int a3), some (.int a4), some (.int (a5 + 1)), some (.int a6)] [] τ) ∧
    (∀ (a0 : Nat) (a1 : Int32) (a2 : Int32) (a3 : Int32) (a4 : Int32) (a5 : Int32) (a6 : Int32) (τ : St), Ru M_H_sieges d Q 119 [some (.ref a0), some (.int a1), some (.int a2), some (.int a3), some (.int a4), some (.int a5), some (.int a6)] [] τ = Rs M_H_sieges d Q 46 [some (.ref a0), some (.int a1), some (.int a2), some (.int a3), some (.int a4), some (.int a5), some (.int a6)] [] τ) ∧
    (∀ (a0 : Nat) (a1 : Int32) (a2 : Int32) (a3 : Int32) (a4 : Int32) (a5 : Int32) (a6 : Option Value) (τ : St), Ru M_H_sieges d Q 122 [some (.ref a0), some (.int a1), some (.int a2), some (.int a3), some (.int a4), some (.int a5), a6] [] τ = Ru M_H_sieges d Q 123 [some (.ref a0), some (.int a1), some (.int a2), some (.int a3), some (.int a4), some (.int a5), a6] [.ref a0] τ) ∧
    (∀ (a0 : Nat) (a1 : Int32) (a2 : Int32) (a3 : Int32) (a4 : Int32) (a5 : Int32) (a6 : Option Value) (x0 : Nat) (τ : St), Ru M_H_sieges d Q 123 [some (.ref a0), some (.int a1), some (.int a2), some (.int a3), some (.int a4), some (.int a5), a6] [.ref x0] τ = (isA 11 x0 ∧ Ru M_H_sieges d Q 126 [some (.ref a0), some (.int a1), some (.int a2), some (.int a3), some (.int a4), some (.int a5), a6] [.ref (rtab x0 1)] τ)) ∧
    (∀ (a0 : Nat) (a1 : Int32) (a2 : Int32) (a3 : Int32) (a4 : Int32) (a5 : Int32) (a6 : Option Value) (x0 : Nat) (τ : St), Ru M_H_sieges d Q 126 [some (.ref a0), some (.int a1), some (.int a2), some (.int a3), some (.int a4), some (.int a5), a6] [.ref x0] τ = Ru M_H_sieges d Q 127 [some (.ref a0), some (.int a1), some (.int a2), some (.int a3), some (.int a4), some (.int a5), a6] [.ref a0, .ref x0] τ) ∧
    (∀ (a0 : Nat) (a1 : Int32) (a2 : Int32) (a3 : Int32) (a4 : Int32) (a5 : Int32) (a6 : Option Value) (x0 : Nat) (x1 : Nat) (τ : St), Ru M_H_sieges d Q 127 [some (.ref a0), some (.int a1), some (.int a2), some (.int a3), some (.int a4), some (.int a5), a6] [.ref x0, .ref x1] τ = (isA 11 x0 ∧ Cl d m_H_shipsOver [.ref x0] τ (fun v τ' => Ru M_H_sieges d Q 130 [some (.ref a0), some (.int a1), some (.int a2), some (.int a3), some (.int a4), some (.int a5), a6] (v.toList ++ [.ref x1]) τ'))) ∧
    (∀ (a0 : Nat) (a1 : Int32) (a2 : Int32) (a3 : Int32) (a4 : Int32) (a5 : Int32) (a6 : Option Value) (x0 : Int32) (x1 : Nat) (τ : St), Ru M_H_sieges d Q 130 [some (.ref a0), some (.int a1), some (.int a2), some (.int a3), some (.int a4), some (.int a5), a6] [.int x0, .ref x1] τ = Cl d m_bitsI [.int x0] τ (fun v τ' => Ru M_H_sieges d Q 133 [some (.ref a0), some (.int a1), some (.int a2), some (.int a3), some (.int a4), some (.int a5), a6] (v.toList ++ [.ref x1]) τ')) ∧
    (∀ (a0 : Nat) (a1 : Int32) (a2 : Int32) (a3 : Int32) (a4 : Int32) (a5 : Int32) (a6 : Option Value) (x0 : Int32) (x1 : Nat) (τ : St), Ru M_H_sieges d Q 133 [some (.ref a0), some (.int a1), some (.int a2), some (.int a3), some (.int a4), some (.int a5), a6] [.int x0, .ref x1] τ = Ru M_H_sieges d Q 134 [some (.ref a0), some (.int a1), some (.int a2), some (.int a3), some (.int a4), some (.int a5), a6] [.long x0.toInt64, .ref x1] τ) ∧
    (∀ (a0 : Nat) (a1 : Int32) (a2 : Int32) (a3 : Int32) (a4 : Int32) (a5 : Int32) (a6 : Option Value) (x0 : Int64) (x1 : Nat) (τ : St), Ru M_H_sieges d Q 134 [some (.ref a0), some (.int a1), some (.int a2), some (.int a3), some (.int a4), some (.int a5), a6] [.long x0, .ref x1] τ = Ru M_H_sieges d Q 135 [some (.ref a0), some (.int a1), some (.int a2), some (.int a3), some (.int a4), some (.int a5), a6] [.ref a0, .long x0, .ref x1] τ) ∧
    (∀ (a0 : Nat) (a1 : Int32) (a2 : Int32) (a3 : Int32) (a4 : Int32) (a5 : Int32) (a6 : Option Value) (x0 : Nat) (x1 : Int64) (x2 : Nat) (τ : St), Ru M_H_sieges d Q 135 [some (.ref a0), some (.int a1), some (.int a2), some (.int a3), some (.int a4), some (.int a5), a6] [.ref x0, .long x1, .ref x2] τ = (isA 11 x0 ∧ Ru M_H_sieges d Q 138 [some (.ref a0), some (.int a1), some (.int a2), some (.int a3), some (.int a4), some (.int a5), a6] [.ref (rtab x0 3), .long x1, .ref x2] τ)) ∧
    (∀ (a0 : Nat) (a1 : Int32) (a2 : Int32) (a3 : Int32) (a4 : Int32) (a5 : Int32) (a6 : Option Value) (x0 : Nat) (x1 : Int64) (x2 : Nat) (τ : St), Ru M_H_sieges d Q 138 [some (.ref a0), some (.int a1), some (.int a2), some (.int a3), some (.int a4), some (.int a5), a6] [.ref x0, .long x1, .ref x2] τ = (isA 1 x0 ∧ Ru M_H_sieges d Q 141 [some (.ref a0), some (.int a1), some (.int a2), some (.int a3), some (.int a4), some (.int a5), a6] [.int (τ.1 x0 8), .long x1, .ref x2] τ)) ∧
    (∀ (a0 : Nat) (a1 : Int32) (a2 : Int32) (a3 : Int32) (a4 : Int32) (a5 : Int32) (a6 : Option Value) (x0 : Int32) (x1 : Int64) (x2 : Nat) (τ : St), Ru M_H_sieges d Q 141 [some (.ref a0), some (.int a1), some (.int a2), some (.int a3), some (.int a4), some (.int a5), a6] [.int x0, .long x1, .ref x2] τ = Ru M_H_sieges d Q 142 [some (.ref a0), some (.int a1), some (.int a2), some (.int a3), some (.int a4), some (.int a5), a6] [.ref a0, .int x0, .long x1, .ref x2] τ) ∧
    (∀ (a0 : Nat) (a1 : Int32) (a2 : Int32) (a3 : Int32) (a4 : Int32) (a5 : Int32) (a6 : Option Value) (x0 : Nat) (x1 : Int32) (x2 : Int64) (x3 : Nat) (τ : St), Ru M_H_sieges d Q 142 [some (.ref a0), some (.int a1), some (.int a2), some (.int a3), some (.int a4), some (.int a5), a6] [.ref x0, .int x1, .long x2, .ref x3] τ = (isA 11 x0 ∧ Ru M_H_sieges d Q 145 [some (.ref a0), some (.int a1), some (.int a2), some (.int a3), some (.int a4), some (.int a5), a6] [.ref (rtab x0 4), .int x1, .long x2, .ref x3] τ)) ∧
    (∀ (a0 : Nat) (a1 : Int32) (a2 : Int32) (a3 : Int32) (a4 : Int32) (a5 : Int32) (a6 : Option Value) (x0 : Nat) (x1 : Int32) (x2 : Int64) (x3 : Nat) (τ : St), Ru M_H_sieges d Q 145 [some (.ref a0), some (.int a1), some (.int a2), some (.int a3), some (.int a4), some (.int a5), a6] [.ref x0, .int x1, .long x2, .ref x3] τ = (isA 1 x0 ∧ Ru M_H_sieges d Q 148 [some (.ref a0), some (.int a1), some (.int a2), some (.int a3), some (.int a4), some (.int a5), a6] [.int (τ.1 x0 8), .int x1, .long x2, .ref x3] τ)) ∧
    (∀ (a0 : Nat) (a1 : Int32) (a2 : Int32) (a3 : Int32) (a4 : Int32) (a5 : Int32) (a6 : Option Value) (x0 : Int32) (x1 : Int32) (x2 : Int64) (x3 : Nat) (τ : St), Ru M_H_sieges d Q 148 [some (.ref a0), some (.int a1), some (.int a2), some (.int a3), some (.int a4), some (.int a5), a6] [.int x0, .int x1, .long x2, .ref x3] τ = Ru M_H_sieges d Q 149 [some (.ref a0), some (.int a1), some (.int a2), some (.int a3), some (.int a4), some (.int a5), a6] [.int (x1 - x0), .long x2, .ref x3] τ) ∧
    (∀ (a0 : Nat) (a1 : Int32) (a2 : Int32) (a3 : Int32) (a4 : Int32) (a5 : Int32) (a6 : Option Value) (x0 : Int32) (x1 : Int64) (x2 : Nat) (τ : St), Ru M_H_sieges d Q 149 [some (.ref a0), some (.int a1), some (.int a2), some (.int a3), some (.int a4), some (.int a5), a6] [.int x0, .long x1, .ref x2] τ = Ru M_H_sieges d Q 150 [some (.ref a0), some (.int a1), some (.int a2), some (.int a3), some (.int a4), some (.int a5), a6] [.long x0.toInt64, .long x1, .ref x2] τ) ∧
    (∀ (a0 : Nat) (a1 : Int32) (a2 : Int32) (a3 : Int32) (a4 : Int32) (a5 : Int32) (a6 : Option Value) (x0 : Int64) (x1 : Int64) (x2 : Nat) (τ : St), Ru M_H_sieges d Q 150 [some (.ref a0), some (.int a1), some (.int a2), some (.int a3), some (.int a4), some (.int a5), a6] [.long x0, .long x1, .ref x2] τ = (isA 4 x2 ∧ Cl d m_Row_both [.ref x2, .long x1, .long x0] τ (fun v τ' => Ru M_H_sieges d Q 153 [some (.ref a0), some (.int a1), some (.int a2), some (.int a3), some (.int a4), some (.int a5), a6] (v.toList ++ []) τ'))) ∧
    (∀ (a0 : Nat) (a1 : Int32) (a2 : Int32) (a3 : Int32) (a4 : Int32) (a5 : Int32) (a6 : Option Value) (τ : St), Ru M_H_sieges d Q 153 [some (.ref a0), some (.int a1), some (.int a2), some (.int a3), some (.int a4), some (.int a5), a6] [] τ = Ru M_H_sieges d Q 154 [some (.ref a0), some (.int a1), some (.int a2), some (.int a3), some (.int a4), some (.int a5), a6] [.ref a0] τ) ∧
    (∀ (a0 : Nat) (a1 : Int32) (a2 : Int32) (a3 : Int32) (a4 : Int32) (a5 : Int32) (a6 : Option Value) (x0 : Nat) (τ : St), Ru M_H_sieges d Q 154 [some (.ref a0), some (.int a1), some (.int a2), some (.int a3), some (.int a4), some (.int a5), a6] [.ref x0] τ = (isA 11 x0 ∧ Ru M_H_sieges d Q 157 [some (.ref a0), some (.int a1), some (.int a2), some (.int a3), some (.int a4), some (.int a5), a6] [.ref (rtab x0 3)] τ)) ∧
    (∀ (a0 : Nat) (a1 : Int32) (a2 : Int32) (a3 : Int32) (a4 : Int32) (a5 : Int32) (a6 : Option Value) (x0 : Nat) (τ : St), Ru M_H_sieges d Q 157 [some (.ref a0), some (.int a1), some (.int a2), some (.int a3), some (.int a4), some (.int a5), a6] [.ref x0] τ = Ru M_H_sieges d Q 158 [some (.ref a0), some (.int a1), some (.int a2), some (.int a3), some (.int a4), some (.int a5), a6] [.ref a0, .ref x0] τ) ∧
    (∀ (a0 : Nat) (a1 : Int32) (a2 : Int32) (a3 : Int32) (a4 : Int32) (a5 : Int32) (a6 : Option Value) (x0 : Nat) (x1 : Nat) (τ : St), Ru M_H_sieges d Q 158 [some (.ref a0), some (.int a1), some (.int a2), some (.int a3), some (.int a4), some (.int a5), a6] [.ref x0, .ref x1] τ = (isA 11 x0 ∧ Ru M_H_sieges d Q 161 [some (.ref a0), some (.int a1), some (.int a2), some (.int a3), some (.int a4), some (.int a5), a6] [.ref (rtab x0 4), .ref x1] τ)) ∧
    (∀ (a0 : Nat) (a1 : Int32) (a2 : Int32) (a3 : Int32) (a4 : Int32) (a5 : Int32) (a6 : Option Value) (x0 : Nat) (x1 : Nat) (τ : St), Ru M_H_sieges d Q 161 [some (.ref a0), some (.int a1), some (.int a2), some (.int a3), some (.int a4), some (.int a5), a6] [.ref x0, .ref x1] τ = (isA 1 x1 ∧ Cl d m_Moment_copy [.ref x1, .ref x0] τ (fun v τ' => Ru M_H_sieges d Q 164 [some (.ref a0), some (.int a1), some (.int a2), some (.int a3), some (.int a4), some (.int a5), a6] (v.toList ++ []) τ'))) ∧
    (∀ (a0 : Nat) (a1 : Int32) (a2 : Int32) (a3 : Int32) (a4 : Int32) (a5 : Int32) (a6 : Option Value) (τ : St), Ru M_H_sieges d Q 164 [some (.ref a0), some (.int a1), some (.int a2), some (.int a3), some (.int a4), some (.int a5), a6] [] τ = Ru M_H_sieges d Q 165 [some (.ref a0), some (.int a1), some (.int a2), some (.int a3), some (.int a4), some (.int a5), a6] [.int a3] τ) ∧
    (∀ (a0 : Nat) (a1 : Int32) (a2 : Int32) (a3 : Int32) (a4 : Int32) (a5 : Int32) (a6 : Option Value) (x0 : Int32) (τ : St), Ru M_H_sieges d Q 165 [some (.ref a0), some (.int a1), some (.int a2), some (.int a3), some (.int a4), some (.int a5), a6] [.int x0] τ = Q (some (.int x0)) τ) := ⟨
  fun _ _ _ _ => (R_at ok_H_sieges rfl).trans (e_ald rfl),
  fun _ _ _ _ _ => (R_at ok_H_sieges rfl).trans e_gR,
  fun _ _ _ _ _ => (R_at ok_H_sieges rfl).trans e_gI,
  fun _ _ _ _ _ => (R_at ok_H_sieges rfl).trans e_push,
  fun _ _ _ _ _ _ => (R_at ok_H_sieges rfl).trans e_ic,
  fun _ _ _ _ => (R_at ok_H_sieges rfl).trans e_push,
  fun _ _ _ _ _ => (R_at ok_H_sieges rfl).trans e_iret,
  fun _ _ _ _ => (R_at ok_H_sieges rfl).trans (e_ild rfl),
  fun _ _ _ _ _ => (R_at ok_H_sieges rfl).trans e_push,
  fun _ _ _ _ _ _ => (R_at ok_H_sieges rfl).trans e_ic,
  fun _ _ _ _ => (R_at ok_H_sieges rfl).trans (e_ild rfl),
  fun _ _ _ _ _ => (R_at ok_H_sieges rfl).trans e_push,
  fun _ _ _ _ _ _ => (R_at ok_H_sieges rfl).trans e_ic,
  fun _ _ _ _ => (R_at ok_H_sieges rfl).trans e_push,
  fun _ _ _ _ _ => (R_at ok_H_sieges rfl).trans e_iret,
  fun _ _ _ _ => (R_at ok_H_sieges rfl).trans (e_ald rfl),
  fun _ _ _ _ _ => (R_at ok_H_sieges rfl).trans e_gR,
  fun _ _ _ _ _ => (R_at ok_H_sieges rfl).trans (e_ald rfl),
  fun _ _ _ _ _ _ => (R_at ok_H_sieges rfl).trans e_gR,
  fun _ _ _ x0 _ _ => (R_at ok_H_sieges rfl).trans (e_cv [.ref x0] rfl rfl rfl),
  fun _ _ _ _ => (R_at ok_H_sieges rfl).trans e_push,
  fun _ _ _ _ _ => (R_at ok_H_sieges rfl).trans e_ist,
  fun _ _ _ _ _ => (R_at ok_H_sieges rfl).trans (e_ild rfl),
  fun _ _ _ _ _ _ => (R_at ok_H_sieges rfl).trans e_ist,
  fun _ _ _ _ _ _ => (R_at ok_H_sieges rfl).trans e_push,
  fun _ _ _ _ _ _ _ => (R_at ok_H_sieges rfl).trans e_ist,
  fun _ _ _ _ _ _ _ _ => (R_at ok_H_sieges rfl).trans (e_ild rfl),
  fun _ _ _ _ _ _ _ _ _ => (R_at ok_H_sieges rfl).trans (e_ild rfl),
  fun _ _ _ _ _ _ _ _ _ _ => (R_at ok_H_sieges rfl).trans e_ic,
  fun _ _ _ _ _ _ _ _ => (R_at ok_H_sieges rfl).trans (e_ild rfl),
  fun _ _ _ _ _ _ _ x0 _ => (R_at ok_H_sieges rfl).trans (e_cs [.int x0] rfl rfl rfl),
  fun _ _ _ _ _ _ _ _ _ => (R_at ok_H_sieges rfl).trans e_ist,
  fun _ _ _ _ _ _ _ _ => (R_at ok_H_sieges rfl).trans (e_ild rfl),
  fun _ _ _ _ _ _ _ _ _ => (R_at ok_H_sieges rfl).trans (e_ald rfl),
  fun _ _ _ _ _ _ _ _ _ _ => (R_at ok_H_sieges rfl).trans e_gR,
  fun _ _ _ _ _ _ _ _ _ _ => (R_at ok_H_sieges rfl).trans e_gI,
  fun _ _ _ _ _ _ _ x0 x1 _ => (R_at ok_H_sieges rfl).trans (e_cs [.int x1, .int x0] rfl rfl rfl),
  fun _ _ _ _ _ _ _ _ _ => (R_at ok_H_sieges rfl).trans e_ist,
  fun _ _ _ _ _ _ _ _ => (R_at ok_H_sieges rfl).trans (e_ild rfl),
  fun _ _ _ _ _ _ _ x0 _ => (R_at ok_H_sieges rfl).trans (e_cs [.int x0] rfl rfl rfl),
  fun _ _ _ _ _ _ _ _ _ => (R_at ok_H_sieges rfl).trans e_ist,
  fun _ _ _ _ _ _ _ _ => (R_at ok_H_sieges rfl).trans (e_ald rfl),
  fun _ _ _ _ _ _ _ _ _ => (R_at ok_H_sieges rfl).trans (e_ild rfl),
  fun _ _ _ _ _ _ _ _ _ _ => (R_at ok_H_sieges rfl).trans (e_ild rfl),
  fun _ _ _ _ _ _ _ _ _ _ _ => (R_at ok_H_sieges rfl).trans e_push,
  fun _ _ _ _ _ _ _ x0 x1 _ _ _ => (R_at ok_H_sieges rfl).trans (e_cs [.int x1, .int x0] rfl rfl rfl),
  fun _ _ _ _ _ _ _ x0 x1 _ _ => (R_at ok_H_sieges rfl).trans (e_cv [.int x1, .int x0] rfl rfl rfl),
  fun _ _ _ _ _ _ _ _ _ => (R_at ok_H_sieges rfl).trans e_if,
  fun _ _ _ _ _ _ _ _ => (R_at ok_H_sieges rfl).trans (e_iinc rfl),
  fun _ _ _ _ _ _ _ _ => (R_at ok_H_sieges rfl).trans (e_ild rfl),
  fun _ _ _ _ _ _ _ _ _ => (R_at ok_H_sieges rfl).trans e_push,
  fun _ _ _ _ _ _ _ _ _ _ => (R_at ok_H_sieges rfl).trans e_binz,
  fun _ _ _ _ _ _ _ _ _ => (R_at ok_H_sieges rfl).trans e_ifn,
  fun _ _ _ _ _ _ _ _ => (R_at ok_H_sieges rfl).trans (e_ald rfl),
  fun _ _ _ _ _ _ _ _ _ => (R_at ok_H_sieges rfl).trans e_gR,
  fun _ _ _ _ _ _ _ _ _ => (R_at ok_H_sieges rfl).trans (e_ald rfl),
  fun _ _ _ _ _ _ _ _ _ _ => (R_at ok_H_sieges rfl).trans e_gI,
  fun _ _ _ _ _ _ _ x0 _ _ => (R_at ok_H_sieges rfl).trans (e_cv [.int x0] rfl rfl rfl),
  fun _ _ _ _ _ _ _ _ => (R_at ok_H_sieges rfl).trans (e_iinc rfl),
  fun _ _ _ _ _ _ _ _ => (R_at ok_H_sieges rfl).trans e_goto,
  fun _ _ _ _ _ _ _ _ => (R_at ok_H_sieges rfl).trans (e_ald rfl),
  fun _ _ _ _ _ _ _ _ _ => (R_at ok_H_sieges rfl).trans e_gR,
  fun _ _ _ _ _ _ _ _ _ => (R_at ok_H_sieges rfl).trans (e_ald rfl),
  fun _ _ _ _ _ _ _ _ _ _ => (R_at ok_H_sieges rfl).trans (e_cv [] rfl rfl rfl),
  fun _ _ _ _ _ _ _ x0 _ _ => (R_at ok_H_sieges rfl).trans (e_cs [.int x0] rfl rfl rfl),
  fun _ _ _ _ _ _ _ _ _ _ => (R_at ok_H_sieges rfl).trans e_il,
  fun _ _ _ _ _ _ _ _ _ _ => (R_at ok_H_sieges rfl).trans (e_ald rfl),
  fun _ _ _ _ _ _ _ _ _ _ _ => (R_at ok_H_sieges rfl).trans e_gR,
  fun _ _ _ _ _ _ _ _ _ _ _ => (R_at ok_H_sieges rfl).trans e_gI,
  fun _ _ _ _ _ _ _ _ _ _ _ => (R_at ok_H_sieges rfl).trans (e_ald rfl),
  fun _ _ _ _ _ _ _ _ _ _ _ _ => (R_at ok_H_sieges rfl).trans e_gR,
  fun _ _ _ _ _ _ _ _ _ _ _ _ => (R_at ok_H_sieges rfl).trans e_gI,
  fun _ _ _ _ _ _ _ _ _ _ _ _ => (R_at ok_H_sieges rfl).trans e_bin,
  fun _ _ _ _ _ _ _ _ _ _ _ => (R_at ok_H_sieges rfl).trans e_il,
  fun _ _ _ _ _ _ _ x0 x1 _ _ => (R_at ok_H_sieges rfl).trans (e_cv [.long x1, .long x0] rfl rfl rfl),
  fun _ _ _ _ _ _ _ _ => (R_at ok_H_sieges rfl).trans (e_ald rfl),
  fun _ _ _ _ _ _ _ _ _ => (R_at ok_H_sieges rfl).trans e_gR,
  fun _ _ _ _ _ _ _ _ _ => (R_at ok_H_sieges rfl).trans (e_ald rfl),
  fun _ _ _ _ _ _ _ _ _ _ => (R_at ok_H_sieges rfl).trans e_gR,
  fun _ _ _ _ _ _ _ x0 _ _ => (R_at ok_H_sieges rfl).trans (e_cv [.ref x0] rfl rfl rfl),
  fun _ _ _ _ _ _ _ _ => (R_at ok_H_sieges rfl).trans (e_ild rfl),
  fun _ _ _ _ _ _ _ _ _ => (R_at ok_H_sieges rfl).trans e_iret⟩
set_option maxHeartbeats 4000000 in
theorem N_H_drawnBehind (d : Nat) (Q : Qt) : ∀ (x0 : Int32) (τ : St), Cl (d + 1) m_H_drawnBehind [.int x0] τ Q = Ru M_H_drawnBehind d Q 0 [some (.int x0)] [] τ := fun _ _ => propext ⟨fun h => h.2, fun h => ⟨Nat.le_of_ble_eq_true rfl, h⟩⟩
set_option maxHeartbeats 4000000 in
theorem E_H_drawnBehind (d : Nat) (Q : Qt) :
    (∀ (a0 : Int32) (τ : St), Ru M_H_drawnBehind d Q 0 [some (.int a0)] [] τ = Ru M_H_drawnBehind d Q 1 [some (.int a0)] [.int a0] τ) ∧
    (∀ (a0 : Int32) (x0 : Int32) (τ : St), Ru M_H_drawnBehind d Q 1 [some (.int a0)] [.int x0] τ = Ru M_H_drawnBehind d Q 4 [some (.int a0)] [.int 1103515245, .int x0] τ) ∧
    (∀ (a0 : Int32) (x0 : Int32) (x1 : Int32) (τ : St), Ru M_H_drawnBehind d Q 4 [some (.int a0)] [.int x0, .int x1] τ = Ru M_H_drawnBehind d Q 5 [some (.int a0)] [.int (x1 * x0)] τ) ∧
    (∀ (a0 : Int32) (x0 : Int32) (τ : St), Ru M_H_drawnBehind d Q 5 [some (.int a0)] [.int x0] τ = Ru M_H_drawnBehind d Q 8 [some (.int a0)] [.int 12345, .int x0] τ) ∧
    (∀ (a0 : Int32) (x0 : Int32) (x1 : Int32) (τ : St), Ru M_H_drawnBehind d Q 8 [some (.int a0)] [.int x0, .int x1] τ = Ru M_H_drawnBehind d Q 9 [some (.int a0)] [.int (x1 + x0)] τ) ∧
    (∀ (a0 : Int32) (x0 : Int32) (τ : St), Ru M_H_drawnBehind d Q 9 [some (.int a0)] [.int x0] τ = Q (some (.int x0)) τ) := ⟨
  fun _ _ => (R_at ok_H_drawnBehind rfl).trans (e_ild rfl),
  fun _ _ _ => (R_at ok_H_drawnBehind rfl).trans e_push,
  fun _ _ _ _ => (R_at ok_H_drawnBehind rfl).trans e_bin,
  fun _ _ _ => (R_at ok_H_drawnBehind rfl).trans e_push,
  fun _ _ _ _ => (R_at ok_H_drawnBehind rfl).trans e_bin,
  fun _ _ _ => (R_at ok_H_drawnBehind rfl).trans e_iret⟩
set_option maxHeartbeats 4000000 in
theorem N_H_drawOf (d : Nat) (Q : Qt) : ∀ (x0 : Int32) (x1 : Int32) (τ : St), Cl (d + 1) m_H_drawOf [.int x0, .int x1] τ Q = Ru M_H_drawOf d Q 0 [some (.int x0), some (.int x1)] [] τ := fun _ _ _ => propext ⟨fun h => h.2, fun h => ⟨Nat.le_of_ble_eq_true rfl, h⟩⟩
set_option maxHeartbeats 4000000 in
theorem E_H_drawOf (d : Nat) (Q : Qt) :
    (∀ (a0 : Int32) (a1 : Int32) (τ : St), Ru M_H_drawOf d Q 0 [some (.int a0), some (.int a1)] [] τ = Ru M_H_drawOf d Q 1 [some (.int a0), some (.int a1)] [.int a1] τ) ∧
    (∀ (a0 : Int32) (a1 : Int32) (x0 : Int32) (τ : St), Ru M_H_drawOf d Q 1 [some (.int a0), some (.int a1)] [.int x0] τ = ((x0 ≤ 0 → Ru M_H_drawOf d Q 13 [some (.int a0), some (.int a1)] [] τ) ∧ (¬ x0 ≤ 0 → Ru M_H_drawOf d Q 4 [some (.int a0), some (.int a1)] [] τ))) ∧
    (∀ (a0 : Int32) (a1 : Int32) (τ : St), Ru M_H_drawOf d Q 4 [some (.int a0), some (.int a1)] [] τ = Ru M_H_drawOf d Q 5 [some (.int a0), some (.int a1)] [.int a0] τ) ∧
    (∀ (a0 : Int32) (a1 : Int32) (x0 : Int32) (τ : St), Ru M_H_drawOf d Q 5 [some (.int a0), some (.int a1)] [.int x0] τ = Ru M_H_drawOf d Q 7 [some (.int a0), some (.int a1)] [.int 16, .int x0] τ) ∧
    (∀ (a0 : Int32) (a1 : Int32) (x0 : Int32) (x1 : Int32) (τ : St), Ru M_H_drawOf d Q 7 [some (.int a0), some (.int a1)] [.int x0, .int x1] τ = Ru M_H_drawOf d Q 8 [some (.int a0), some (.int a1)] [.int ((x1.toUInt32 >>> (x0.toUInt32 &&& Int32.toUInt32 31)).toInt32)] τ) ∧
    (∀ (a0 : Int32) (a1 : Int32) (x0 : Int32) (τ : St), Ru M_H_drawOf d Q 8 [some (.int a0), some (.int a1)] [.int x0] τ = Ru M_H_drawOf d Q 9 [some (.int a0), some (.int a1)] [.int a1, .int x0] τ) ∧
    (∀ (a0 : Int32) (a1 : Int32) (x0 : Int32) (x1 : Int32) (τ : St), Ru M_H_drawOf d Q 9 [some (.int a0), some (.int a1)] [.int x0, .int x1] τ = (¬ x0 = 0 ∧ Ru M_H_drawOf d Q 10 [some (.int a0), some (.int a1)] [.int (x1 - x1 / x0 * x0)] τ)) ∧
    (∀ (a0 : Int32) (a1 : Int32) (x0 : Int32) (τ : St), Ru M_H_drawOf d Q 10 [some (.int a0), some (.int a1)] [.int x0] τ = Ru M_H_drawOf d Q 14 [some (.int a0), some (.int a1)] [.int x0] τ) ∧
    (∀ (a0 : Int32) (a1 : Int32) (τ : St), Ru M_H_drawOf d Q 13 [some (.int a0), some (.int a1)] [] τ = Ru M_H_drawOf d Q 14 [some (.int a0), some (.int a1)] [.int 0] τ) ∧
    (∀ (a0 : Int32) (a1 : Int32) (x0 : Int32) (τ : St), Ru M_H_drawOf d Q 14 [some (.int a0), some (.int a1)] [.int x0] τ = Q (some (.int x0)) τ) := ⟨
  fun _ _ _ => (R_at ok_H_drawOf rfl).trans (e_ild rfl),
  fun _ _ _ _ => (R_at ok_H_drawOf rfl).trans e_if,
  fun _ _ _ => (R_at ok_H_drawOf rfl).trans (e_ild rfl),
  fun _ _ _ _ => (R_at ok_H_drawOf rfl).trans e_push,
  fun _ _ _ _ _ => (R_at ok_H_drawOf rfl).trans e_bin,
  fun _ _ _ _ => (R_at ok_H_drawOf rfl).trans (e_ild rfl),
  fun _ _ _ _ _ => (R_at ok_H_drawOf rfl).trans e_binz,
  fun _ _ _ _ => (R_at ok_H_drawOf rfl).trans e_goto,
  fun _ _ _ => (R_at ok_H_drawOf rfl).trans e_push,
  fun _ _ _ _ => (R_at ok_H_drawOf rfl).trans e_iret⟩
set_option maxHeartbeats 4000000 in
theorem N_H_keep (d : Nat) (Q : Qt) : ∀ (x0 : Nat) (x1 : Int32) (τ : St), Cl (d + 1) m_H_keep [.ref x0, .int x1] τ Q = Ru M_H_keep d Q 0 [some (.ref x0), some (.int x1)] [] τ := fun _ _ _ => propext ⟨fun h => h.2, fun h => ⟨Nat.le_of_ble_eq_true rfl, h⟩⟩
set_option maxHeartbeats 4000000 in
theorem E_H_keep (d : Nat) (Q : Qt) :
    (∀ (a0 : Nat) (a1 : Int32) (τ : St), Ru M_H_keep d Q 0 [some (.ref a0), some (.int a1)] [] τ = Ru M_H_keep d Q 1 [some (.ref a0), some (.int a1)] [.int a1] τ) ∧
    (∀ (a0 : Nat) (a1 : Int32) (x0 : Int32) (τ : St), Ru M_H_keep d Q 1 [some (.ref a0), some (.int a1)] [.int x0] τ = ((x0 < 0 → Ru M_H_keep d Q 13 [some (.ref a0), some (.int a1)] [] τ) ∧ (¬ x0 < 0 → Ru M_H_keep d Q 4 [some (.ref a0), some (.int a1)] [] τ))) ∧
    (∀ (a0 : Nat) (a1 : Int32) (τ : St), Ru M_H_keep d Q 4 [some (.ref a0), some (.int a1)] [] τ = Ru M_H_keep d Q 5 [some (.ref a0), some (.int a1)] [.int a1] τ) ∧
    (∀ (a0 : Nat) (a1 : Int32) (x0 : Int32) (τ : St), Ru M_H_keep d Q 5 [some (.ref a0), some (.int a1)] [.int x0] τ = Ru M_H_keep d Q 6 [some (.ref a0), some (.int a1)] [.ref a0, .int x0] τ) ∧
    (∀ (a0 : Nat) (a1 : Int32) (x0 : Nat) (x1 : Int32) (τ : St), Ru M_H_keep d Q 6 [some (.ref a0), some (.int a1)] [.ref x0, .int x1] τ = (isA 11 x0 ∧ Ru M_H_keep d Q 9 [some (.ref a0), some (.int a1)] [.ref (rtab x0 6), .int x1] τ)) ∧
    (∀ (a0 : Nat) (a1 : Int32) (x0 : Nat) (x1 : Int32) (τ : St), Ru M_H_keep d Q 9 [some (.ref a0), some (.int a1)] [.ref x0, .int x1] τ = (x0 < NC ∧ (13 ≤ shp x0 ∧ shp x0 < 18) ∧ Ru M_H_keep d Q 10 [some (.ref a0), some (.int a1)] [.int (Int32.ofNat (len x0)), .int x1] τ)) ∧
    (∀ (a0 : Nat) (a1 : Int32) (x0 : Int32) (x1 : Int32) (τ : St), Ru M_H_keep d Q 10 [some (.ref a0), some (.int a1)] [.int x0, .int x1] τ = ((x1 < x0 → Ru M_H_keep d Q 15 [some (.ref a0), some (.int a1)] [] τ) ∧ (¬ x1 < x0 → Ru M_H_keep d Q 13 [some (.ref a0), some (.int a1)] [] τ))) ∧
    (∀ (a0 : Nat) (a1 : Int32) (τ : St), Ru M_H_keep d Q 13 [some (.ref a0), some (.int a1)] [] τ = Ru M_H_keep d Q 14 [some (.ref a0), some (.int a1)] [.int 0] τ) ∧
    (∀ (a0 : Nat) (a1 : Int32) (x0 : Int32) (τ : St), Ru M_H_keep d Q 14 [some (.ref a0), some (.int a1)] [.int x0] τ = ((x0 = 0 ∨ x0 = 1) ∧ Q (some (.int x0)) τ)) ∧
    (∀ (a0 : Nat) (a1 : Int32) (τ : St), Ru M_H_keep d Q 15 [some (.ref a0), some (.int a1)] [] τ = Ru M_H_keep d Q 16 [some (.ref a0), some (.int a1)] [.ref a0] τ) ∧
    (∀ (a0 : Nat) (a1 : Int32) (x0 : Nat) (τ : St), Ru M_H_keep d Q 16 [some (.ref a0), some (.int a1)] [.ref x0] τ = (isA 11 x0 ∧ Ru M_H_keep d Q 19 [some (.ref a0), some (.int a1)] [.ref (rtab x0 6)] τ)) ∧
    (∀ (a0 : Nat) (a1 : Int32) (x0 : Nat) (τ : St), Ru M_H_keep d Q 19 [some (.ref a0), some (.int a1)] [.ref x0] τ = Ru M_H_keep d Q 20 [some (.ref a0), some (.int a1)] [.int a1, .ref x0] τ) ∧
    (∀ (a0 : Nat) (a1 : Int32) (x0 : Int32) (x1 : Nat) (τ : St), Ru M_H_keep d Q 20 [some (.ref a0), some (.int a1)] [.int x0, .ref x1] τ = (isA 17 x1 ∧ vp_in x0 (len x1) ∧ Ru M_H_keep d Q 21 [some (.ref a0), some (.int a1)] [.ref (mrf x1 x0.toNatClampNeg)] τ)) ∧
    (∀ (a0 : Nat) (a1 : Int32) (x0 : Nat) (τ : St), Ru M_H_keep d Q 21 [some (.ref a0), some (.int a1)] [.ref x0] τ = Ru M_H_keep d Q 22 [some (.ref a0), some (.int a1)] [.ref a0, .ref x0] τ) ∧
    (∀ (a0 : Nat) (a1 : Int32) (x0 : Nat) (x1 : Nat) (τ : St), Ru M_H_keep d Q 22 [some (.ref a0), some (.int a1)] [.ref x0, .ref x1] τ = (isA 11 x0 ∧ Ru M_H_keep d Q 25 [some (.ref a0), some (.int a1)] [.ref (rtab x0 3), .ref x1] τ)) ∧
    (∀ (a0 : Nat) (a1 : Int32) (x0 : Nat) (x1 : Nat) (τ : St), Ru M_H_keep d Q 25 [some (.ref a0), some (.int a1)] [.ref x0, .ref x1] τ = (isA 1 x1 ∧ Cl d m_Moment_copy [.ref x1, .ref x0] τ (fun v τ' => Ru M_H_keep d Q 28 [some (.ref a0), some (.int a1)] (v.toList ++ []) τ'))) ∧
    (∀ (a0 : Nat) (a1 : Int32) (τ : St), Ru M_H_keep d Q 28 [some (.ref a0), some (.int a1)] [] τ = Ru M_H_keep d Q 29 [some (.ref a0), some (.int a1)] [.int 1] τ) ∧
    (∀ (a0 : Nat) (a1 : Int32) (x0 : Int32) (τ : St), Ru M_H_keep d Q 29 [some (.ref a0), some (.int a1)] [.int x0] τ = ((x0 = 0 ∨ x0 = 1) ∧ Q (some (.int x0)) τ)) := ⟨
  fun _ _ _ => (R_at ok_H_keep rfl).trans (e_ild rfl),
  fun _ _ _ _ => (R_at ok_H_keep rfl).trans e_if,
  fun _ _ _ => (R_at ok_H_keep rfl).trans (e_ild rfl),
  fun _ _ _ _ => (R_at ok_H_keep rfl).trans (e_ald rfl),
  fun _ _ _ _ _ => (R_at ok_H_keep rfl).trans e_gR,
  fun _ _ _ _ _ => (R_at ok_H_keep rfl).trans e_len,
  fun _ _ _ _ _ => (R_at ok_H_keep rfl).trans e_ic,
  fun _ _ _ => (R_at ok_H_keep rfl).trans e_push,
  fun _ _ _ _ => (R_at ok_H_keep rfl).trans e_zret,
  fun _ _ _ => (R_at ok_H_keep rfl).trans (e_ald rfl),
  fun _ _ _ _ => (R_at ok_H_keep rfl).trans e_gR,
  fun _ _ _ _ => (R_at ok_H_keep rfl).trans (e_ild rfl),
  fun _ _ _ _ _ => (R_at ok_H_keep rfl).trans e_ala,
  fun _ _ _ _ => (R_at ok_H_keep rfl).trans (e_ald rfl),
  fun _ _ _ _ _ => (R_at ok_H_keep rfl).trans e_gR,
  fun _ _ x0 _ _ => (R_at ok_H_keep rfl).trans (e_cv [.ref x0] rfl rfl rfl),
  fun _ _ _ => (R_at ok_H_keep rfl).trans e_push,
  fun _ _ _ _ => (R_at ok_H_keep rfl).trans e_zret⟩
set_option maxHeartbeats 4000000 in
theorem N_H_again (d : Nat) (Q : Qt) : ∀ (x0 : Nat) (x1 : Int32) (τ : St), Cl (d + 1) m_H_again [.ref x0, .int x1] τ Q = Ru M_H_again d Q 0 [some (.ref x0), some (.int x1)] [] τ := fun _ _ _ => propext ⟨fun h => h.2, fun h => ⟨Nat.le_of_ble_eq_true rfl, h⟩⟩
set_option maxHeartbeats 4000000 in
theorem E_H_again (d : Nat) (Q : Qt) :
    (∀ (a0 : Nat) (a1 : Int32) (τ : St), Ru M_H_again d Q 0 [some (.ref a0), some (.int a1)] [] τ = Ru M_H_again d Q 1 [some (.ref a0), some (.int a1)] [.int a1] τ) ∧
    (∀ (a0 : Nat) (a1 : Int32) (x0 : Int32) (τ : St), Ru M_H_again d Q 1 [some (.ref a0), some (.int a1)] [.int x0] τ = ((x0 < 0 → Ru M_H_again d Q 32 [some (.ref a0), some (.int a1)] [] τ) ∧ (¬ x0 < 0 → Ru M_H_again d Q 4 [some (.ref a0), some (.int a1)] [] τ))) ∧
    (∀ (a0 : Nat) (a1 : Int32) (τ : St), Ru M_H_again d Q 4 [some (.ref a0), some (.int a1)] [] τ = Ru M_H_again d Q 5 [some (.ref a0), some (.int a1)] [.int a1] τ) ∧
    (∀ (a0 : Nat) (a1 : Int32) (x0 : Int32) (τ : St), Ru M_H_again d Q 5 [some (.ref a0), some (.int a1)] [.int x0] τ = Ru M_H_again d Q 6 [some (.ref a0), some (.int a1)] [.ref a0, .int x0] τ) ∧
    (∀ (a0 : Nat) (a1 : Int32) (x0 : Nat) (x1 : Int32) (τ : St), Ru M_H_again d Q 6 [some (.ref a0), some (.int a1)] [.ref x0, .int x1] τ = (isA 11 x0 ∧ Ru M_H_again d Q 9 [some (.ref a0), some (.int a1)] [.ref (rtab x0 6), .int x1] τ)) ∧
    (∀ (a0 : Nat) (a1 : Int32) (x0 : Nat) (x1 : Int32) (τ : St), Ru M_H_again d Q 9 [some (.ref a0), some (.int a1)] [.ref x0, .int x1] τ = (x0 < NC ∧ (13 ≤ shp x0 ∧ shp x0 < 18) ∧ Ru M_H_again d Q 10 [some (.ref a0), some (.int a1)] [.int (Int32.ofNat (len x0)), .int x1] τ)) ∧
    (∀ (a0 : Nat) (a1 : Int32) (x0 : Int32) (x1 : Int32) (τ : St), Ru M_H_again d Q 10 [some (.ref a0), some (.int a1)] [.int x0, .int x1] τ = ((x0 ≤ x1 → Ru M_H_again d Q 32 [some (.ref a0), some (.int a1)] [] τ) ∧ (¬ x0 ≤ x1 → Ru M_H_again d Q 13 [some (.ref a0), some (.int a1)] [] τ))) ∧
    (∀ (a0 : Nat) (a1 : Int32) (τ : St), Ru M_H_again d Q 13 [some (.ref a0), some (.int a1)] [] τ = Ru M_H_again d Q 14 [some (.ref a0), some (.int a1)] [.ref a0] τ) ∧
    (∀ (a0 : Nat) (a1 : Int32) (x0 : Nat) (τ : St), Ru M_H_again d Q 14 [some (.ref a0), some (.int a1)] [.ref x0] τ = (isA 11 x0 ∧ Ru M_H_again d Q 17 [some (.ref a0), some (.int a1)] [.ref (rtab x0 6)] τ)) ∧
    (∀ (a0 : Nat) (a1 : Int32) (x0 : Nat) (τ : St), Ru M_H_again d Q 17 [some (.ref a0), some (.int a1)] [.ref x0] τ = Ru M_H_again d Q 18 [some (.ref a0), some (.int a1)] [.int a1, .ref x0] τ) ∧
    (∀ (a0 : Nat) (a1 : Int32) (x0 : Int32) (x1 : Nat) (τ : St), Ru M_H_again d Q 18 [some (.ref a0), some (.int a1)] [.int x0, .ref x1] τ = (isA 17 x1 ∧ vp_in x0 (len x1) ∧ Ru M_H_again d Q 19 [some (.ref a0), some (.int a1)] [.ref (mrf x1 x0.toNatClampNeg)] τ)) ∧
    (∀ (a0 : Nat) (a1 : Int32) (x0 : Nat) (τ : St), Ru M_H_again d Q 19 [some (.ref a0), some (.int a1)] [.ref x0] τ = (isA 1 x0 ∧ Ru M_H_again d Q 22 [some (.ref a0), some (.int a1)] [.int (τ.1 x0 1)] τ)) ∧
    (∀ (a0 : Nat) (a1 : Int32) (x0 : Int32) (τ : St), Ru M_H_again d Q 22 [some (.ref a0), some (.int a1)] [.int x0] τ = Ru M_H_again d Q 23 [some (.ref a0), some (.int a1)] [.ref a0, .int x0] τ) ∧
    (∀ (a0 : Nat) (a1 : Int32) (x0 : Nat) (x1 : Int32) (τ : St), Ru M_H_again d Q 23 [some (.ref a0), some (.int a1)] [.ref x0, .int x1] τ = (isA 11 x0 ∧ Ru M_H_again d Q 26 [some (.ref a0), some (.int a1)] [.ref (rtab x0 3), .int x1] τ)) ∧
    (∀ (a0 : Nat) (a1 : Int32) (x0 : Nat) (x1 : Int32) (τ : St), Ru M_H_again d Q 26 [some (.ref a0), some (.int a1)] [.ref x0, .int x1] τ = (isA 1 x0 ∧ Ru M_H_again d Q 29 [some (.ref a0), some (.int a1)] [.int (τ.1 x0 1), .int x1] τ)) ∧
    (∀ (a0 : Nat) (a1 : Int32) (x0 : Int32) (x1 : Int32) (τ : St), Ru M_H_again d Q 29 [some (.ref a0), some (.int a1)] [.int x0, .int x1] τ = ((x1 = x0 → Ru M_H_again d Q 34 [some (.ref a0), some (.int a1)] [] τ) ∧ (¬ x1 = x0 → Ru M_H_again d Q 32 [some (.ref a0), some (.int a1)] [] τ))) ∧
    (∀ (a0 : Nat) (a1 : Int32) (τ : St), Ru M_H_again d Q 32 [some (.ref a0), some (.int a1)] [] τ = Ru M_H_again d Q 33 [some (.ref a0), some (.int a1)] [.int 0] τ) ∧
    (∀ (a0 : Nat) (a1 : Int32) (x0 : Int32) (τ : St), Ru M_H_again d Q 33 [some (.ref a0), some (.int a1)] [.int x0] τ = ((x0 = 0 ∨ x0 = 1) ∧ Q (some (.int x0)) τ)) ∧
    (∀ (a0 : Nat) (a1 : Int32) (τ : St), Ru M_H_again d Q 34 [some (.ref a0), some (.int a1)] [] τ = Ru M_H_again d Q 35 [some (.ref a0), some (.int a1)] [.ref a0] τ) ∧
    (∀ (a0 : Nat) (a1 : Int32) (x0 : Nat) (τ : St), Ru M_H_again d Q 35 [some (.ref a0), some (.int a1)] [.ref x0] τ = (isA 11 x0 ∧ Ru M_H_again d Q 38 [some (.ref a0), some (.int a1)] [.ref (rtab x0 3)] τ)) ∧
    (∀ (a0 : Nat) (a1 : Int32) (x0 : Nat) (τ : St), Ru M_H_again d Q 38 [some (.ref a0), some (.int a1)] [.ref x0] τ = Ru M_H_again d Q 39 [some (.ref a0), some (.int a1)] [.ref a0, .ref x0] τ) ∧
    (∀ (a0 : Nat) (a1 : Int32) (x0 : Nat) (x1 : Nat) (τ : St), Ru M_H_again d Q 39 [some (.ref a0), some (.int a1)] [.ref x0, .ref x1] τ = (isA 11 x0 ∧ Ru M_H_again d Q 42 [some (.ref a0), some (.int a1)] [.ref (rtab x0 6), .ref x1] τ)) ∧
    (∀ (a0 : Nat) (a1 : Int32) (x0 : Nat) (x1 : Nat) (τ : St), Ru M_H_again d Q 42 [some (.ref a0), some (.int a1)] [.ref x0, .ref x1] τ = Ru M_H_again d Q 43 [some (.ref a0), some (.int a1)] [.int a1, .ref x0, .ref x1] τ) ∧
    (∀ (a0 : Nat) (a1 : Int32) (x0 : Int32) (x1 : Nat) (x2 : Nat) (τ : St), Ru M_H_again d Q 43 [some (.ref a0), some (.int a1)] [.int x0, .ref x1, .ref x2] τ = (isA 17 x1 ∧ vp_in x0 (len x1) ∧ Ru M_H_again d Q 44 [some (.ref a0), some (.int a1)] [.ref (mrf x1 x0.toNatClampNeg), .ref x2] τ)) ∧
    (∀ (a0 : Nat) (a1 : Int32) (x0 : Nat) (x1 : Nat) (τ : St), Ru M_H_again d Q 44 [some (.ref a0), some (.int a1)] [.ref x0, .ref x1] τ = (isA 1 x1 ∧ Cl d m_Moment_copy [.ref x1, .ref x0] τ (fun v τ' => Ru M_H_again d Q 47 [some (.ref a0), some (.int a1)] (v.toList ++ []) τ'))) ∧
    (∀ (a0 : Nat) (a1 : Int32) (τ : St), Ru M_H_again d Q 47 [some (.ref a0), some (.int a1)] [] τ = Ru M_H_again d Q 48 [some (.ref a0), some (.int a1)] [.ref a0] τ) ∧
    (∀ (a0 : Nat) (a1 : Int32) (x0 : Nat) (τ : St), Ru M_H_again d Q 48 [some (.ref a0), some (.int a1)] [.ref x0] τ = (isA 11 x0 ∧ Ru M_H_again d Q 51 [some (.ref a0), some (.int a1)] [.ref (rtab x0 5)] τ)) ∧
    (∀ (a0 : Nat) (a1 : Int32) (x0 : Nat) (τ : St), Ru M_H_again d Q 51 [some (.ref a0), some (.int a1)] [.ref x0] τ = (isA 2 x0 ∧ Cl d m_Past_clear [.ref x0] τ (fun v τ' => Ru M_H_again d Q 54 [some (.ref a0), some (.int a1)] (v.toList ++ []) τ'))) ∧
    (∀ (a0 : Nat) (a1 : Int32) (τ : St), Ru M_H_again d Q 54 [some (.ref a0), some (.int a1)] [] τ = Ru M_H_again d Q 55 [some (.ref a0), some (.int a1)] [.int 1] τ) ∧
    (∀ (a0 : Nat) (a1 : Int32) (x0 : Int32) (τ : St), Ru M_H_again d Q 55 [some (.ref a0), some (.int a1)] [.int x0] τ = ((x0 = 0 ∨ x0 = 1) ∧ Q (some (.int x0)) τ)) := ⟨
  fun _ _ _ => (R_at ok_H_again rfl).trans (e_ild rfl),
  fun _ _ _ _ => (R_at ok_H_again rfl).trans e_if,
  fun _ _ _ => (R_at ok_H_again rfl).trans (e_ild rfl),
  fun _ _ _ _ => (R_at ok_H_again rfl).trans (e_ald rfl),
  fun _ _ _ _ _ => (R_at ok_H_again rfl).trans e_gR,
  fun _ _ _ _ _ => (R_at ok_H_again rfl).trans e_len,
  fun _ _ _ _ _ => (R_at ok_H_again rfl).trans e_ic,
  fun _ _ _ => (R_at ok_H_again rfl).trans (e_ald rfl),
  fun _ _ _ _ => (R_at ok_H_again rfl).trans e_gR,
  fun _ _ _ _ => (R_at ok_H_again rfl).trans (e_ild rfl),
  fun _ _ _ _ _ => (R_at ok_H_again rfl).trans e_ala,
  fun _ _ _ _ => (R_at ok_H_again rfl).trans e_gI,
  fun _ _ _ _ => (R_at ok_H_again rfl).trans (e_ald rfl),
  fun _ _ _ _ _ => (R_at ok_H_again rfl).trans e_gR,
  fun _ _ _ _ _ => (R_at ok_H_again rfl).trans e_gI,
  fun _ _ _ _ _ => (R_at ok_H_again rfl).trans e_ic,
  fun _ _ _ => (R_at ok_H_again rfl).trans e_push,
  fun _ _ _ _ => (R_at ok_H_again rfl).trans e_zret,
  fun _ _ _ => (R_at ok_H_again rfl).trans (e_ald rfl),
  fun _ _ _ _ => (R_at ok_H_again rfl).trans e_gR,
  fun _ _ _ _ => (R_at ok_H_again rfl).trans (e_ald rfl),
  fun _ _ _ _ _ => (R_at ok_H_again rfl).trans e_gR,
  fun _ _ _ _ _ => (R_at ok_H_again rfl).trans (e_ild rfl),
  fun _ _ _ _ _ _ => (R_at ok_H_again rfl).trans e_ala,
  fun _ _ x0 _ _ => (R_at ok_H_again rfl).trans (e_cv [.ref x0] rfl rfl rfl),
  fun _ _ _ => (R_at ok_H_again rfl).trans (e_ald rfl),
  fun _ _ _ _ => (R_at ok_H_again rfl).trans e_gR,
  fun _ _ _ _ => (R_at ok_H_again rfl).trans (e_cv [] rfl rfl rfl),
  fun _ _ _ => (R_at ok_H_again rfl).trans e_push,
  fun _ _ _ _ => (R_at ok_H_again rfl).trans e_zret⟩
set_option maxHeartbeats 4000000 in
theorem N_H_count (d : Nat) (Q : Qt) : ∀ (x0 : Nat) (x1 : Int32) (τ : St), Cl (d + 1) m_H_count [.ref x0, .int x1] τ Q = Ru M_H_count d Q 0 [some (.ref x0), some (.int x1)] [] τ := fun _ _ _ => propext ⟨fun h => h.2, fun h => ⟨Nat.le_of_ble_eq_true rfl, h⟩⟩
set_option maxHeartbeats 4000000 in
theorem E_H_count (d : Nat) (Q : Qt) :
    (∀ (a0 : Nat) (a1 : Int32) (τ : St), Ru M_H_count d Q 0 [some (.ref a0), some (.int a1)] [] τ = Ru M_H_count d Q 1 [some (.ref a0), some (.int a1)] [.int a1] τ) ∧
    (∀ (a0 : Nat) (a1 : Int32) (x0 : Int32) (τ : St), Ru M_H_count d Q 1 [some (.ref a0), some (.int a1)] [.int x0] τ = ((∀ q ∈ ([(0, 80), (1, 88), (2, 96), (3, 104), (4, 109), (5, 117), (6, 125), (7, 133), (8, 138), (9, 146), (10, 154), (11, 165), (12, 170), (13, 178), (14, 186), (15, 194)] : List (Int32 × Nat)), x0 = q.1 → Ru M_H_count d Q q.2 [some (.ref a0), some (.int a1)] [] τ) ∧ ((∀ q ∈ ([(0, 80), (1, 88), (2, 96), (3, 104), (4, 109), (5, 117), (6, 125), (7, 133), (8, 138), (9, 146), (10, 154), (11, 165), (12, 170), (13, 178), (14, 186), (15, 194)] : List (Int32 × Nat)), ¬ x0 = q.1) → Ru M_H_count d Q 202 [some (.ref a0), some (.int a1)] [] τ))) ∧
    (∀ (a0 : Nat) (a1 : Int32) (τ : St), Ru M_H_count d Q 80 [some (.ref a0), some (.int a1)] [] τ = Ru M_H_count d Q 81 [some (.ref a0), some (.int a1)] [.ref a0] τ) ∧
    (∀ (a0 : Nat) (a1 : Int32) (x0 : Nat) (τ : St), Ru M_H_count d Q 81 [some (.ref a0), some (.int a1)] [.ref x0] τ = (isA 11 x0 ∧ Ru M_H_count d Q 84 [some (.ref a0), some (.int a1)] [.ref (rtab x0 2)] τ)) ∧
    (∀ (a0 : Nat) (a1 : Int32) (x0 : Nat) (τ : St), Ru M_H_count d Q 84 [some (.ref a0), some (.int a1)] [.ref x0] τ = (isA 0 x0 ∧ Ru M_H_count d Q 87 [some (.ref a0), some (.int a1)] [.int (τ.1 x0 0)] τ)) ∧
    (∀ (a0 : Nat) (a1 : Int32) (x0 : Int32) (τ : St), Ru M_H_count d Q 87 [some (.ref a0), some (.int a1)] [.int x0] τ = Q (some (.int x0)) τ) ∧
    (∀ (a0 : Nat) (a1 : Int32) (τ : St), Ru M_H_count d Q 88 [some (.ref a0), some (.int a1)] [] τ = Ru M_H_count d Q 89 [some (.ref a0), some (.int a1)] [.ref a0] τ) ∧
    (∀ (a0 : Nat) (a1 : Int32) (x0 : Nat) (τ : St), Ru M_H_count d Q 89 [some (.ref a0), some (.int a1)] [.ref x0] τ = (isA 11 x0 ∧ Ru M_H_count d Q 92 [some (.ref a0), some (.int a1)] [.ref (rtab x0 2)] τ)) ∧
    (∀ (a0 : Nat) (a1 : Int32) (x0 : Nat) (τ : St), Ru M_H_count d Q 92 [some (.ref a0), some (.int a1)] [.ref x0] τ = (isA 0 x0 ∧ Ru M_H_count d Q 95 [some (.ref a0), some (.int a1)] [.int (τ.1 x0 1)] τ)) ∧
    (∀ (a0 : Nat) (a1 : Int32) (x0 : Int32) (τ : St), Ru M_H_count d Q 95 [some (.ref a0), some (.int a1)] [.int x0] τ = Q (some (.int x0)) τ) ∧
    (∀ (a0 : Nat) (a1 : Int32) (τ : St), Ru M_H_count d Q 96 [some (.ref a0), some (.int a1)] [] τ = Ru M_H_count d Q 97 [some (.ref a0), some (.int a1)] [.ref a0] τ) ∧
    (∀ (a0 : Nat) (a1 : Int32) (x0 : Nat) (τ : St), Ru M_H_count d Q 97 [some (.ref a0), some (.int a1)] [.ref x0] τ = (isA 11 x0 ∧ Ru M_H_count d Q 100 [some (.ref a0), some (.int a1)] [.ref (rtab x0 3)] τ)) ∧
    (∀ (a0 : Nat) (a1 : Int32) (x0 : Nat) (τ : St), Ru M_H_count d Q 100 [some (.ref a0), some (.int a1)] [.ref x0] τ = (isA 1 x0 ∧ Ru M_H_count d Q 103 [some (.ref a0), some (.int a1)] [.int (τ.1 x0 1)] τ)) ∧
    (∀ (a0 : Nat) (a1 : Int32) (x0 : Int32) (τ : St), Ru M_H_count d Q 103 [some (.ref a0), some (.int a1)] [.int x0] τ = Q (some (.int x0)) τ) ∧
    (∀ (a0 : Nat) (a1 : Int32) (τ : St), Ru M_H_count d Q 104 [some (.ref a0), some (.int a1)] [] τ = Ru M_H_count d Q 105 [some (.ref a0), some (.int a1)] [.ref a0] τ) ∧
    (∀ (a0 : Nat) (a1 : Int32) (x0 : Nat) (τ : St), Ru M_H_count d Q 105 [some (.ref a0), some (.int a1)] [.ref x0] τ = (isA 11 x0 ∧ Ru M_H_count d Q 108 [some (.ref a0), some (.int a1)] [.int (τ.1 x0 8)] τ)) ∧
    (∀ (a0 : Nat) (a1 : Int32) (x0 : Int32) (τ : St), Ru M_H_count d Q 108 [some (.ref a0), some (.int a1)] [.int x0] τ = Q (some (.int x0)) τ) ∧
    (∀ (a0 : Nat) (a1 : Int32) (τ : St), Ru M_H_count d Q 109 [some (.ref a0), some (.int a1)] [] τ = Ru M_H_count d Q 110 [some (.ref a0), some (.int a1)] [.ref a0] τ) ∧
    (∀ (a0 : Nat) (a1 : Int32) (x0 : Nat) (τ : St), Ru M_H_count d Q 110 [some (.ref a0), some (.int a1)] [.ref x0] τ = (isA 11 x0 ∧ Ru M_H_count d Q 113 [some (.ref a0), some (.int a1)] [.ref (rtab x0 3)] τ)) ∧
    (∀ (a0 : Nat) (a1 : Int32) (x0 : Nat) (τ : St), Ru M_H_count d Q 113 [some (.ref a0), some (.int a1)] [.ref x0] τ = (isA 1 x0 ∧ Ru M_H_count d Q 116 [some (.ref a0), some (.int a1)] [.int (τ.1 x0 4)] τ)) ∧
    (∀ (a0 : Nat) (a1 : Int32) (x0 : Int32) (τ : St), Ru M_H_count d Q 116 [some (.ref a0), some (.int a1)] [.int x0] τ = Q (some (.int x0)) τ) ∧
    (∀ (a0 : Nat) (a1 : Int32) (τ : St), Ru M_H_count d Q 117 [some (.ref a0), some (.int a1)] [] τ = Ru M_H_count d Q 118 [some (.ref a0), some (.int a1)] [.ref a0] τ) ∧
    (∀ (a0 : Nat) (a1 : Int32) (x0 : Nat) (τ : St), Ru M_H_count d Q 118 [some (.ref a0), some (.int a1)] [.ref x0] τ = (isA 11 x0 ∧ Ru M_H_count d Q 121 [some (.ref a0), some (.int a1)] [.ref (rtab x0 3)] τ)) ∧
    (∀ (a0 : Nat) (a1 : Int32) (x0 : Nat) (τ : St), Ru M_H_count d Q 121 [some (.ref a0), some (.int a1)] [.ref x0] τ = (isA 1 x0 ∧ Ru M_H_count d Q 124 [some (.ref a0), some (.int a1)] [.int (τ.1 x0 5)] τ)) ∧
    (∀ (a0 : Nat) (a1 : Int32) (x0 : Int32) (τ : St), Ru M_H_count d Q 124 [some (.ref a0), some (.int a1)] [.int x0] τ = Q (some (.int x0)) τ) ∧
    (∀ (a0 : Nat) (a1 : Int32) (τ : St), Ru M_H_count d Q 125 [some (.ref a0), some (.int a1)] [] τ = Ru M_H_count d Q 126 [some (.ref a0), some (.int a1)] [.ref a0] τ) ∧
    (∀ (a0 : Nat) (a1 : Int32) (x0 : Nat) (τ : St), Ru M_H_count d Q 126 [some (.ref a0), some (.int a1)] [.ref x0] τ = (isA 11 x0 ∧ Ru M_H_count d Q 129 [some (.ref a0), some (.int a1)] [.ref (rtab x0 3)] τ)) ∧
    (∀ (a0 : Nat) (a1 : Int32) (x0 : Nat) (τ : St), Ru M_H_count d Q 129 [some (.ref a0), some (.int a1)] [.ref x0] τ = (isA 1 x0 ∧ Ru M_H_count d Q 132 [some (.ref a0), some (.int a1)] [.int (τ.1 x0 6)] τ)) ∧
    (∀ (a0 : Nat) (a1 : Int32) (x0 : Int32) (τ : St), Ru M_H_count d Q 132 [some (.ref a0), some (.int a1)] [.int x0] τ = Q (some (.int x0)) τ) ∧
    (∀ (a0 : Nat) (a1 : Int32) (τ : St), Ru M_H_count d Q 133 [some (.ref a0), some (.int a1)] [] τ = Ru M_H_count d Q 134 [some (.ref a0), some (.int a1)] [.ref a0] τ) ∧
    (∀ (a0 : Nat) (a1 : Int32) (x0 : Nat) (τ : St), Ru M_H_count d Q 134 [some (.ref a0), some (.int a1)] [.ref x0] τ = (isA 11 x0 ∧ Ru M_H_count d Q 137 [some (.ref a0), some (.int a1)] [.int (τ.1 x0 9)] τ)) ∧
    (∀ (a0 : Nat) (a1 : Int32) (x0 : Int32) (τ : St), Ru M_H_count d Q 137 [some (.ref a0), some (.int a1)] [.int x0] τ = Q (some (.int x0)) τ) ∧
    (∀ (a0 : Nat) (a1 : Int32) (τ : St), Ru M_H_count d Q 138 [some (.ref a0), some (.int a1)] [] τ = Ru M_H_count d Q 139 [some (.ref a0), some (.int a1)] [.ref a0] τ) ∧
    (∀ (a0 : Nat) (a1 : Int32) (x0 : Nat) (τ : St), Ru M_H_count d Q 139 [some (.ref a0), some (.int a1)] [.ref x0] τ = (isA 11 x0 ∧ Ru M_H_count d Q 142 [some (.ref a0), some (.int a1)] [.ref (rtab x0 3)] τ)) ∧
    (∀ (a0 : Nat) (a1 : Int32) (x0 : Nat) (τ : St), Ru M_H_count d Q 142 [some (.ref a0), some (.int a1)] [.ref x0] τ = (isA 1 x0 ∧ Ru M_H_count d Q 145 [some (.ref a0), some (.int a1)] [.int (τ.1 x0 7)] τ)) ∧
    (∀ (a0 : Nat) (a1 : Int32) (x0 : Int32) (τ : St), Ru M_H_count d Q 145 [some (.ref a0), some (.int a1)] [.int x0] τ = Q (some (.int x0)) τ) ∧
    (∀ (a0 : Nat) (a1 : Int32) (τ : St), Ru M_H_count d Q 146 [some (.ref a0), some (.int a1)] [] τ = Ru M_H_count d Q 147 [some (.ref a0), some (.int a1)] [.ref a0] τ) ∧
    (∀ (a0 : Nat) (a1 : Int32) (x0 : Nat) (τ : St), Ru M_H_count d Q 147 [some (.ref a0), some (.int a1)] [.ref x0] τ = (isA 11 x0 ∧ Ru M_H_count d Q 150 [some (.ref a0), some (.int a1)] [.ref (rtab x0 3)] τ)) ∧
    (∀ (a0 : Nat) (a1 : Int32) (x0 : Nat) (τ : St), Ru M_H_count d Q 150 [some (.ref a0), some (.int a1)] [.ref x0] τ = (isA 1 x0 ∧ Ru M_H_count d Q 153 [some (.ref a0), some (.int a1)] [.int (τ.1 x0 8)] τ)) ∧
    (∀ (a0 : Nat) (a1 : Int32) (x0 : Int32) (τ : St), Ru M_H_count d Q 153 [some (.ref a0), some (.int a1)] [.int x0] τ = Q (some (.int x0)) τ) ∧
    (∀ (a0 : Nat) (a1 : Int32) (τ : St), Ru M_H_count d Q 154 [some (.ref a0), some (.int a1)] [] τ = Ru M_H_count d Q 155 [some (.ref a0), some (.int a1)] [.ref a0] τ) ∧
    (∀ (a0 : Nat) (a1 : Int32) (x0 : Nat) (τ : St), Ru M_H_count d Q 155 [some (.ref a0), some (.int a1)] [.ref x0] τ = (isA 11 x0 ∧ Ru M_H_count d Q 158 [some (.ref a0), some (.int a1)] [.ref (rtab x0 3)] τ)) ∧
    (∀ (a0 : Nat) (a1 : Int32) (x0 : Nat) (τ : St), Ru M_H_count d Q 158 [some (.ref a0), some (.int a1)] [.ref x0] τ = (isA 1 x0 ∧ Ru M_H_count d Q 161 [some (.ref a0), some (.int a1)] [.long (τ.2 x0 3)] τ)) ∧
    (∀ (a0 : Nat) (a1 : Int32) (x0 : Int64) (τ : St), Ru M_H_count d Q 161 [some (.ref a0), some (.int a1)] [.long x0] τ = Cl d m_bitsL [.long x0] τ (fun v τ' => Ru M_H_count d Q 164 [some (.ref a0), some (.int a1)] (v.toList ++ []) τ')) ∧
    (∀ (a0 : Nat) (a1 : Int32) (x0 : Int32) (τ : St), Ru M_H_count d Q 164 [some (.ref a0), some (.int a1)] [.int x0] τ = Q (some (.int x0)) τ) ∧
    (∀ (a0 : Nat) (a1 : Int32) (τ : St), Ru M_H_count d Q 165 [some (.ref a0), some (.int a1)] [] τ = Ru M_H_count d Q 166 [some (.ref a0), some (.int a1)] [.ref a0] τ) ∧
    (∀ (a0 : Nat) (a1 : Int32) (x0 : Nat) (τ : St), Ru M_H_count d Q 166 [some (.ref a0), some (.int a1)] [.ref x0] τ = (isA 11 x0 ∧ Cl d m_H_shipsOver [.ref x0] τ (fun v τ' => Ru M_H_count d Q 169 [some (.ref a0), some (.int a1)] (v.toList ++ []) τ'))) ∧
    (∀ (a0 : Nat) (a1 : Int32) (x0 : Int32) (τ : St), Ru M_H_count d Q 169 [some (.ref a0), some (.int a1)] [.int x0] τ = Q (some (.int x0)) τ) ∧
    (∀ (a0 : Nat) (a1 : Int32) (τ : St), Ru M_H_count d Q 170 [some (.ref a0), some (.int a1)] [] τ = Ru M_H_count d Q 171 [some (.ref a0), some (.int a1)] [.ref a0] τ) ∧
    (∀ (a0 : Nat) (a1 : Int32) (x0 : Nat) (τ : St), Ru M_H_count d Q 171 [some (.ref a0), some (.int a1)] [.ref x0] τ = (isA 11 x0 ∧ Ru M_H_count d Q 174 [some (.ref a0), some (.int a1)] [.ref (rtab x0 13)] τ)) ∧
    (∀ (a0 : Nat) (a1 : Int32) (x0 : Nat) (τ : St), Ru M_H_count d Q 174 [some (.ref a0), some (.int a1)] [.ref x0] τ = (isA 8 x0 ∧ Ru M_H_count d Q 177 [some (.ref a0), some (.int a1)] [.int (τ.1 x0 0)] τ)) ∧
    (∀ (a0 : Nat) (a1 : Int32) (x0 : Int32) (τ : St), Ru M_H_count d Q 177 [some (.ref a0), some (.int a1)] [.int x0] τ = Q (some (.int x0)) τ) ∧
    (∀ (a0 : Nat) (a1 : Int32) (τ : St), Ru M_H_count d Q 178 [some (.ref a0), some (.int a1)] [] τ = Ru M_H_count d Q 179 [some (.ref a0), some (.int a1)] [.ref a0] τ) ∧
    (∀ (a0 : Nat) (a1 : Int32) (x0 : Nat) (τ : St), Ru M_H_count d Q 179 [some (.ref a0), some (.int a1)] [.ref x0] τ = (isA 11 x0 ∧ Ru M_H_count d Q 182 [some (.ref a0), some (.int a1)] [.ref (rtab x0 5)] τ)) ∧
    (∀ (a0 : Nat) (a1 : Int32) (x0 : Nat) (τ : St), Ru M_H_count d Q 182 [some (.ref a0), some (.int a1)] [.ref x0] τ = (isA 2 x0 ∧ Ru M_H_count d Q 185 [some (.ref a0), some (.int a1)] [.int (τ.1 x0 2)] τ)) ∧
    (∀ (a0 : Nat) (a1 : Int32) (x0 : Int32) (τ : St), Ru M_H_count d Q 185 [some (.ref a0), some (.int a1)] [.int x0] τ = Q (some (.int x0)) τ) ∧
    (∀ (a0 : Nat) (a1 : Int32) (τ : St), Ru M_H_count d Q 186 [some (.ref a0), some (.int a1)] [] τ = Ru M_H_count d Q 187 [some (.ref a0), some (.int a1)] [.ref a0] τ) ∧
    (∀ (a0 : Nat) (a1 : Int32) (x0 : Nat) (τ : St), Ru M_H_count d Q 187 [some (.ref a0), some (.int a1)] [.ref x0] τ = (isA 11 x0 ∧ Ru M_H_count d Q 190 [some (.ref a0), some (.int a1)] [.ref (rtab x0 1)] τ)) ∧
    (∀ (a0 : Nat) (a1 : Int32) (x0 : Nat) (τ : St), Ru M_H_count d Q 190 [some (.ref a0), some (.int a1)] [.ref x0] τ = (isA 4 x0 ∧ Ru M_H_count d Q 193 [some (.ref a0), some (.int a1)] [.int (τ.1 x0 1)] τ)) ∧
    (∀ (a0 : Nat) (a1 : Int32) (x0 : Int32) (τ : St), Ru M_H_count d Q 193 [some (.ref a0), some (.int a1)] [.int x0] τ = Q (some (.int x0)) τ) ∧
    (∀ (a0 : Nat) (a1 : Int32) (τ : St), Ru M_H_count d Q 194 [some (.ref a0), some (.int a1)] [] τ = Ru M_H_count d Q 195 [some (.ref a0), some (.int a1)] [.ref a0] τ) ∧
    (∀ (a0 : Nat) (a1 : Int32) (x0 : Nat) (τ : St), Ru M_H_count d Q 195 [some (.ref a0), some (.int a1)] [.ref x0] τ = (isA 11 x0 ∧ Ru M_H_count d Q 198 [some (.ref a0), some (.int a1)] [.ref (rtab x0 0)] τ)) ∧
    (∀ (a0 : Nat) (a1 : Int32) (x0 : Nat) (τ : St), Ru M_H_count d Q 198 [some (.ref a0), some (.int a1)] [.ref x0] τ = (isA 6 x0 ∧ Ru M_H_count d Q 201 [some (.ref a0), some (.int a1)] [.int (τ.1 x0 1)] τ)) ∧
    (∀ (a0 : Nat) (a1 : Int32) (x0 : Int32) (τ : St), Ru M_H_count d Q 201 [some (.ref a0), some (.int a1)] [.int x0] τ = Q (some (.int x0)) τ) ∧
    (∀ (a0 : Nat) (a1 : Int32) (τ : St), Ru M_H_count d Q 202 [some (.ref a0), some (.int a1)] [] τ = Ru M_H_count d Q 204 [some (.ref a0), some (.int a1)] [.int (-100)] τ) ∧
    (∀ (a0 : Nat) (a1 : Int32) (x0 : Int32) (τ : St), Ru M_H_count d Q 204 [some (.ref a0), some (.int a1)] [.int x0] τ = Q (some (.int x0)) τ) := ⟨
  fun _ _ _ => (R_at ok_H_count rfl).trans (e_ild rfl),
  fun _ _ _ _ => (R_at ok_H_count rfl).trans e_sw,
  fun _ _ _ => (R_at ok_H_count rfl).trans (e_ald rfl),
  fun _ _ _ _ => (R_at ok_H_count rfl).trans e_gR,
  fun _ _ _ _ => (R_at ok_H_count rfl).trans e_gI,
  fun _ _ _ _ => (R_at ok_H_count rfl).trans e_iret,
  fun _ _ _ => (R_at ok_H_count rfl).trans (e_ald rfl),
  fun _ _ _ _ => (R_at ok_H_count rfl).trans e_gR,
  fun _ _ _ _ => (R_at ok_H_count rfl).trans e_gI,
  fun _ _ _ _ => (R_at ok_H_count rfl).trans e_iret,
  fun _ _ _ => (R_at ok_H_count rfl).trans (e_ald rfl),
  fun _ _ _ _ => (R_at ok_H_count rfl).trans e_gR,
  fun _ _ _ _ => (R_at ok_H_count rfl).trans e_gI,
  fun _ _ _ _ => (R_at ok_H_count rfl).trans e_iret,
  fun _ _ _ => (R_at ok_H_count rfl).trans (e_ald rfl),
  fun _ _ _ _ => (R_at ok_H_count rfl).trans e_gI,
  fun _ _ _ _ => (R_at ok_H_count rfl).trans e_iret,
  fun _ _ _ => (R_at ok_H_count rfl).trans (e_ald rfl),
  fun _ _ _ _ => (R_at ok_H_count rfl).trans e_gR,
  fun _ _ _ _ => (R_at ok_H_count rfl).trans e_gI,
  fun _ _ _ _ => (R_at ok_H_count rfl).trans e_iret,
  fun _ _ _ => (R_at ok_H_count rfl).trans (e_ald rfl),
  fun _ _ _ _ => (R_at ok_H_count rfl).trans e_gR,
  fun _ _ _ _ => (R_at ok_H_count rfl).trans e_gI,
  fun _ _ _ _ => (R_at ok_H_count rfl).trans e_iret,
  fun _ _ _ => (R_at ok_H_count rfl).trans (e_ald rfl),
  fun _ _ _ _ => (R_at ok_H_count rfl).trans e_gR,
  fun _ _ _ _ => (R_at ok_H_count rfl).trans e_gI,
  fun _ _ _ _ => (R_at ok_H_count rfl).trans e_iret,
  fun _ _ _ => (R_at ok_H_count rfl).trans (e_ald rfl),
  fun _ _ _ _ => (R_at ok_H_count rfl).trans e_gI,
  fun _ _ _ _ => (R_at ok_H_count rfl).trans e_iret,
  fun _ _ _ => (R_at ok_H_count rfl).trans (e_ald rfl),
  fun _ _ _ _ => (R_at ok_H_count rfl).trans e_gR,
  fun _ _ _ _ => (R_at ok_H_count rfl).trans e_gI,
  fun _ _ _ _ => (R_at ok_H_count rfl).trans e_iret,
  fun _ _ _ => (R_at ok_H_count rfl).trans (e_ald rfl),
  fun _ _ _ _ => (R_at ok_H_count rfl).trans e_gR,
  fun _ _ _ _ => (R_at ok_H_count rfl).trans e_gI,
  fun _ _ _ _ => (R_at ok_H_count rfl).trans e_iret,
  fun _ _ _ => (R_at ok_H_count rfl).trans (e_ald rfl),
  fun _ _ _ _ => (R_at ok_H_count rfl).trans e_gR,
  fun _ _ _ _ => (R_at ok_H_count rfl).trans e_gL,
  fun _ _ x0 _ => (R_at ok_H_count rfl).trans (e_cs [.long x0] rfl rfl rfl),
  fun _ _ _ _ => (R_at ok_H_count rfl).trans e_iret,
  fun _ _ _ => (R_at ok_H_count rfl).trans (e_ald rfl),
  fun _ _ _ _ => (R_at ok_H_count rfl).trans (e_cv [] rfl rfl rfl),
  fun _ _ _ _ => (R_at ok_H_count rfl).trans e_iret,
  fun _ _ _ => (R_at ok_H_count rfl).trans (e_ald rfl),
  fun _ _ _ _ => (R_at ok_H_count rfl).trans e_gR,
  fun _ _ _ _ => (R_at ok_H_count rfl).trans e_gI,
  fun _ _ _ _ => (R_at ok_H_count rfl).trans e_iret,
  fun _ _ _ => (R_at ok_H_count rfl).trans (e_ald rfl),
  fun _ _ _ _ => (R_at ok_H_count rfl).trans e_gR,
  fun _ _ _ _ => (R_at ok_H_count rfl).trans e_gI,
  fun _ _ _ _ => (R_at ok_H_count rfl).trans e_iret,
  fun _ _ _ => (R_at ok_H_count rfl).trans (e_ald rfl),
  fun _ _ _ _ => (R_at ok_H_count rfl).trans e_gR,
  fun _ _ _ _ => (R_at ok_H_count rfl).trans e_gI,
  fun _ _ _ _ => (R_at ok_H_count rfl).trans e_iret,
  fun _ _ _ => (R_at ok_H_count rfl).trans (e_ald rfl),
  fun _ _ _ _ => (R_at ok_H_count rfl).trans e_gR,
  fun _ _ _ _ => (R_at ok_H_count rfl).trans e_gI,
  fun _ _ _ _ => (R_at ok_H_count rfl).trans e_iret,
  fun _ _ _ => (R_at ok_H_count rfl).trans e_push,
  fun _ _ _ _ => (R_at ok_H_count rfl).trans e_iret⟩
set_option maxHeartbeats 4000000 in
theorem N_H_row (d : Nat) (Q : Qt) : ∀ (x0 : Nat) (x1 : Int32) (τ : St), Cl (d + 1) m_H_row [.ref x0, .int x1] τ Q = Ru M_H_row d Q 0 [some (.ref x0), some (.int x1)] [] τ := fun _ _ _ => propext ⟨fun h => h.2, fun h => ⟨Nat.le_of_ble_eq_true rfl, h⟩⟩
set_option maxHeartbeats 4000000 in
theorem E_H_row (d : Nat) (Q : Qt) :
    (∀ (a0 : Nat) (a1 : Int32) (τ : St), Ru M_H_row d Q 0 [some (.ref a0), some (.int a1)] [] τ = Ru M_H_row d Q 1 [some (.ref a0), some (.int a1)] [.ref a0] τ) ∧
    (∀ (a0 : Nat) (a1 : Int32) (x0 : Nat) (τ : St), Ru M_H_row d Q 1 [some (.ref a0), some (.int a1)] [.ref x0] τ = (isA 11 x0 ∧ Ru M_H_row d Q 4 [some (.ref a0), some (.int a1)] [.ref (rtab x0 1)] τ)) ∧
    (∀ (a0 : Nat) (a1 : Int32) (x0 : Nat) (τ : St), Ru M_H_row d Q 4 [some (.ref a0), some (.int a1)] [.ref x0] τ = Ru M_H_row d Q 5 [some (.ref a0), some (.int a1)] [.int a1, .ref x0] τ) ∧
    (∀ (a0 : Nat) (a1 : Int32) (x0 : Int32) (x1 : Nat) (τ : St), Ru M_H_row d Q 5 [some (.ref a0), some (.int a1)] [.int x0, .ref x1] τ = (isA 4 x1 ∧ Cl d m_Row_has [.ref x1, .int x0] τ (fun v τ' => Ru M_H_row d Q 8 [some (.ref a0), some (.int a1)] (v.toList ++ []) τ'))) ∧
    (∀ (a0 : Nat) (a1 : Int32) (x0 : Int32) (τ : St), Ru M_H_row d Q 8 [some (.ref a0), some (.int a1)] [.int x0] τ = ((¬ x0 = 0 → Ru M_H_row d Q 22 [some (.ref a0), some (.int a1)] [] τ) ∧ (x0 = 0 → Ru M_H_row d Q 11 [some (.ref a0), some (.int a1)] [] τ))) ∧
    (∀ (a0 : Nat) (a1 : Int32) (τ : St), Ru M_H_row d Q 11 [some (.ref a0), some (.int a1)] [] τ = False) ∧
    (∀ (a0 : Nat) (a1 : Int32) (τ : St), Ru M_H_row d Q 22 [some (.ref a0), some (.int a1)] [] τ = Ru M_H_row d Q 23 [some (.ref a0), some (.int a1)] [.ref a0] τ) ∧
    (∀ (a0 : Nat) (a1 : Int32) (x0 : Nat) (τ : St), Ru M_H_row d Q 23 [some (.ref a0), some (.int a1)] [.ref x0] τ = (isA 11 x0 ∧ Ru M_H_row d Q 26 [some (.ref a0), some (.int a1)] [.ref (rtab x0 1)] τ)) ∧
    (∀ (a0 : Nat) (a1 : Int32) (x0 : Nat) (τ : St), Ru M_H_row d Q 26 [some (.ref a0), some (.int a1)] [.ref x0] τ = Ru M_H_row d Q 27 [some (.ref a0), some (.int a1)] [.int a1, .ref x0] τ) ∧
    (∀ (a0 : Nat) (a1 : Int32) (x0 : Int32) (x1 : Nat) (τ : St), Ru M_H_row d Q 27 [some (.ref a0), some (.int a1)] [.int x0, .ref x1] τ = (isA 4 x1 ∧ Cl d m_Row_at [.ref x1, .int x0] τ (fun v τ' => Ru M_H_row d Q 30 [some (.ref a0), some (.int a1)] (v.toList ++ []) τ'))) ∧
    (∀ (a0 : Nat) (a1 : Int32) (x0 : Int64) (τ : St), Ru M_H_row d Q 30 [some (.ref a0), some (.int a1)] [.long x0] τ = Q (some (.long x0)) τ) := ⟨
  fun _ _ _ => (R_at ok_H_row rfl).trans (e_ald rfl),
  fun _ _ _ _ => (R_at ok_H_row rfl).trans e_gR,
  fun _ _ _ _ => (R_at ok_H_row rfl).trans (e_ild rfl),
  fun _ _ x0 _ _ => (R_at ok_H_row rfl).trans (e_cv [.int x0] rfl rfl rfl),
  fun _ _ _ _ => (R_at ok_H_row rfl).trans e_ifn,
  fun _ _ _ => (R_at ok_H_row rfl).trans e_throw,
  fun _ _ _ => (R_at ok_H_row rfl).trans (e_ald rfl),
  fun _ _ _ _ => (R_at ok_H_row rfl).trans e_gR,
  fun _ _ _ _ => (R_at ok_H_row rfl).trans (e_ild rfl),
  fun _ _ x0 _ _ => (R_at ok_H_row rfl).trans (e_cv [.int x0] rfl rfl rfl),
  fun _ _ _ _ => (R_at ok_H_row rfl).trans e_lret⟩
set_option maxHeartbeats 4000000 in
theorem N_M_thrown (d : Nat) (Q : Qt) : ∀ (x0 : Nat) (τ : St), Cl (d + 1) m_M_thrown [.ref x0] τ Q = Ru M_M_thrown d Q 0 [some (.ref x0)] [] τ := fun _ _ => propext ⟨fun h => h.2, fun h => ⟨Nat.le_of_ble_eq_true rfl, h⟩⟩
set_option maxHeartbeats 4000000 in
theorem E_M_thrown (d : Nat) (Q : Qt) :
    (∀ (a0 : Nat) (τ : St), Ru M_M_thrown d Q 0 [some (.ref a0)] [] τ = Ru M_M_thrown d Q 1 [some (.ref a0)] [.ref a0] τ) ∧
    (∀ (a0 : Nat) (x0 : Nat) (τ : St), Ru M_M_thrown d Q 1 [some (.ref a0)] [.ref x0] τ = (isA 12 x0 ∧ Ru M_M_thrown d Q 4 [some (.ref a0)] [.int (τ.1 x0 0)] τ)) ∧
    (∀ (a0 : Nat) (x0 : Int32) (τ : St), Ru M_M_thrown d Q 4 [some (.ref a0)] [.int x0] τ = Q (some (.int x0)) τ) := ⟨
  fun _ _ => (R_at ok_M_thrown rfl).trans (e_ald rfl),
  fun _ _ _ => (R_at ok_M_thrown rfl).trans e_gI,
  fun _ _ _ => (R_at ok_M_thrown rfl).trans e_iret⟩
set_option maxHeartbeats 4000000 in
theorem N_M_refuse (d : Nat) (Q : Qt) : ∀ (x0 : Nat) (τ : St), Cl (d + 1) m_M_refuse [.ref x0] τ Q = Ru M_M_refuse d Q 0 [some (.ref x0)] [] τ := fun _ _ => propext ⟨fun h => h.2, fun h => ⟨Nat.le_of_ble_eq_true rfl, h⟩⟩
set_option maxHeartbeats 4000000 in
theorem E_M_refuse (d : Nat) (Q : Qt) :
    (∀ (a0 : Nat) (τ : St), Ru M_M_refuse d Q 0 [some (.ref a0)] [] τ = Ru M_M_refuse d Q 1 [some (.ref a0)] [.ref a0] τ) ∧
    (∀ (a0 : Nat) (x0 : Nat) (τ : St), Ru M_M_refuse d Q 1 [some (.ref a0)] [.ref x0] τ = Ru M_M_refuse d Q 2 [some (.ref a0)] [.int 1, .ref x0] τ) ∧
    (∀ (a0 : Nat) (x0 : Int32) (x1 : Nat) (τ : St), Ru M_M_refuse d Q 2 [some (.ref a0)] [.int x0, .ref x1] τ = (isA 12 x1 ∧ Ru M_M_refuse d Q 5 [some (.ref a0)] [] (sI τ x1 0 x0))) ∧
    (∀ (a0 : Nat) (τ : St), Ru M_M_refuse d Q 5 [some (.ref a0)] [] τ = Ru M_M_refuse d Q 6 [some (.ref a0)] [.int 0] τ) ∧
    (∀ (a0 : Nat) (x0 : Int32) (τ : St), Ru M_M_refuse d Q 6 [some (.ref a0)] [.int x0] τ = Q (some (.int x0)) τ) := ⟨
  fun _ _ => (R_at ok_M_refuse rfl).trans (e_ald rfl),
  fun _ _ _ => (R_at ok_M_refuse rfl).trans e_push,
  fun _ _ _ _ => (R_at ok_M_refuse rfl).trans e_pI,
  fun _ _ => (R_at ok_M_refuse rfl).trans e_push,
  fun _ _ _ => (R_at ok_M_refuse rfl).trans e_iret⟩
set_option maxHeartbeats 4000000 in
theorem N_M_in (d : Nat) (Q : Qt) : ∀ (x0 : Int64) (x1 : Int64) (x2 : Int64) (τ : St), Cl (d + 1) m_M_in [.long x0, .long x1, .long x2] τ Q = Ru M_M_in d Q 0 [some (.long x0), none, some (.long x1), none, some (.long x2), none] [] τ := fun _ _ _ _ => propext ⟨fun h => h.2, fun h => ⟨Nat.le_of_ble_eq_true rfl, h⟩⟩
set_option maxHeartbeats 4000000 in
theorem E_M_in (d : Nat) (Q : Qt) :
    (∀ (a0 : Int64) (a2 : Int64) (a4 : Int64) (τ : St), Ru M_M_in d Q 0 [some (.long a0), none, some (.long a2), none, some (.long a4), none] [] τ = Ru M_M_in d Q 1 [some (.long a0), none, some (.long a2), none, some (.long a4), none] [.long a0] τ) ∧
    (∀ (a0 : Int64) (a2 : Int64) (a4 : Int64) (x0 : Int64) (τ : St), Ru M_M_in d Q 1 [some (.long a0), none, some (.long a2), none, some (.long a4), none] [.long x0] τ = Ru M_M_in d Q 2 [some (.long a0), none, some (.long a2), none, some (.long a4), none] [.long a2, .long x0] τ) ∧
    (∀ (a0 : Int64) (a2 : Int64) (a4 : Int64) (x0 : Int64) (x1 : Int64) (τ : St), Ru M_M_in d Q 2 [some (.long a0), none, some (.long a2), none, some (.long a4), none] [.long x0, .long x1] τ = Ru M_M_in d Q 3 [some (.long a0), none, some (.long a2), none, some (.long a4), none] [.int (lg_cmp x1 x0)] τ) ∧
    (∀ (a0 : Int64) (a2 : Int64) (a4 : Int64) (x0 : Int32) (τ : St), Ru M_M_in d Q 3 [some (.long a0), none, some (.long a2), none, some (.long a4), none] [.int x0] τ = ((x0 < 0 → Ru M_M_in d Q 17 [some (.long a0), none, some (.long a2), none, some (.long a4), none] [] τ) ∧ (¬ x0 < 0 → Ru M_M_in d Q 6 [some (.long a0), none, some (.long a2), none, some (.long a4), none] [] τ))) ∧
    (∀ (a0 : Int64) (a2 : Int64) (a4 : Int64) (τ : St), Ru M_M_in d Q 6 [some (.long a0), none, some (.long a2), none, some (.long a4), none] [] τ = Ru M_M_in d Q 7 [some (.long a0), none, some (.long a2), none, some (.long a4), none] [.long a0] τ) ∧
    (∀ (a0 : Int64) (a2 : Int64) (a4 : Int64) (x0 : Int64) (τ : St), Ru M_M_in d Q 7 [some (.long a0), none, some (.long a2), none, some (.long a4), none] [.long x0] τ = Ru M_M_in d Q 9 [some (.long a0), none, some (.long a2), none, some (.long a4), none] [.long a4, .long x0] τ) ∧
    (∀ (a0 : Int64) (a2 : Int64) (a4 : Int64) (x0 : Int64) (x1 : Int64) (τ : St), Ru M_M_in d Q 9 [some (.long a0), none, some (.long a2), none, some (.long a4), none] [.long x0, .long x1] τ = Ru M_M_in d Q 10 [some (.long a0), none, some (.long a2), none, some (.long a4), none] [.int (lg_cmp x1 x0)] τ) ∧
    (∀ (a0 : Int64) (a2 : Int64) (a4 : Int64) (x0 : Int32) (τ : St), Ru M_M_in d Q 10 [some (.long a0), none, some (.long a2), none, some (.long a4), none] [.int x0] τ = ((0 < x0 → Ru M_M_in d Q 17 [some (.long a0), none, some (.long a2), none, some (.long a4), none] [] τ) ∧ (¬ 0 < x0 → Ru M_M_in d Q 13 [some (.long a0), none, some (.long a2), none, some (.long a4), none] [] τ))) ∧
    (∀ (a0 : Int64) (a2 : Int64) (a4 : Int64) (τ : St), Ru M_M_in d Q 13 [some (.long a0), none, some (.long a2), none, some (.long a4), none] [] τ = Ru M_M_in d Q 14 [some (.long a0), none, some (.long a2), none, some (.long a4), none] [.int 1] τ) ∧
    (∀ (a0 : Int64) (a2 : Int64) (a4 : Int64) (x0 : Int32) (τ : St), Ru M_M_in d Q 14 [some (.long a0), none, some (.long a2), none, some (.long a4), none] [.int x0] τ = Ru M_M_in d Q 18 [some (.long a0), none, some (.long a2), none, some (.long a4), none] [.int x0] τ) ∧
    (∀ (a0 : Int64) (a2 : Int64) (a4 : Int64) (τ : St), Ru M_M_in d Q 17 [some (.long a0), none, some (.long a2), none, some (.long a4), none] [] τ = Ru M_M_in d Q 18 [some (.long a0), none, some (.long a2), none, some (.long a4), none] [.int 0] τ) ∧
    (∀ (a0 : Int64) (a2 : Int64) (a4 : Int64) (x0 : Int32) (τ : St), Ru M_M_in d Q 18 [some (.long a0), none, some (.long a2), none, some (.long a4), none] [.int x0] τ = ((x0 = 0 ∨ x0 = 1) ∧ Q (some (.int x0)) τ)) := ⟨
  fun _ _ _ _ => (R_at ok_M_in rfl).trans (e_lld rfl),
  fun _ _ _ _ _ => (R_at ok_M_in rfl).trans (e_lld rfl),
  fun _ _ _ _ _ _ => (R_at ok_M_in rfl).trans e_lcmp,
  fun _ _ _ _ _ => (R_at ok_M_in rfl).trans e_if,
  fun _ _ _ _ => (R_at ok_M_in rfl).trans (e_lld rfl),
  fun _ _ _ _ _ => (R_at ok_M_in rfl).trans (e_lld rfl),
  fun _ _ _ _ _ _ => (R_at ok_M_in rfl).trans e_lcmp,
  fun _ _ _ _ _ => (R_at ok_M_in rfl).trans e_if,
  fun _ _ _ _ => (R_at ok_M_in rfl).trans e_push,
  fun _ _ _ _ _ => (R_at ok_M_in rfl).trans e_goto,
  fun _ _ _ _ => (R_at ok_M_in rfl).trans e_push,
  fun _ _ _ _ _ => (R_at ok_M_in rfl).trans e_zret⟩
set_option maxHeartbeats 4000000 in
theorem N_M_has (d : Nat) (Q : Qt) : ∀ (x0 : Int32) (x1 : Int32) (τ : St), Cl (d + 1) m_M_has [.int x0, .int x1] τ Q = Ru M_M_has d Q 0 [some (.int x0), some (.int x1)] [] τ := fun _ _ _ => propext ⟨fun h => h.2, fun h => ⟨Nat.le_of_ble_eq_true rfl, h⟩⟩
set_option maxHeartbeats 4000000 in
theorem E_M_has (d : Nat) (Q : Qt) :
    (∀ (a0 : Int32) (a1 : Int32) (τ : St), Ru M_M_has d Q 0 [some (.int a0), some (.int a1)] [] τ = Ru M_M_has d Q 1 [some (.int a0), some (.int a1)] [.int a0] τ) ∧
    (∀ (a0 : Int32) (a1 : Int32) (x0 : Int32) (τ : St), Ru M_M_has d Q 1 [some (.int a0), some (.int a1)] [.int x0] τ = Ru M_M_has d Q 2 [some (.int a0), some (.int a1)] [.int a1, .int x0] τ) ∧
    (∀ (a0 : Int32) (a1 : Int32) (x0 : Int32) (x1 : Int32) (τ : St), Ru M_M_has d Q 2 [some (.int a0), some (.int a1)] [.int x0, .int x1] τ = Ru M_M_has d Q 3 [some (.int a0), some (.int a1)] [.int (x1 >>> (x0 &&& 31))] τ) ∧
    (∀ (a0 : Int32) (a1 : Int32) (x0 : Int32) (τ : St), Ru M_M_has d Q 3 [some (.int a0), some (.int a1)] [.int x0] τ = Ru M_M_has d Q 4 [some (.int a0), some (.int a1)] [.int 1, .int x0] τ) ∧
    (∀ (a0 : Int32) (a1 : Int32) (x0 : Int32) (x1 : Int32) (τ : St), Ru M_M_has d Q 4 [some (.int a0), some (.int a1)] [.int x0, .int x1] τ = Ru M_M_has d Q 5 [some (.int a0), some (.int a1)] [.int (x1 &&& x0)] τ) ∧
    (∀ (a0 : Int32) (a1 : Int32) (x0 : Int32) (τ : St), Ru M_M_has d Q 5 [some (.int a0), some (.int a1)] [.int x0] τ = Ru M_M_has d Q 6 [some (.int a0), some (.int a1)] [.int 1, .int x0] τ) ∧
    (∀ (a0 : Int32) (a1 : Int32) (x0 : Int32) (x1 : Int32) (τ : St), Ru M_M_has d Q 6 [some (.int a0), some (.int a1)] [.int x0, .int x1] τ = ((¬ x1 = x0 → Ru M_M_has d Q 13 [some (.int a0), some (.int a1)] [] τ) ∧ (x1 = x0 → Ru M_M_has d Q 9 [some (.int a0), some (.int a1)] [] τ))) ∧
    (∀ (a0 : Int32) (a1 : Int32) (τ : St), Ru M_M_has d Q 9 [some (.int a0), some (.int a1)] [] τ = Ru M_M_has d Q 10 [some (.int a0), some (.int a1)] [.int 1] τ) ∧
    (∀ (a0 : Int32) (a1 : Int32) (x0 : Int32) (τ : St), Ru M_M_has d Q 10 [some (.int a0), some (.int a1)] [.int x0] τ = Ru M_M_has d Q 14 [some (.int a0), some (.int a1)] [.int x0] τ) ∧
    (∀ (a0 : Int32) (a1 : Int32) (τ : St), Ru M_M_has d Q 13 [some (.int a0), some (.int a1)] [] τ = Ru M_M_has d Q 14 [some (.int a0), some (.int a1)] [.int 0] τ) ∧
    (∀ (a0 : Int32) (a1 : Int32) (x0 : Int32) (τ : St), Ru M_M_has d Q 14 [some (.int a0), some (.int a1)] [.int x0] τ = ((x0 = 0 ∨ x0 = 1) ∧ Q (some (.int x0)) τ)) := ⟨
  fun _ _ _ => (R_at ok_M_has rfl).trans (e_ild rfl),
  fun _ _ _ _ => (R_at ok_M_has rfl).trans (e_ild rfl),
  fun _ _ _ _ _ => (R_at ok_M_has rfl).trans e_bin,
  fun _ _ _ _ => (R_at ok_M_has rfl).trans e_push,
  fun _ _ _ _ _ => (R_at ok_M_has rfl).trans e_bin,
  fun _ _ _ _ => (R_at ok_M_has rfl).trans e_push,
  fun _ _ _ _ _ => (R_at ok_M_has rfl).trans e_icn,
  fun _ _ _ => (R_at ok_M_has rfl).trans e_push,
  fun _ _ _ _ => (R_at ok_M_has rfl).trans e_goto,
  fun _ _ _ => (R_at ok_M_has rfl).trans e_push,
  fun _ _ _ _ => (R_at ok_M_has rfl).trans e_zret⟩
set_option maxHeartbeats 4000000 in
theorem N_M_flag (d : Nat) (Q : Qt) : ∀ (x0 : Int32) (τ : St), Cl (d + 1) m_M_flag [.int x0] τ Q = Ru M_M_flag d Q 0 [some (.int x0)] [] τ := fun _ _ => propext ⟨fun h => h.2, fun h => ⟨Nat.le_of_ble_eq_true rfl, h⟩⟩
set_option maxHeartbeats 4000000 in
theorem E_M_flag (d : Nat) (Q : Qt) :
    (∀ (a0 : Int32) (τ : St), Ru M_M_flag d Q 0 [some (.int a0)] [] τ = Ru M_M_flag d Q 1 [some (.int a0)] [.int a0] τ) ∧
    (∀ (a0 : Int32) (x0 : Int32) (τ : St), Ru M_M_flag d Q 1 [some (.int a0)] [.int x0] τ = ((x0 = 0 → Ru M_M_flag d Q 8 [some (.int a0)] [] τ) ∧ (¬ x0 = 0 → Ru M_M_flag d Q 4 [some (.int a0)] [] τ))) ∧
    (∀ (a0 : Int32) (τ : St), Ru M_M_flag d Q 4 [some (.int a0)] [] τ = Ru M_M_flag d Q 5 [some (.int a0)] [.int 1] τ) ∧
    (∀ (a0 : Int32) (x0 : Int32) (τ : St), Ru M_M_flag d Q 5 [some (.int a0)] [.int x0] τ = Ru M_M_flag d Q 9 [some (.int a0)] [.int x0] τ) ∧
    (∀ (a0 : Int32) (τ : St), Ru M_M_flag d Q 8 [some (.int a0)] [] τ = Ru M_M_flag d Q 9 [some (.int a0)] [.int 0] τ) ∧
    (∀ (a0 : Int32) (x0 : Int32) (τ : St), Ru M_M_flag d Q 9 [some (.int a0)] [.int x0] τ = Q (some (.int x0)) τ) := ⟨
  fun _ _ => (R_at ok_M_flag rfl).trans (e_ild rfl),
  fun _ _ _ => (R_at ok_M_flag rfl).trans e_if,
  fun _ _ => (R_at ok_M_flag rfl).trans e_push,
  fun _ _ _ => (R_at ok_M_flag rfl).trans e_goto,
  fun _ _ => (R_at ok_M_flag rfl).trans e_push,
  fun _ _ _ => (R_at ok_M_flag rfl).trans e_iret⟩
set_option maxHeartbeats 4000000 in
theorem N_M_common (d : Nat) (Q : Qt) : ∀ (x0 : Int64) (x1 : Int64) (τ : St), Cl (d + 1) m_M_common [.long x0, .long x1] τ Q = Ru M_M_common d Q 0 [some (.long x0), none, some (.long x1), none] [] τ := fun _ _ _ => propext ⟨fun h => h.2, fun h => ⟨Nat.le_of_ble_eq_true rfl, h⟩⟩
set_option maxHeartbeats 4000000 in
theorem E_M_common (d : Nat) (Q : Qt) :
    (∀ (a0 : Int64) (a2 : Int64) (τ : St), Ru M_M_common d Q 0 [some (.long a0), none, some (.long a2), none] [] τ = Ru M_M_common d Q 1 [some (.long a0), none, some (.long a2), none] [.long a2] τ) ∧
    (∀ (a0 : Int64) (a2 : Int64) (x0 : Int64) (τ : St), Ru M_M_common d Q 1 [some (.long a0), none, some (.long a2), none] [.long x0] τ = Ru M_M_common d Q 2 [some (.long a0), none, some (.long a2), none] [.long 0, .long x0] τ) ∧
    (∀ (a0 : Int64) (a2 : Int64) (x0 : Int64) (x1 : Int64) (τ : St), Ru M_M_common d Q 2 [some (.long a0), none, some (.long a2), none] [.long x0, .long x1] τ = Ru M_M_common d Q 3 [some (.long a0), none, some (.long a2), none] [.int (lg_cmp x1 x0)] τ) ∧
    (∀ (a0 : Int64) (a2 : Int64) (x0 : Int32) (τ : St), Ru M_M_common d Q 3 [some (.long a0), none, some (.long a2), none] [.int x0] τ = ((¬ x0 = 0 → Ru M_M_common d Q 10 [some (.long a0), none, some (.long a2), none] [] τ) ∧ (x0 = 0 → Ru M_M_common d Q 6 [some (.long a0), none, some (.long a2), none] [] τ))) ∧
    (∀ (a0 : Int64) (a2 : Int64) (τ : St), Ru M_M_common d Q 6 [some (.long a0), none, some (.long a2), none] [] τ = Ru M_M_common d Q 7 [some (.long a0), none, some (.long a2), none] [.long a0] τ) ∧
    (∀ (a0 : Int64) (a2 : Int64) (x0 : Int64) (τ : St), Ru M_M_common d Q 7 [some (.long a0), none, some (.long a2), none] [.long x0] τ = Ru M_M_common d Q 17 [some (.long a0), none, some (.long a2), none] [.long x0] τ) ∧
    (∀ (a0 : Int64) (a2 : Int64) (τ : St), Ru M_M_common d Q 10 [some (.long a0), none, some (.long a2), none] [] τ = Ru M_M_common d Q 11 [some (.long a0), none, some (.long a2), none] [.long a2] τ) ∧
    (∀ (a0 : Int64) (a2 : Int64) (x0 : Int64) (τ : St), Ru M_M_common d Q 11 [some (.long a0), none, some (.long a2), none] [.long x0] τ = Ru M_M_common d Q 12 [some (.long a0), none, some (.long a2), none] [.long a0, .long x0] τ) ∧
    (∀ (a0 : Int64) (a2 : Int64) (x0 : Int64) (x1 : Int64) (τ : St), Ru M_M_common d Q 12 [some (.long a0), none, some (.long a2), none] [.long x0, .long x1] τ = Ru M_M_common d Q 13 [some (.long a0), none, some (.long a2), none] [.long a2, .long x0, .long x1] τ) ∧
    (∀ (a0 : Int64) (a2 : Int64) (x0 : Int64) (x1 : Int64) (x2 : Int64) (τ : St), Ru M_M_common d Q 13 [some (.long a0), none, some (.long a2), none] [.long x0, .long x1, .long x2] τ = (¬ x0 = 0 ∧ Ru M_M_common d Q 14 [some (.long a0), none, some (.long a2), none] [.long (x1 - x1 / x0 * x0), .long x2] τ)) ∧
    (∀ (a0 : Int64) (a2 : Int64) (x0 : Int64) (x1 : Int64) (τ : St), Ru M_M_common d Q 14 [some (.long a0), none, some (.long a2), none] [.long x0, .long x1] τ = Cl d m_M_common [.long x1, .long x0] τ (fun v τ' => Ru M_M_common d Q 17 [some (.long a0), none, some (.long a2), none] (v.toList ++ []) τ')) ∧
    (∀ (a0 : Int64) (a2 : Int64) (x0 : Int64) (τ : St), Ru M_M_common d Q 17 [some (.long a0), none, some (.long a2), none] [.long x0] τ = Q (some (.long x0)) τ) := ⟨
  fun _ _ _ => (R_at ok_M_common rfl).trans (e_lld rfl),
  fun _ _ _ _ => (R_at ok_M_common rfl).trans e_push,
  fun _ _ _ _ _ => (R_at ok_M_common rfl).trans e_lcmp,
  fun _ _ _ _ => (R_at ok_M_common rfl).trans e_ifn,
  fun _ _ _ => (R_at ok_M_common rfl).trans (e_lld rfl),
  fun _ _ _ _ => (R_at ok_M_common rfl).trans e_goto,
  fun _ _ _ => (R_at ok_M_common rfl).trans (e_lld rfl),
  fun _ _ _ _ => (R_at ok_M_common rfl).trans (e_lld rfl),
  fun _ _ _ _ _ => (R_at ok_M_common rfl).trans (e_lld rfl),
  fun _ _ _ _ _ _ => (R_at ok_M_common rfl).trans e_lbinz,
  fun _ _ x0 x1 _ => (R_at ok_M_common rfl).trans (e_cs [.long x1, .long x0] rfl rfl rfl),
  fun _ _ _ _ => (R_at ok_M_common rfl).trans e_lret⟩
set_option maxHeartbeats 4000000 in
theorem N_M_enters (d : Nat) (Q : Qt) : ∀ (x0 : Nat) (x1 : Int64) (τ : St), Cl (d + 1) m_M_enters [.ref x0, .long x1] τ Q = Ru M_M_enters d Q 0 [some (.ref x0), some (.long x1), none] [] τ := fun _ _ _ => propext ⟨fun h => h.2, fun h => ⟨Nat.le_of_ble_eq_true rfl, h⟩⟩
set_option maxHeartbeats 4000000 in
theorem E_M_enters (d : Nat) (Q : Qt) :
    (∀ (a0 : Nat) (a1 : Int64) (τ : St), Ru M_M_enters d Q 0 [some (.ref a0), some (.long a1), none] [] τ = Ru M_M_enters d Q 1 [some (.ref a0), some (.long a1), none] [.ref a0] τ) ∧
    (∀ (a0 : Nat) (a1 : Int64) (x0 : Nat) (τ : St), Ru M_M_enters d Q 1 [some (.ref a0), some (.long a1), none] [.ref x0] τ = (isA 12 x0 ∧ Ru M_M_enters d Q 4 [some (.ref a0), some (.long a1), none] [.ref (rtab x0 2)] τ)) ∧
    (∀ (a0 : Nat) (a1 : Int64) (x0 : Nat) (τ : St), Ru M_M_enters d Q 4 [some (.ref a0), some (.long a1), none] [.ref x0] τ = Ru M_M_enters d Q 5 [some (.ref a0), some (.long a1), none] [.ref a0, .ref x0] τ) ∧
    (∀ (a0 : Nat) (a1 : Int64) (x0 : Nat) (x1 : Nat) (τ : St), Ru M_M_enters d Q 5 [some (.ref a0), some (.long a1), none] [.ref x0, .ref x1] τ = (isA 12 x0 ∧ Ru M_M_enters d Q 8 [some (.ref a0), some (.long a1), none] [.int (τ.1 x0 1), .ref x1] τ)) ∧
    (∀ (a0 : Nat) (a1 : Int64) (x0 : Int32) (x1 : Nat) (τ : St), Ru M_M_enters d Q 8 [some (.ref a0), some (.long a1), none] [.int x0, .ref x1] τ = Ru M_M_enters d Q 9 [some (.ref a0), some (.long a1), none] [.long a1, .int x0, .ref x1] τ) ∧
    (∀ (a0 : Nat) (a1 : Int64) (x0 : Int64) (x1 : Int32) (x2 : Nat) (τ : St), Ru M_M_enters d Q 9 [some (.ref a0), some (.long a1), none] [.long x0, .int x1, .ref x2] τ = (isA 15 x2 ∧ vp_in x1 (len x2) ∧ Ru M_M_enters d Q 10 [some (.ref a0), some (.long a1), none] [] (sL τ x2 x1.toNatClampNeg x0))) ∧
    (∀ (a0 : Nat) (a1 : Int64) (τ : St), Ru M_M_enters d Q 10 [some (.ref a0), some (.long a1), none] [] τ = Ru M_M_enters d Q 11 [some (.ref a0), some (.long a1), none] [.ref a0] τ) ∧
    (∀ (a0 : Nat) (a1 : Int64) (x0 : Nat) (τ : St), Ru M_M_enters d Q 11 [some (.ref a0), some (.long a1), none] [.ref x0] τ = Ru M_M_enters d Q 12 [some (.ref a0), some (.long a1), none] [.ref x0, .ref x0] τ) ∧
    (∀ (a0 : Nat) (a1 : Int64) (x0 : Nat) (x1 : Nat) (τ : St), Ru M_M_enters d Q 12 [some (.ref a0), some (.long a1), none] [.ref x0, .ref x1] τ = (isA 12 x0 ∧ Ru M_M_enters d Q 15 [some (.ref a0), some (.long a1), none] [.int (τ.1 x0 1), .ref x1] τ)) ∧
    (∀ (a0 : Nat) (a1 : Int64) (x0 : Int32) (x1 : Nat) (τ : St), Ru M_M_enters d Q 15 [some (.ref a0), some (.long a1), none] [.int x0, .ref x1] τ = Ru M_M_enters d Q 16 [some (.ref a0), some (.long a1), none] [.int 1, .int x0, .ref x1] τ) ∧
    (∀ (a0 : Nat) (a1 : Int64) (x0 : Int32) (x1 : Int32) (x2 : Nat) (τ : St), Ru M_M_enters d Q 16 [some (.ref a0), some (.long a1), none] [.int x0, .int x1, .ref x2] τ = Ru M_M_enters d Q 17 [some (.ref a0), some (.long a1), none] [.int (x1 + x0), .ref x2] τ) ∧
    (∀ (a0 : Nat) (a1 : Int64) (x0 : Int32) (x1 : Nat) (τ : St), Ru M_M_enters d Q 17 [some (.ref a0), some (.long a1), none] [.int x0, .ref x1] τ = (isA 12 x1 ∧ Ru M_M_enters d Q 20 [some (.ref a0), some (.long a1), none] [] (sI τ x1 1 x0))) ∧
    (∀ (a0 : Nat) (a1 : Int64) (τ : St), Ru M_M_enters d Q 20 [some (.ref a0), some (.long a1), none] [] τ = Q none τ) := ⟨
  fun _ _ _ => (R_at ok_M_enters rfl).trans (e_ald rfl),
  fun _ _ _ _ => (R_at ok_M_enters rfl).trans e_gR,
  fun _ _ _ _ => (R_at ok_M_enters rfl).trans (e_ald rfl),
  fun _ _ _ _ _ => (R_at ok_M_enters rfl).trans e_gI,
  fun _ _ _ _ _ => (R_at ok_M_enters rfl).trans (e_lld rfl),
  fun _ _ _ _ _ _ => (R_at ok_M_enters rfl).trans e_asl,
  fun _ _ _ => (R_at ok_M_enters rfl).trans (e_ald rfl),
  fun _ _ _ _ => (R_at ok_M_enters rfl).trans (e_dup rfl),
  fun _ _ _ _ _ => (R_at ok_M_enters rfl).trans e_gI,
  fun _ _ _ _ _ => (R_at ok_M_enters rfl).trans e_push,
  fun _ _ _ _ _ _ => (R_at ok_M_enters rfl).trans e_bin,
  fun _ _ _ _ _ => (R_at ok_M_enters rfl).trans e_pI,
  fun _ _ _ => (R_at ok_M_enters rfl).trans e_vret⟩
set_option maxHeartbeats 4000000 in
theorem N_M_fields (d : Nat) (Q : Qt) : ∀ (x0 : Nat) (τ : St), Cl (d + 1) m_M_fields [.ref x0] τ Q = Ru M_M_fields d Q 0 [some (.ref x0)] [] τ := fun _ _ => propext ⟨fun h => h.2, fun h => ⟨Nat.le_of_ble_eq_true rfl, h⟩⟩
set_option maxHeartbeats 4000000 in
theorem E_M_fields (d : Nat) (Q : Qt) :
    (∀ (a0 : Nat) (τ : St), Ru M_M_fields d Q 0 [some (.ref a0)] [] τ = Ru M_M_fields d Q 1 [some (.ref a0)] [.ref a0] τ) ∧
    (∀ (a0 : Nat) (x0 : Nat) (τ : St), Ru M_M_fields d Q 1 [some (.ref a0)] [.ref x0] τ = (isA 12 x0 ∧ Ru M_M_fields d Q 4 [some (.ref a0)] [.int (τ.1 x0 3)] τ)) ∧
    (∀ (a0 : Nat) (x0 : Int32) (τ : St), Ru M_M_fields d Q 4 [some (.ref a0)] [.int x0] τ = Ru M_M_fields d Q 5 [some (.ref a0)] [.ref a0, .int x0] τ) ∧
    (∀ (a0 : Nat) (x0 : Nat) (x1 : Int32) (τ : St), Ru M_M_fields d Q 5 [some (.ref a0)] [.ref x0, .int x1] τ = (isA 12 x0 ∧ Ru M_M_fields d Q 8 [some (.ref a0)] [.int (τ.1 x0 4), .int x1] τ)) ∧
    (∀ (a0 : Nat) (x0 : Int32) (x1 : Int32) (τ : St), Ru M_M_fields d Q 8 [some (.ref a0)] [.int x0, .int x1] τ = Ru M_M_fields d Q 9 [some (.ref a0)] [.int (x1 * x0)] τ) ∧
    (∀ (a0 : Nat) (x0 : Int32) (τ : St), Ru M_M_fields d Q 9 [some (.ref a0)] [.int x0] τ = Q (some (.int x0)) τ) := ⟨
  fun _ _ => (R_at ok_M_fields rfl).trans (e_ald rfl),
  fun _ _ _ => (R_at ok_M_fields rfl).trans e_gI,
  fun _ _ _ => (R_at ok_M_fields rfl).trans (e_ald rfl),
  fun _ _ _ _ => (R_at ok_M_fields rfl).trans e_gI,
  fun _ _ _ _ => (R_at ok_M_fields rfl).trans e_bin,
  fun _ _ _ => (R_at ok_M_fields rfl).trans e_iret⟩
set_option maxHeartbeats 4000000 in
theorem N_M_isField (d : Nat) (Q : Qt) : ∀ (x0 : Nat) (x1 : Int32) (τ : St), Cl (d + 1) m_M_isField [.ref x0, .int x1] τ Q = Ru M_M_isField d Q 0 [some (.ref x0), some (.int x1)] [] τ := fun _ _ _ => propext ⟨fun h => h.2, fun h => ⟨Nat.le_of_ble_eq_true rfl, h⟩⟩
set_option maxHeartbeats 4000000 in
theorem E_M_isField (d : Nat) (Q : Qt) :
    (∀ (a0 : Nat) (a1 : Int32) (τ : St), Ru M_M_isField d Q 0 [some (.ref a0), some (.int a1)] [] τ = Ru M_M_isField d Q 1 [some (.ref a0), some (.int a1)] [.int a1] τ) ∧
    (∀ (a0 : Nat) (a1 : Int32) (x0 : Int32) (τ : St), Ru M_M_isField d Q 1 [some (.ref a0), some (.int a1)] [.int x0] τ = Ru M_M_isField d Q 2 [some (.ref a0), some (.int a1)] [.long x0.toInt64] τ) ∧
    (∀ (a0 : Nat) (a1 : Int32) (x0 : Int64) (τ : St), Ru M_M_isField d Q 2 [some (.ref a0), some (.int a1)] [.long x0] τ = Ru M_M_isField d Q 3 [some (.ref a0), some (.int a1)] [.long 0, .long x0] τ) ∧
    (∀ (a0 : Nat) (a1 : Int32) (x0 : Int64) (x1 : Int64) (τ : St), Ru M_M_isField d Q 3 [some (.ref a0), some (.int a1)] [.long x0, .long x1] τ = Ru M_M_isField d Q 4 [some (.ref a0), some (.int a1)] [.ref a0, .long x0, .long x1] τ) ∧
    (∀ (a0 : Nat) (a1 : Int32) (x0 : Nat) (x1 : Int64) (x2 : Int64) (τ : St), Ru M_M_isField d Q 4 [some (.ref a0), some (.int a1)] [.ref x0, .long x1, .long x2] τ = (isA 12 x0 ∧ Cl d m_M_fields [.ref x0] τ (fun v τ' => Ru M_M_isField d Q 7 [some (.ref a0), some (.int a1)] (v.toList ++ [.long x1, .long x2]) τ'))) ∧
    (∀ (a0 : Nat) (a1 : Int32) (x0 : Int32) (x1 : Int64) (x2 : Int64) (τ : St), Ru M_M_isField d Q 7 [some (.ref a0), some (.int a1)] [.int x0, .long x1, .long x2] τ = Ru M_M_isField d Q 8 [some (.ref a0), some (.int a1)] [.int 1, .int x0, .long x1, .long x2] τ) ∧
    (∀ (a0 : Nat) (a1 : Int32) (x0 : Int32) (x1 : Int32) (x2 : Int64) (x3 : Int64) (τ : St), Ru M_M_isField d Q 8 [some (.ref a0), some (.int a1)] [.int x0, .int x1, .long x2, .long x3] τ = Ru M_M_isField d Q 9 [some (.ref a0), some (.int a1)] [.int (x1 - x0), .long x2, .long x3] τ) ∧
    (∀ (a0 : Nat) (a1 : Int32) (x0 : Int32) (x1 : Int64) (x2 : Int64) (τ : St), Ru M_M_isField d Q 9 [some (.ref a0), some (.int a1)] [.int x0, .long x1, .long x2] τ = Ru M_M_isField d Q 10 [some (.ref a0), some (.int a1)] [.long x0.toInt64, .long x1, .long x2] τ) ∧
    (∀ (a0 : Nat) (a1 : Int32) (x0 : Int64) (x1 : Int64) (x2 : Int64) (τ : St), Ru M_M_isField d Q 10 [some (.ref a0), some (.int a1)] [.long x0, .long x1, .long x2] τ = Cl d m_M_in [.long x2, .long x1, .long x0] τ (fun v τ' => Ru M_M_isField d Q 13 [some (.ref a0), some (.int a1)] (v.toList ++ []) τ')) ∧
    (∀ (a0 : Nat) (a1 : Int32) (x0 : Int32) (τ : St), Ru M_M_isField d Q 13 [some (.ref a0), some (.int a1)] [.int x0] τ = ((x0 = 0 ∨ x0 = 1) ∧ Q (some (.int x0)) τ)) := ⟨
  fun _ _ _ => (R_at ok_M_isField rfl).trans (e_ild rfl),
  fun _ _ _ _ => (R_at ok_M_isField rfl).trans e_il,
  fun _ _ _ _ => (R_at ok_M_isField rfl).trans e_push,
  fun _ _ _ _ _ => (R_at ok_M_isField rfl).trans (e_ald rfl),
  fun _ _ _ _ _ _ => (R_at ok_M_isField rfl).trans (e_cv [] rfl rfl rfl),
  fun _ _ _ _ _ _ => (R_at ok_M_isField rfl).trans e_push,
  fun _ _ _ _ _ _ _ => (R_at ok_M_isField rfl).trans e_bin,
  fun _ _ _ _ _ _ => (R_at ok_M_isField rfl).trans e_il,
  fun _ _ x0 x1 x2 _ => (R_at ok_M_isField rfl).trans (e_cs [.long x2, .long x1, .long x0] rfl rfl rfl),
  fun _ _ _ _ => (R_at ok_M_isField rfl).trans e_zret⟩
set_option maxHeartbeats 4000000 in
theorem N_M_isShip (d : Nat) (Q : Qt) : ∀ (x0 : Nat) (x1 : Int32) (τ : St), Cl (d + 1) m_M_isShip [.ref x0, .int x1] τ Q = Ru M_M_isShip d Q 0 [some (.ref x0), some (.int x1)] [] τ := fun _ _ _ => propext ⟨fun h => h.2, fun h => ⟨Nat.le_of_ble_eq_true rfl, h⟩⟩
set_option maxHeartbeats 4000000 in
theorem E_M_isShip (d : Nat) (Q : Qt) :
    (∀ (a0 : Nat) (a1 : Int32) (τ : St), Ru M_M_isShip d Q 0 [some (.ref a0), some (.int a1)] [] τ = Ru M_M_isShip d Q 1 [some (.ref a0), some (.int a1)] [.int a1] τ) ∧
    (∀ (a0 : Nat) (a1 : Int32) (x0 : Int32) (τ : St), Ru M_M_isShip d Q 1 [some (.ref a0), some (.int a1)] [.int x0] τ = Ru M_M_isShip d Q 2 [some (.ref a0), some (.int a1)] [.long x0.toInt64] τ) ∧
    (∀ (a0 : Nat) (a1 : Int32) (x0 : Int64) (τ : St), Ru M_M_isShip d Q 2 [some (.ref a0), some (.int a1)] [.long x0] τ = Ru M_M_isShip d Q 3 [some (.ref a0), some (.int a1)] [.long 0, .long x0] τ) ∧
    (∀ (a0 : Nat) (a1 : Int32) (x0 : Int64) (x1 : Int64) (τ : St), Ru M_M_isShip d Q 3 [some (.ref a0), some (.int a1)] [.long x0, .long x1] τ = Ru M_M_isShip d Q 4 [some (.ref a0), some (.int a1)] [.ref a0, .long x0, .long x1] τ) ∧
    (∀ (a0 : Nat) (a1 : Int32) (x0 : Nat) (x1 : Int64) (x2 : Int64) (τ : St), Ru M_M_isShip d Q 4 [some (.ref a0), some (.int a1)] [.ref x0, .long x1, .long x2] τ = (isA 12 x0 ∧ Ru M_M_isShip d Q 7 [some (.ref a0), some (.int a1)] [.int (τ.1 x0 5), .long x1, .long x2] τ)) ∧
    (∀ (a0 : Nat) (a1 : Int32) (x0 : Int32) (x1 : Int64) (x2 : Int64) (τ : St), Ru M_M_isShip d Q 7 [some (.ref a0), some (.int a1)] [.int x0, .long x1, .long x2] τ = Ru M_M_isShip d Q 8 [some (.ref a0), some (.int a1)] [.int 1, .int x0, .long x1, .long x2] τ) ∧
    (∀ (a0 : Nat) (a1 : Int32) (x0 : Int32) (x1 : Int32) (x2 : Int64) (x3 : Int64) (τ : St), Ru M_M_isShip d Q 8 [some (.ref a0), some (.int a1)] [.int x0, .int x1, .long x2, .long x3] τ = Ru M_M_isShip d Q 9 [some (.ref a0), some (.int a1)] [.int (x1 - x0), .long x2, .long x3] τ) ∧
    (∀ (a0 : Nat) (a1 : Int32) (x0 : Int32) (x1 : Int64) (x2 : Int64) (τ : St), Ru M_M_isShip d Q 9 [some (.ref a0), some (.int a1)] [.int x0, .long x1, .long x2] τ = Ru M_M_isShip d Q 10 [some (.ref a0), some (.int a1)] [.long x0.toInt64, .long x1, .long x2] τ) ∧
    (∀ (a0 : Nat) (a1 : Int32) (x0 : Int64) (x1 : Int64) (x2 : Int64) (τ : St), Ru M_M_isShip d Q 10 [some (.ref a0), some (.int a1)] [.long x0, .long x1, .long x2] τ = Cl d m_M_in [.long x2, .long x1, .long x0] τ (fun v τ' => Ru M_M_isShip d Q 13 [some (.ref a0), some (.int a1)] (v.toList ++ []) τ')) ∧
    (∀ (a0 : Nat) (a1 : Int32) (x0 : Int32) (τ : St), Ru M_M_isShip d Q 13 [some (.ref a0), some (.int a1)] [.int x0] τ = ((x0 = 0 ∨ x0 = 1) ∧ Q (some (.int x0)) τ)) := ⟨
  fun _ _ _ => (R_at ok_M_isShip rfl).trans (e_ild rfl),
  fun _ _ _ _ => (R_at ok_M_isShip rfl).trans e_il,
  fun _ _ _ _ => (R_at ok_M_isShip rfl).trans e_push,
  fun _ _ _ _ _ => (R_at ok_M_isShip rfl).trans (e_ald rfl),
  fun _ _ _ _ _ _ => (R_at ok_M_isShip rfl).trans e_gI,
  fun _ _ _ _ _ _ => (R_at ok_M_isShip rfl).trans e_push,
  fun _ _ _ _ _ _ _ => (R_at ok_M_isShip rfl).trans e_bin,
  fun _ _ _ _ _ _ => (R_at ok_M_isShip rfl).trans e_il,
  fun _ _ x0 x1 x2 _ => (R_at ok_M_isShip rfl).trans (e_cs [.long x2, .long x1, .long x0] rfl rfl rfl),
  fun _ _ _ _ => (R_at ok_M_isShip rfl).trans e_zret⟩
set_option maxHeartbeats 4000000 in
theorem N_M_beside (d : Nat) (Q : Qt) : ∀ (x0 : Nat) (x1 : Int32) (x2 : Int32) (τ : St), Cl (d + 1) m_M_beside [.ref x0, .int x1, .int x2] τ Q = Ru M_M_beside d Q 0 [some (.ref x0), some (.int x1), some (.int x2), none, none] [] τ := fun _ _ _ _ => propext ⟨fun h => h.2, fun h => ⟨Nat.le_of_ble_eq_true rfl, h⟩⟩
set_option maxHeartbeats 4000000 in
theorem E_M_beside (d : Nat) (Q : Qt) :
    (∀ (a0 : Nat) (a1 : Int32) (a2 : Int32) (τ : St), Ru M_M_beside d Q 0 [some (.ref a0), some (.int a1), some (.int a2), none, none] [] τ = Ru M_M_beside d Q 1 [some (.ref a0), some (.int a1), some (.int a2), none, none] [.int a1] τ) ∧
    (∀ (a0 : Nat) (a1 : Int32) (a2 : Int32) (x0 : Int32) (τ : St), Ru M_M_beside d Q 1 [some (.ref a0), some (.int a1), some (.int a2), none, none] [.int x0] τ = Ru M_M_beside d Q 2 [some (.ref a0), some (.int a1), some (.int a2), none, none] [.ref a0, .int x0] τ) ∧
    (∀ (a0 : Nat) (a1 : Int32) (a2 : Int32) (x0 : Nat) (x1 : Int32) (τ : St), Ru M_M_beside d Q 2 [some (.ref a0), some (.int a1), some (.int a2), none, none] [.ref x0, .int x1] τ = (isA 12 x0 ∧ Ru M_M_beside d Q 5 [some (.ref a0), some (.int a1), some (.int a2), none, none] [.int (τ.1 x0 4), .int x1] τ)) ∧
    (∀ (a0 : Nat) (a1 : Int32) (a2 : Int32) (x0 : Int32) (x1 : Int32) (τ : St), Ru M_M_beside d Q 5 [some (.ref a0), some (.int a1), some (.int a2), none, none] [.int x0, .int x1] τ = (¬ x0 = 0 ∧ Ru M_M_beside d Q 6 [some (.ref a0), some (.int a1), some (.int a2), none, none] [.int (x1 / x0)] τ)) ∧
    (∀ (a0 : Nat) (a1 : Int32) (a2 : Int32) (x0 : Int32) (τ : St), Ru M_M_beside d Q 6 [some (.ref a0), some (.int a1), some (.int a2), none, none] [.int x0] τ = Ru M_M_beside d Q 7 [some (.ref a0), some (.int a1), some (.int a2), none, none] [.int a2, .int x0] τ) ∧
    (∀ (a0 : Nat) (a1 : Int32) (a2 : Int32) (x0 : Int32) (x1 : Int32) (τ : St), Ru M_M_beside d Q 7 [some (.ref a0), some (.int a1), some (.int a2), none, none] [.int x0, .int x1] τ = Ru M_M_beside d Q 8 [some (.ref a0), some (.int a1), some (.int a2), none, none] [.int 2, .int x0, .int x1] τ) ∧
    (∀ (a0 : Nat) (a1 : Int32) (a2 : Int32) (x0 : Int32) (x1 : Int32) (x2 : Int32) (τ : St), Ru M_M_beside d Q 8 [some (.ref a0), some (.int a1), some (.int a2), none, none] [.int x0, .int x1, .int x2] τ = ((¬ x1 = x0 → Ru M_M_beside d Q 15 [some (.ref a0), some (.int a1), some (.int a2), none, none] [.int x2] τ) ∧ (x1 = x0 → Ru M_M_beside d Q 11 [some (.ref a0), some (.int a1), some (.int a2), none, none] [.int x2] τ))) ∧
    (∀ (a0 : Nat) (a1 : Int32) (a2 : Int32) (x0 : Int32) (τ : St), Ru M_M_beside d Q 11 [some (.ref a0), some (.int a1), some (.int a2), none, none] [.int x0] τ = Ru M_M_beside d Q 12 [some (.ref a0), some (.int a1), some (.int a2), none, none] [.int 1, .int x0] τ) ∧
    (∀ (a0 : Nat) (a1 : Int32) (a2 : Int32) (x0 : Int32) (x1 : Int32) (τ : St), Ru M_M_beside d Q 12 [some (.ref a0), some (.int a1), some (.int a2), none, none] [.int x0, .int x1] τ = Rs M_M_beside d Q 24 [some (.ref a0), some (.int a1), some (.int a2), none, none] [.int x0, .int x1] τ) ∧
    (∀ (a0 : Nat) (a1 : Int32) (a2 : Int32) (x0 : Int32) (τ : St), Ru M_M_beside d Q 15 [some (.ref a0), some (.int a1), some (.int a2), none, none] [.int x0] τ = Ru M_M_beside d Q 16 [some (.ref a0), some (.int a1), some (.int a2), none, none] [.int a2, .int x0] τ) ∧
    (∀ (a0 : Nat) (a1 : Int32) (a2 : Int32) (x0 : Int32) (x1 : Int32) (τ : St), Ru M_M_beside d Q 16 [some (.ref a0), some (.int a1), some (.int a2), none, none] [.int x0, .int x1] τ = ((¬ x0 = 0 → Ru M_M_beside d Q 23 [some (.ref a0), some (.int a1), some (.int a2), none, none] [.int x1] τ) ∧ (x0 = 0 → Ru M_M_beside d Q 19 [some (.ref a0), some (.int a1), some (.int a2), none, none] [.int x1] τ))) ∧
    (∀ (a0 : Nat) (a1 : Int32) (a2 : Int32) (x0 : Int32) (τ : St), Ru M_M_beside d Q 19 [some (.ref a0), some (.int a1), some (.int a2), none, none] [.int x0] τ = Ru M_M_beside d Q 20 [some (.ref a0), some (.int a1), some (.int a2), none, none] [.int (-1), .int x0] τ) ∧
    (∀ (a0 : Nat) (a1 : Int32) (a2 : Int32) (x0 : Int32) (x1 : Int32) (τ : St), Ru M_M_beside d Q 20 [some (.ref a0), some (.int a1), some (.int a2), none, none] [.int x0, .int x1] τ = Rs M_M_beside d Q 24 [some (.ref a0), some (.int a1), some (.int a2), none, none] [.int x0, .int x1] τ) ∧
    (∀ (a0 : Nat) (a1 : Int32) (a2 : Int32) (x0 : Int32) (τ : St), Ru M_M_beside d Q 23 [some (.ref a0), some (.int a1), some (.int a2), none, none] [.int x0] τ = Rs M_M_beside d Q 24 [some (.ref a0), some (.int a1), some (.int a2), none, none] [.int 0, .int x0] τ) ∧
    (∀ (a0 : Nat) (a1 : Int32) (a2 : Int32) (x0 : Int32) (x1 : Int32) (τ : St), Ru M_M_beside d Q 24 [some (.ref a0), some (.int a1), some (.int a2), none, none] [.int x0, .int x1] τ = Ru M_M_beside d Q 25 [some (.ref a0), some (.int a1), some (.int a2), none, none] [.int (x1 + x0)] τ) ∧
    (∀ (a0 : Nat) (a1 : Int32) (a2 : Int32) (x0 : Int32) (τ : St), Ru M_M_beside d Q 25 [some (.ref a0), some (.int a1), some (.int a2), none, none] [.int x0] τ = Ru M_M_beside d Q 26 [some (.ref a0), some (.int a1), some (.int a2), some (.int x0), none] [] τ) ∧
    (∀ (a0 : Nat) (a1 : Int32) (a2 : Int32) (a3 : Int32) (τ : St), Ru M_M_beside d Q 26 [some (.ref a0), some (.int a1), some (.int a2), some (.int a3), none] [] τ = Ru M_M_beside d Q 27 [some (.ref a0), some (.int a1), some (.int a2), some (.int a3), none] [.int a1] τ) ∧
    (∀ (a0 : Nat) (a1 : Int32) (a2 : Int32) (a3 : Int32) (x0 : Int32) (τ : St), Ru M_M_beside d Q 27 [some (.ref a0), some (.int a1), some (.int a2), some (.int a3), none] [.int x0] τ = Ru M_M_beside d Q 28 [some (.ref a0), some (.int a1), some (.int a2), some (.int a3), none] [.ref a0, .int x0] τ) ∧
    (∀ (a0 : Nat) (a1 : Int32) (a2 : Int32) (a3 : Int32) (x0 : Nat) (x1 : Int32) (τ : St), Ru M_M_beside d Q 28 [some (.ref a0), some (.int a1), some (.int a2), some (.int a3), none] [.ref x0, .int x1] τ = (isA 12 x0 ∧ Ru M_M_beside d Q 31 [some (.ref a0), some (.int a1), some (.int a2), some (.int a3), none] [.int (τ.1 x0 4), .int x1] τ)) ∧
    (∀ (a0 : Nat) (a1 : Int32) (a2 : Int32) (a3 : Int32) (x0 : Int32) (x1 : Int32) (τ : St), Ru M_M_beside d Q 31 [some (.ref a0), some (.int a1), some (.int a2), some (.int a3), none] [.int x0, .int x1] τ = (¬ x0 = 0 ∧ Ru M_M_beside d Q 32 [some (.ref a0), some (.int a1), some (.int a2), some (.int a3), none] [.int (x1 - x1 / x0 * x0)] τ)) ∧
    (∀ (a0 : Nat) (a1 : Int32) (a2 : Int32) (a3 : Int32) (x0 : Int32) (τ : St), Ru M_M_beside d Q 32 [some (.ref a0), some (.int a1), some (.int a2), some (.int a3), none] [.int x0] τ = Ru M_M_beside d Q 33 [some (.ref a0), some (.int a1), some (.int a2), some (.int a3), none] [.int a2, .int x0] τ) ∧
    (∀ (a0 : Nat) (a1 : Int32) (a2 : Int32) (a3 : Int32) (x0 : Int32) (x1 : Int32) (τ : St), Ru M_M_beside d Q 33 [some (.ref a0), some (.int a1), some (.int a2), some (.int a3), none] [.int x0, .int x1] τ = Ru M_M_beside d Q 34 [some (.ref a0), some (.int a1), some (.int a2), some (.int a3), none] [.int 1, .int x0, .int x1] τ) ∧
    (∀ (a0 : Nat) (a1 : Int32) (a2 : Int32) (a3 : Int32) (x0 : Int32) (x1 : Int32) (x2 : Int32) (τ : St), Ru M_M_beside d Q 34 [some (.ref a0), some (.int a1), some (.int a2), some (.int a3), none] [.int x0, .int x1, .int x2] τ = ((¬ x1 = x0 → Ru M_M_beside d Q 41 [some (.ref a0), some (.int a1), some (.int a2), some (.int a3), none] [.int x2] τ) ∧ (x1 = x0 → Ru M_M_beside d Q 37 [some (.ref a0), some (.int a1), some (.int a2), some (.int a3), none] [.int x2] τ))) ∧
    (∀ (a0 : Nat) (a1 : Int32) (a2 : Int32) (a3 : Int32) (x0 : Int32) (τ : St), Ru M_M_beside d Q 37 [some (.ref a0), some (.int a1), some (.int a2), some (.int a3), none] [.int x0] τ = Ru M_M_beside d Q 38 [some (.ref a0), some (.int a1), some (.int a2), some (.int a3), none] [.int 1, .int x0] τ) ∧
    (∀ (a0 : Nat) (a1 : Int32) (a2 : Int32) (a3 : Int32) (x0 : Int32) (x1 : Int32) (τ : St), Ru M_M_beside d Q 38 [some (.ref a0), some (.int a1), some (.int a2), some (.int a3), none] [.int x0, .int x1] τ = Ru M_M_beside d Q 51 [some (.ref a0), some (.int a1), some (.int a2), some (.int a3), none] [.int x0, .int x1] τ) ∧
    (∀ (a0 : Nat) (a1 : Int32) (a2 : Int32) (a3 : Int32) (x0 : Int32) (τ : St), Ru M_M_beside d Q 41 [some (.ref a0), some (.int a1), some (.int a2), some (.int a3), none] [.int x0] τ = Ru M_M_beside d Q 42 [some (.ref a0), some (.int a1), some (.int a2), some (.int a3), none] [.int a2, .int x0] τ) ∧
    (∀ (a0 : Nat) (a1 : Int32) (a2 : Int32) (a3 : Int32) (x0 : Int32) (x1 : Int32) (τ : St), Ru M_M_beside d Q 42 [some (.ref a0), some (.int a1), some (.int a2), some (.int a3), none] [.int x0, .int x1] τ = Ru M_M_beside d Q 43 [some (.ref a0), some (.int a1), some (.int a2), some (.int a3), none] [.int 3, .int x0, .int x1] τ) ∧
    (∀ (a0 : Nat) (a1 : Int32) (a2 : Int32) (a3 : Int32) (x0 : Int32) (x1 : Int32) (x2 : Int32) (τ : St), Ru M_M_beside d Q 43 [some (.ref a0), some (.int a1), some (.int a2), some (.int a3), none] [.int x0, .int x1, .int x2] τ = ((¬ x1 = x0 → Ru M_M_beside d Q 50 [some (.ref a0), some (.int a1), some (.int a2), some (.int a3), none] [.int x2] τ) ∧ (x1 = x0 → Ru M_M_beside d Q 46 [some (.ref a0), some (.int a1), some (.int a2), some (.int a3), none] [.int x2] τ))) ∧
    (∀ (a0 : Nat) (a1 : Int32) (a2 : Int32) (a3 : Int32) (x0 : Int32) (τ : St), Ru M_M_beside d Q 46 [some (.ref a0), some (.int a1), some (.int a2), some (.int a3), none] [.int x0] τ = Ru M_M_beside d Q 47 [some (.ref a0), some (.int a1), some (.int a2), some (.int a3), none] [.int (-1), .int x0] τ) ∧
    (∀ (a0 : Nat) (a1 : Int32) (a2 : Int32) (a3 : Int32) (x0 : Int32) (x1 : Int32) (τ : St), Ru M_M_beside d Q 47 [some (.ref a0), some (.int a1), some (.int a2), some (.int a3), none] [.int x0, .int x1] τ = Ru M_M_beside d Q 51 [some (.ref a0), some (.int a1), some (.int a2), some (.int a3), none] [.int x0, .int x1] τ) ∧
    (∀ (a0 : Nat) (a1 : Int32) (a2 : Int32) (a3 : Int32) (x0 : Int32) (τ : St), Ru M_M_beside d Q 50 [some (.ref a0), some (.int a1), some (.int a2), some (.int a3), none] [.int x0] τ = Ru M_M_beside d Q 51 [some (.ref a0), some (.int a1), some (.int a2), some (.int a3), none] [.int 0, .int x0] τ) ∧
    (∀ (a0 : Nat) (a1 : Int32) (a2 : Int32) (a3 : Int32) (x0 : Int32) (x1 : Int32) (τ : St), Ru M_M_beside d Q 51 [some (.ref a0), some (.int a1), some (.int a2), some (.int a3), none] [.int x0, .int x1] τ = Ru M_M_beside d Q 52 [some (.ref a0), some (.int a1), some (.int a2), some (.int a3), none] [.int (x1 + x0)] τ) ∧
    (∀ (a0 : Nat) (a1 : Int32) (a2 : Int32) (a3 : Int32) (x0 : Int32) (τ : St), Ru M_M_beside d Q 52 [some (.ref a0), some (.int a1), some (.int a2), some (.int a3), none] [.int x0] τ = Ru M_M_beside d Q 54 [some (.ref a0), some (.int a1), some (.int a2), some (.int a3), some (.int x0)] [] τ) ∧
    (∀ (a0 : Nat) (a1 : Int32) (a2 : Int32) (a3 : Int32) (a4 : Int32) (τ : St), Ru M_M_beside d Q 54 [some (.ref a0), some (.int a1), some (.int a2), some (.int a3), some (.int a4)] [] τ = Ru M_M_beside d Q 55 [some (.ref a0), some (.int a1), some (.int a2), some (.int a3), some (.int a4)] [.int a3] τ) ∧
    (∀ (a0 : Nat) (a1 : Int32) (a2 : Int32) (a3 : Int32) (a4 : Int32) (x0 : Int32) (τ : St), Ru M_M_beside d Q 55 [some (.ref a0), some (.int a1), some (.int a2), some (.int a3), some (.int a4)] [.int x0] τ = Ru M_M_beside d Q 56 [some (.ref a0), some (.int a1), some (.int a2), some (.int a3), some (.int a4)] [.long x0.toInt64] τ) ∧
    (∀ (a0 : Nat) (a1 : Int32) (a2 : Int32) (a3 : Int32) (a4 : Int32) (x0 : Int64) (τ : St), Ru M_M_beside d Q 56 [some (.ref a0), some (.int a1), some (.int a2), some (.int a3), some (.int a4)] [.long x0] τ = Ru M_M_beside d Q 57 [some (.ref a0), some (.int a1), some (.int a2), some (.int a3), some (.int a4)] [.long 0, .long x0] τ) ∧
    (∀ (a0 : Nat) (a1 : Int32) (a2 : Int32) (a3 : Int32) (a4 : Int32) (x0 : Int64) (x1 : Int64) (τ : St), Ru M_M_beside d Q 57 [some (.ref a0), some (.int a1), some (.int a2), some (.int a3), some (.int a4)] [.long x0, .long x1] τ = Ru M_M_beside d Q 58 [some (.ref a0), some (.int a1), some (.int a2), some (.int a3), some (.int a4)] [.ref a0, .long x0, .long x1] τ) ∧
    (∀ (a0 : Nat) (a1 : Int32) (a2 : Int32) (a3 : Int32) (a4 : Int32) (x0 : Nat) (x1 : Int64) (x2 : Int64) (τ : St), Ru M_M_beside d Q 58 [some (.ref a0), some (.int a1), some (.int a2), some (.int a3), some (.int a4)] [.ref x0, .long x1, .long x2] τ = (isA 12 x0 ∧ Ru M_M_beside d Q 61 [some (.ref a0), some (.int a1), some (.int a2), some (.int a3), some (.int a4)] [.int (τ.1 x0 3), .long x1, .long x2] τ)) ∧
    (∀ (a0 : Nat) (a1 : Int32) (a2 : Int32) (a3 : Int32) (a4 : Int32) (x0 : Int32) (x1 : Int64) (x2 : Int64) (τ : St), Ru M_M_beside d Q 61 [some (.ref a0), some (.int a1), some (.int a2), some (.int a3), some (.int a4)] [.int x0, .long x1, .long x2] τ = Ru M_M_beside d Q 62 [some (.ref a0), some (.int a1), some (.int a2), some (.int a3), some (.int a4)] [.int 1, .int x0, .long x1, .long x2] τ) ∧
    (∀ (a0 : Nat) (a1 : Int32) (a2 : Int32) (a3 : Int32) (a4 : Int32) (x0 : Int32) (x1 : Int32) (x2 : Int64) (x3 : Int64) (τ : St), Ru M_M_beside d Q 62 [some (.ref a0), some (.int a1), some (.int a2), some (.int a3), some (.int a4)] [.int x0, .int x1, .long x2, .long x3] τ = Ru M_M_beside d Q 63 [some (.ref a0), some (.int a1), some (.int a2), some (.int a3), some (.int a4)] [.int (x1 - x0), .long x2, .long x3] τ) ∧
    (∀ (a0 : Nat) (a1 : Int32) (a2 : Int32) (a3 : Int32) (a4 : Int32) (x0 : Int32) (x1 : Int64) (x2 : Int64) (τ : St), Ru M_M_beside d Q 63 [some (.ref a0), some (.int a1), some (.int a2), some (.int a3), some (.int a4)] [.int x0, .long x1, .long x2] τ = Ru M_M_beside d Q 64 [some (.ref a0), some (.int a1), some (.int a2), some (.int a3), some (.int a4)] [.long x0.toInt64, .long x1, .long x2] τ) ∧
    (∀ (a0 : Nat) (a1 : Int32) (a2 : Int32) (a3 : Int32) (a4 : Int32) (x0 : Int64) (x1 : Int64) (x2 : Int64) (τ : St), Ru M_M_beside d Q 64 [some (.ref a0), some (.int a1), some (.int a2), some (.int a3), some (.int a4)] [.long x0, .long x1, .long x2] τ = Cl d m_M_in [.long x2, .long x1, .long x0] τ (fun v τ' => Ru M_M_beside d Q 67 [some (.ref a0), some (.int a1), some (.int a2), some (.int a3), some (.int a4)] (v.toList ++ []) τ')) ∧
    (∀ (a0 : Nat) (a1 : Int32) (a2 : Int32) (a3 : Int32) (a4 : Int32) (x0 : Int32) (τ : St), Ru M_M_beside d Q 67 [some (.ref a0), some (.int a1), some (.int a2), some (.int a3), some (.int a4)] [.int x0] τ = ((x0 = 0 → Ru M_M_beside d Q 99 [some (.ref a0), some (.int a1), some (.int a2), some (.int a3), some (.int a4)] [] τ) ∧ (¬ x0 = 0 → Ru M_M_beside d Q 70 [some (.ref a0), some (.int a1), some (.int a2), some (.int a3), some (.int a4)] [] τ))) ∧
    (∀ (a0 : Nat) (a1 : Int32) (a2 : Int32) (a3 : Int32) (a4 : Int32) (τ : St), Ru M_M_beside d Q 70 [some (.ref a0), some (.int a1), some (.int a2), some (.int a3), some (.int a4)] [] τ = Ru M_M_beside d Q 72 [some (.ref a0), some (.int a1), some (.int a2), some (.int a3), some (.int a4)] [.int a4] τ) ∧
    (∀ (a0 : Nat) (a1 : Int32) (a2 : Int32) (a3 : Int32) (a4 : Int32) (x0 : Int32) (τ : St), Ru M_M_beside d Q 72 [some (.ref a0), some (.int a1), some (.int a2), some (.int a3), some (.int a4)] [.int x0] τ = Ru M_M_beside d Q 73 [some (.ref a0), some (.int a1), some (.int a2), some (.int a3), some (.int a4)] [.long x0.toInt64] τ) ∧
    (∀ (a0 : Nat) (a1 : Int32) (a2 : Int32) (a3 : Int32) (a4 : Int32) (x0 : Int64) (τ : St), Ru M_M_beside d Q 73 [some (.ref a0), some (.int a1), some (.int a2), some (.int a3), some (.int a4)] [.long x0] τ = Ru M_M_beside d Q 74 [some (.ref a0), some (.int a1), some (.int a2), some (.int a3), some (.int a4)] [.long 0, .long x0] τ) ∧
    (∀ (a0 : Nat) (a1 : Int32) (a2 : Int32) (a3 : Int32) (a4 : Int32) (x0 : Int64) (x1 : Int64) (τ : St), Ru M_M_beside d Q 74 [some (.ref a0), some (.int a1), some (.int a2), some (.int a3), some (.int a4)] [.long x0, .long x1] τ = Ru M_M_beside d Q 75 [some (.ref a0), some (.int a1), some (.int a2), some (.int a3), some (.int a4)] [.ref a0, .long x0, .long x1] τ) ∧
    (∀ (a0 : Nat) (a1 : Int32) (a2 : Int32) (a3 : Int32) (a4 : Int32) (x0 : Nat) (x1 : Int64) (x2 : Int64) (τ : St), Ru M_M_beside d Q 75 [some (.ref a0), some (.int a1), some (.int a2), some (.int a3), some (.int a4)] [.ref x0, .long x1, .long x2] τ = (isA 12 x0 ∧ Ru M_M_beside d Q 78 [some (.ref a0), some (.int a1), some (.int a2), some (.int a3), some (.int a4)] [.int (τ.1 x0 4), .long x1, .long x2] τ)) ∧
    (∀ (a0 : Nat) (a1 : Int32) (a2 : Int32) (a3 : Int32) (a4 : Int32) (x0 : Int32) (x1 : Int64) (x2 : Int64) (τ : St), Ru M_M_beside d Q 78 [some (.ref a0), some (.int a1), some (.int a2), some (.int a3), some (.int a4)] [.int x0, .long x1, .long x2] τ = Ru M_M_beside d Q 79 [some (.ref a0), some (.int a1), some (.int a2), some (.int a3), some (.int a4)] [.int 1, .int x0, .long x1, .long x2] τ) ∧
    (∀ (a0 : Nat) (a1 : Int32) (a2 : Int32) (a3 : Int32) (a4 : Int32) (x0 : Int32) (x1 : Int32) (x2 : Int64) (x3 : Int64) (τ : St), Ru M_M_beside d Q 79 [some (.ref a0), some (.int a1), some (.int a2), some (.int a3), some (.int a4)] [.int x0, .int x1, .long x2, .long x3] τ = Ru M_M_beside d Q 80 [some (.ref a0), some (.int a1), some (.int a2), some (.int a3), some (.int a4)] [.int (x1 - x0), .long x2, .long x3] τ) ∧
    (∀ (a0 : Nat) (a1 : Int32) (a2 : Int32) (a3 : Int32) (a4 : Int32) (x0 : Int32) (x1 : Int64) (x2 : Int64) (τ : St), Ru M_M_beside d Q 80 [some (.ref a0), some (.int a1), some (.int a2), some (.int a3), some (.int a4)] [.int x0, .long x1, .long x2] τ = Ru M_M_beside d Q 81 [some (.ref a0), some (.int a1), some (.int a2), some (.int a3), some (.int a4)] [.long x0.toInt64, .long x1, .long x2] τ) ∧
    (∀ (a0 : Nat) (a1 : Int32) (a2 : Int32) (a3 : Int32) (a4 : Int32) (x0 : Int64) (x1 : Int64) (x2 : Int64) (τ : St), Ru M_M_beside d Q 81 [some (.ref a0), some (.int a1), some (.int a2), some (.int a3), some (.int a4)] [.long x0, .long x1, .long x2] τ = Cl d m_M_in [.long x2, .long x1, .long x0] τ (fun v τ' => Ru M_M_beside d Q 84 [some (.ref a0), some (.int a1), some (.int a2), some (.int a3), some (.int a4)] (v.toList ++ []) τ')) ∧
    (∀ (a0 : Nat) (a1 : Int32) (a2 : Int32) (a3 : Int32) (a4 : Int32) (x0 : Int32) (τ : St), Ru M_M_beside d Q 84 [some (.ref a0), some (.int a1), some (.int a2), some (.int a3), some (.int a4)] [.int x0] τ = ((x0 = 0 → Ru M_M_beside d Q 99 [some (.ref a0), some (.int a1), some (.int a2), some (.int a3), some (.int a4)] [] τ) ∧ (¬ x0 = 0 → Ru M_M_beside d Q 87 [some (.ref a0), some (.int a1), some (.int a2), some (.int a3), some (.int a4)] [] τ))) ∧
    (∀ (a0 : Nat) (a1 : Int32) (a2 : Int32) (a3 : Int32) (a4 : Int32) (τ : St), Ru M_M_beside d Q 87 [some (.ref a0), some (.int a1), some (.int a2), some (.int a3), some (.int a4)] [] τ = Ru M_M_beside d Q 88 [some (.ref a0), some (.int a1), some (.int a2), some (.int a3), some (.int a4)] [.ref a0] τ) ∧
    (∀ (a0 : Nat) (a1 : Int32) (a2 : Int32) (a3 : Int32) (a4 : Int32) (x0 : Nat) (τ : St), Ru M_M_beside d Q 88 [some (.ref a0), some (.int a1), some (.int a2), some (.int a3), some (.int a4)] [.ref x0] τ = (isA 12 x0 ∧ Ru M_M_beside d Q 91 [some (.ref a0), some (.int a1), some (.int a2), some (.int a3), some (.int a4)] [.int (τ.1 x0 4)] τ)) ∧
    (∀ (a0 : Nat) (a1 : Int32) (a2 : Int32) (a3 : Int32) (a4 : Int32) (x0 : Int32) (τ : St), Ru M_M_beside d Q 91 [some (.ref a0), some (.int a1), some (.int a2), some (.int a3), some (.int a4)] [.int x0] τ = Ru M_M_beside d Q 92 [some (.ref a0), some (.int a1), some (.int a2), some (.int a3), some (.int a4)] [.int a3, .int x0] τ) ∧
    (∀ (a0 : Nat) (a1 : Int32) (a2 : Int32) (a3 : Int32) (a4 : Int32) (x0 : Int32) (x1 : Int32) (τ : St), Ru M_M_beside d Q 92 [some (.ref a0), some (.int a1), some (.int a2), some (.int a3), some (.int a4)] [.int x0, .int x1] τ = Ru M_M_beside d Q 93 [some (.ref a0), some (.int a1), some (.int a2), some (.int a3), some (.int a4)] [.int (x1 * x0)] τ) ∧
    (∀ (a0 : Nat) (a1 : Int32) (a2 : Int32) (a3 : Int32) (a4 : Int32) (x0 : Int32) (τ : St), Ru M_M_beside d Q 93 [some (.ref a0), some (.int a1), some (.int a2), some (.int a3), some (.int a4)] [.int x0] τ = Ru M_M_beside d Q 95 [some (.ref a0), some (.int a1), some (.int a2), some (.int a3), some (.int a4)] [.int a4, .int x0] τ) ∧
    (∀ (a0 : Nat) (a1 : Int32) (a2 : Int32) (a3 : Int32) (a4 : Int32) (x0 : Int32) (x1 : Int32) (τ : St), Ru M_M_beside d Q 95 [some (.ref a0), some (.int a1), some (.int a2), some (.int a3), some (.int a4)] [.int x0, .int x1] τ = Ru M_M_beside d Q 96 [some (.ref a0), some (.int a1), some (.int a2), some (.int a3), some (.int a4)] [.int (x1 + x0)] τ) ∧
    (∀ (a0 : Nat) (a1 : Int32) (a2 : Int32) (a3 : Int32) (a4 : Int32) (x0 : Int32) (τ : St), Ru M_M_beside d Q 96 [some (.ref a0), some (.int a1), some (.int a2), some (.int a3), some (.int a4)] [.int x0] τ = Ru M_M_beside d Q 100 [some (.ref a0), some (.int a1), some (.int a2), some (.int a3), some (.int a4)] [.int x0] τ) ∧
    (∀ (a0 : Nat) (a1 : Int32) (a2 : Int32) (a3 : Int32) (a4 : Int32) (τ : St), Ru M_M_beside d Q 99 [some (.ref a0), some (.int a1), some (.int a2), some (.int a3), some (.int a4)] [] τ = Ru M_M_beside d Q 100 [some (.ref a0), some (.int a1), some (.int a2), some (.int a3), some (.int a4)] [.int (-1)] τ) ∧
    (∀ (a0 : Nat) (a1 : Int32) (a2 : Int32) (a3 : Int32) (a4 : Int32) (x0 : Int32) (τ : St), Ru M_M_beside d Q 100 [some (.ref a0), some (.int a1), some (.int a2), some (.int a3), some (.int a4)] [.int x0] τ = Q (some (.int x0)) τ) := ⟨
  fun _ _ _ _ => (R_at ok_M_beside rfl).trans (e_ild rfl),
  fun _ _ _ _ _ => (R_at ok_M_beside rfl).trans (e_ald rfl),
  fun _ _ _ _ _ _ => (R_at ok_M_beside rfl).trans e_gI,
  fun _ _ _ _ _ _ => (R_at ok_M_beside rfl).trans e_binz,
  fun _ _ _ _ _ => (R_at ok_M_beside rfl).trans (e_ild rfl),
  fun _ _ _ _ _ _ => (R_at ok_M_beside rfl).trans e_push,
  fun _ _ _ _ _ _ _ => (R_at ok_M_beside rfl).trans e_icn,
  fun _ _ _ _ _ => (R_at ok_M_beside rfl).trans e_push,
  fun _ _ _ _ _ _ => (R_at ok_M_beside rfl).trans e_goto,
  fun _ _ _ _ _ => (R_at ok_M_beside rfl).trans (e_ild rfl),
  fun _ _ _ _ _ _ => (R_at ok_M_beside rfl).trans e_ifn,
  fun _ _ _ _ _ => (R_at ok_M_beside rfl).trans e_push,
  fun _ _ _ _ _ _ => (R_at ok_M_beside rfl).trans e_goto,
  fun _ _ _ _ _ => (R_at ok_M_beside rfl).trans e_push,
  fun _ _ _ _ _ _ => (R_at ok_M_beside rfl).trans e_bin,
  fun _ _ _ _ _ => (R_at ok_M_beside rfl).trans e_ist,
  fun _ _ _ _ _ => (R_at ok_M_beside rfl).trans (e_ild rfl),
  fun _ _ _ _ _ _ => (R_at ok_M_beside rfl).trans (e_ald rfl),
  fun _ _ _ _ _ _ _ => (R_at ok_M_beside rfl).trans e_gI,
  fun _ _ _ _ _ _ _ => (R_at ok_M_beside rfl).trans e_binz,
  fun _ _ _ _ _ _ => (R_at ok_M_beside rfl).trans (e_ild rfl),
  fun _ _ _ _ _ _ _ => (R_at ok_M_beside rfl).trans e_push,
  fun _ _ _ _ _ _ _ _ => (R_at ok_M_beside rfl).trans e_icn,
  fun _ _ _ _ _ _ => (R_at ok_M_beside rfl).trans e_push,
  fun _ _ _ _ _ _ _ => (R_at ok_M_beside rfl).trans e_goto,
  fun _ _ _ _ _ _ => (R_at ok_M_beside rfl).trans (e_ild rfl),
  fun _ _ _ _ _ _ _ => (R_at ok_M_beside rfl).trans e_push,
  fun _ _ _ _ _ _ _ _ => (R_at ok_M_beside rfl).trans e_icn,
  fun _ _ _ _ _ _ => (R_at ok_M_beside rfl).trans e_push,
  fun _ _ _ _ _ _ _ => (R_at ok_M_beside rfl).trans e_goto,
  fun _ _ _ _ _ _ => (R_at ok_M_beside rfl).trans e_push,
  fun _ _ _ _ _ _ _ => (R_at ok_M_beside rfl).trans e_bin,
  fun _ _ _ _ _ _ => (R_at ok_M_beside rfl).trans e_ist,
  fun _ _ _ _ _ _ => (R_at ok_M_beside rfl).trans (e_ild rfl),
  fun _ _ _ _ _ _ _ => (R_at ok_M_beside rfl).trans e_il,
  fun _ _ _ _ _ _ _ => (R_at ok_M_beside rfl).trans e_push,
  fun _ _ _ _ _ _ _ _ => (R_at ok_M_beside rfl).trans (e_ald rfl),
  fun _ _ _ _ _ _ _ _ _ => (R_at ok_M_beside rfl).trans e_gI,
  fun _ _ _ _ _ _ _ _ _ => (R_at ok_M_beside rfl).trans e_push,
  fun _ _ _ _ _ _ _ _ _ _ => (R_at ok_M_beside rfl).trans e_bin,
  fun _ _ _ _ _ _ _ _ _ => (R_at ok_M_beside rfl).trans e_il,
  fun _ _ _ _ _ x0 x1 x2 _ => (R_at ok_M_beside rfl).trans (e_cs [.long x2, .long x1, .long x0] rfl rfl rfl),
  fun _ _ _ _ _ _ _ => (R_at ok_M_beside rfl).trans e_if,
  fun _ _ _ _ _ _ => (R_at ok_M_beside rfl).trans (e_ild rfl),
  fun _ _ _ _ _ _ _ => (R_at ok_M_beside rfl).trans e_il,
  fun _ _ _ _ _ _ _ => (R_at ok_M_beside rfl).trans e_push,
  fun _ _ _ _ _ _ _ _ => (R_at ok_M_beside rfl).trans (e_ald rfl),
  fun _ _ _ _ _ _ _ _ _ => (R_at ok_M_beside rfl).trans e_gI,
  fun _ _ _ _ _ _ _ _ _ => (R_at ok_M_beside rfl).trans e_push,
  fun _ _ _ _ _ _ _ _ _ _ => (R_at ok_M_beside rfl).trans e_bin,
  fun _ _ _ _ _ _ _ _ _ => (R_at ok_M_beside rfl).trans e_il,
  fun _ _ _ _ _ x0 x1 x2 _ => (R_at ok_M_beside rfl).trans (e_cs [.long x2, .long x1, .long x0] rfl rfl rfl),
  fun _ _ _ _ _ _ _ => (R_at ok_M_beside rfl).trans e_if,
  fun _ _ _ _ _ _ => (R_at ok_M_beside rfl).trans (e_ald rfl),
  fun _ _ _ _ _ _ _ => (R_at ok_M_beside rfl).trans e_gI,
  fun _ _ _ _ _ _ _ => (R_at ok_M_beside rfl).trans (e_ild rfl),
  fun _ _ _ _ _ _ _ _ => (R_at ok_M_beside rfl).trans e_bin,
  fun _ _ _ _ _ _ _ => (R_at ok_M_beside rfl).trans (e_ild rfl),
  fun _ _ _ _ _ _ _ _ => (R_at ok_M_beside rfl).trans e_bin,
  fun _ _ _ _ _ _ _ => (R_at ok_M_beside rfl).trans e_goto,
  fun _ _ _ _ _ _ => (R_at ok_M_beside rfl).trans e_push,
  fun _ _ _ _ _ _ _ => (R_at ok_M_beside rfl).trans e_iret⟩
set_option maxHeartbeats 4000000 in
theorem N_M_shipsAt (d : Nat) (Q : Qt) : ∀ (x0 : Nat) (x1 : Nat) (x2 : Int32) (τ : St), Cl (d + 1) m_M_shipsAt [.ref x0, .ref x1, .int x2] τ Q = Ru M_M_shipsAt d Q 0 [some (.ref x0), some (.ref x1), some (.int x2), none, none] [] τ := fun _ _ _ _ => propext ⟨fun h => h.2, fun h => ⟨Nat.le_of_ble_eq_true rfl, h⟩⟩
set_option maxHeartbeats 4000000 in
theorem E_M_shipsAt (d : Nat) (Q : Qt) :
    (∀ (a0 : Nat) (a1 : Nat) (a2 : Int32) (τ : St), Ru M_M_shipsAt d Q 0 [some (.ref a0), some (.ref a1), some (.int a2), none, none] [] τ = Ru M_M_shipsAt d Q 1 [some (.ref a0), some (.ref a1), some (.int a2), none, none] [.int 0] τ) ∧
    (∀ (a0 : Nat) (a1 : Nat) (a2 : Int32) (x0 : Int32) (τ : St), Ru M_M_shipsAt d Q 1 [some (.ref a0), some (.ref a1), some (.int a2), none, none] [.int x0] τ = Ru M_M_shipsAt d Q 2 [some (.ref a0), some (.ref a1), some (.int a2), some (.int x0), none] [] τ) ∧
    (∀ (a0 : Nat) (a1 : Nat) (a2 : Int32) (a3 : Int32) (τ : St), Ru M_M_shipsAt d Q 2 [some (.ref a0), some (.ref a1), some (.int a2), some (.int a3), none] [] τ = Ru M_M_shipsAt d Q 3 [some (.ref a0), some (.ref a1), some (.int a2), some (.int a3), none] [.int 0] τ) ∧
    (∀ (a0 : Nat) (a1 : Nat) (a2 : Int32) (a3 : Int32) (x0 : Int32) (τ : St), Ru M_M_shipsAt d Q 3 [some (.ref a0), some (.ref a1), some (.int a2), some (.int a3), none] [.int x0] τ = Rs M_M_shipsAt d Q 5 [some (.ref a0), some (.ref a1), some (.int a2), some (.int a3), some (.int x0)] [] τ) ∧
    (∀ (a0 : Nat) (a1 : Nat) (a2 : Int32) (a3 : Int32) (a4 : Int32) (τ : St), Ru M_M_shipsAt d Q 5 [some (.ref a0), some (.ref a1), some (.int a2), some (.int a3), some (.int a4)] [] τ = Ru M_M_shipsAt d Q 7 [some (.ref a0), some (.ref a1), some (.int a2), some (.int a3), some (.int a4)] [.int a4] τ) ∧
    (∀ (a0 : Nat) (a1 : Nat) (a2 : Int32) (a3 : Int32) (a4 : Int32) (x0 : Int32) (τ : St), Ru M_M_shipsAt d Q 7 [some (.ref a0), some (.ref a1), some (.int a2), some (.int a3), some (.int a4)] [.int x0] τ = Ru M_M_shipsAt d Q 8 [some (.ref a0), some (.ref a1), some (.int a2), some (.int a3), some (.int a4)] [.ref a0, .int x0] τ) ∧
    (∀ (a0 : Nat) (a1 : Nat) (a2 : Int32) (a3 : Int32) (a4 : Int32) (x0 : Nat) (x1 : Int32) (τ : St), Ru M_M_shipsAt d Q 8 [some (.ref a0), some (.ref a1), some (.int a2), some (.int a3), some (.int a4)] [.ref x0, .int x1] τ = (isA 12 x0 ∧ Ru M_M_shipsAt d Q 11 [some (.ref a0), some (.ref a1), some (.int a2), some (.int a3), some (.int a4)] [.int (τ.1 x0 5), .int x1] τ)) ∧
    (∀ (a0 : Nat) (a1 : Nat) (a2 : Int32) (a3 : Int32) (a4 : Int32) (x0 : Int32) (x1 : Int32) (τ : St), Ru M_M_shipsAt d Q 11 [some (.ref a0), some (.ref a1), some (.int a2), some (.int a3), some (.int a4)] [.int x0, .int x1] τ = ((x0 ≤ x1 → Ru M_M_shipsAt d Q 42 [some (.ref a0), some (.ref a1), some (.int a2), some (.int a3), some (.int a4)] [] τ) ∧ (¬ x0 ≤ x1 → Ru M_M_shipsAt d Q 14 [some (.ref a0), some (.ref a1), some (.int a2), some (.int a3), some (.int a4)] [] τ))) ∧
    (∀ (a0 : Nat) (a1 : Nat) (a2 : Int32) (a3 : Int32) (a4 : Int32) (τ : St), Ru M_M_shipsAt d Q 14 [some (.ref a0), some (.ref a1), some (.int a2), some (.int a3), some (.int a4)] [] τ = Ru M_M_shipsAt d Q 15 [some (.ref a0), some (.ref a1), some (.int a2), some (.int a3), some (.int a4)] [.int a3] τ) ∧
    (∀ (a0 : Nat) (a1 : Nat) (a2 : Int32) (a3 : Int32) (a4 : Int32) (x0 : Int32) (τ : St), Ru M_M_shipsAt d Q 15 [some (.ref a0), some (.ref a1), some (.int a2), some (.int a3), some (.int a4)] [.int x0] τ = Ru M_M_shipsAt d Q 16 [some (.ref a0), some (.ref a1), some (.int a2), some (.int a3), some (.int a4)] [.ref a1, .int x0] τ) ∧
    (∀ (a0 : Nat) (a1 : Nat) (a2 : Int32) (a3 : Int32) (a4 : Int32) (x0 : Nat) (x1 : Int32) (τ : St), Ru M_M_shipsAt d Q 16 [some (.ref a0), some (.ref a1), some (.int a2), some (.int a3), some (.int a4)] [.ref x0, .int x1] τ = Ru M_M_shipsAt d Q 18 [some (.ref a0), some (.ref a1), some (.int a2), some (.int a3), some (.int a4)] [.int 36, .ref x0, .int x1] τ) ∧
    (∀ (a0 : Nat) (a1 : Nat) (a2 : Int32) (a3 : Int32) (a4 : Int32) (x0 : Int32) (x1 : Nat) (x2 : Int32) (τ : St), Ru M_M_shipsAt d Q 18 [some (.ref a0), some (.ref a1), some (.int a2), some (.int a3), some (.int a4)] [.int x0, .ref x1, .int x2] τ = Ru M_M_shipsAt d Q 20 [some (.ref a0), some (.ref a1), some (.int a2), some (.int a3), some (.int a4)] [.int a4, .int x0, .ref x1, .int x2] τ) ∧
    (∀ (a0 : Nat) (a1 : Nat) (a2 : Int32) (a3 : Int32) (a4 : Int32) (x0 : Int32) (x1 : Int32) (x2 : Nat) (x3 : Int32) (τ : St), Ru M_M_shipsAt d Q 20 [some (.ref a0), some (.ref a1), some (.int a2), some (.int a3), some (.int a4)] [.int x0, .int x1, .ref x2, .int x3] τ = Ru M_M_shipsAt d Q 21 [some (.ref a0), some (.ref a1), some (.int a2), some (.int a3), some (.int a4)] [.int (x1 + x0), .ref x2, .int x3] τ) ∧
    (∀ (a0 : Nat) (a1 : Nat) (a2 : Int32) (a3 : Int32) (a4 : Int32) (x0 : Int32) (x1 : Nat) (x2 : Int32) (τ : St), Ru M_M_shipsAt d Q 21 [some (.ref a0), some (.ref a1), some (.int a2), some (.int a3), some (.int a4)] [.int x0, .ref x1, .int x2] τ = (isA 14 x1 ∧ vp_in x0 (len x1) ∧ Ru M_M_shipsAt d Q 22 [some (.ref a0), some (.ref a1), some (.int a2), some (.int a3), some (.int a4)] [.int (τ.1 x1 x0.toNatClampNeg), .int x2] τ)) ∧
    (∀ (a0 : Nat) (a1 : Nat) (a2 : Int32) (a3 : Int32) (a4 : Int32) (x0 : Int32) (x1 : Int32) (τ : St), Ru M_M_shipsAt d Q 22 [some (.ref a0), some (.ref a1), some (.int a2), some (.int a3), some (.int a4)] [.int x0, .int x1] τ = Ru M_M_shipsAt d Q 23 [some (.ref a0), some (.ref a1), some (.int a2), some (.int a3), some (.int a4)] [.int a2, .int x0, .int x1] τ) ∧
    (∀ (a0 : Nat) (a1 : Nat) (a2 : Int32) (a3 : Int32) (a4 : Int32) (x0 : Int32) (x1 : Int32) (x2 : Int32) (τ : St), Ru M_M_shipsAt d Q 23 [some (.ref a0), some (.ref a1), some (.int a2), some (.int a3), some (.int a4)] [.int x0, .int x1, .int x2] τ = ((¬ x1 = x0 → Ru M_M_shipsAt d Q 33 [some (.ref a0), some (.ref a1), some (.int a2), some (.int a3), some (.int a4)] [.int x2] τ) ∧ (x1 = x0 → Ru M_M_shipsAt d Q 26 [some (.ref a0), some (.ref a1), some (.int a2), some (.int a3), some (.int a4)] [.int x2] τ))) ∧
    (∀ (a0 : Nat) (a1 : Nat) (a2 : Int32) (a3 : Int32) (a4 : Int32) (x0 : Int32) (τ : St), Ru M_M_shipsAt d Q 26 [some (.ref a0), some (.ref a1), some (.int a2), some (.int a3), some (.int a4)] [.int x0] τ = Ru M_M_shipsAt d Q 27 [some (.ref a0), some (.ref a1), some (.int a2), some (.int a3), some (.int a4)] [.int 1, .int x0] τ) ∧
    (∀ (a0 : Nat) (a1 : Nat) (a2 : Int32) (a3 : Int32) (a4 : Int32) (x0 : Int32) (x1 : Int32) (τ : St), Ru M_M_shipsAt d Q 27 [some (.ref a0), some (.ref a1), some (.int a2), some (.int a3), some (.int a4)] [.int x0, .int x1] τ = Ru M_M_shipsAt d Q 29 [some (.ref a0), some (.ref a1), some (.int a2), some (.int a3), some (.int a4)] [.int a4, .int x0, .int x1] τ) ∧
    (∀ (a0 : Nat) (a1 : Nat) (a2 : Int32) (a3 : Int32) (a4 : Int32) (x0 : Int32) (x1 : Int32) (x2 : Int32) (τ : St), Ru M_M_shipsAt d Q 29 [some (.ref a0), some (.ref a1), some (.int a2), some (.int a3), some (.int a4)] [.int x0, .int x1, .int x2] τ = Ru M_M_shipsAt d Q 30 [some (.ref a0), some (.ref a1), some (.int a2), some (.int a3), some (.int a4)] [.int (x1 <<< (x0 &&& 31)), .int x2] τ) ∧
    (∀ (a0 : Nat) (a1 : Nat) (a2 : Int32) (a3 : Int32) (a4 : Int32) (x0 : Int32) (x1 : Int32) (τ : St), Ru M_M_shipsAt d Q 30 [some (.ref a0), some (.ref a1), some (.int a2), some (.int a3), some (.int a4)] [.int x0, .int x1] τ = Ru M_M_shipsAt d Q 34 [some (.ref a0), some (.ref a1), some (.int a2), some (.int a3), some (.int a4)] [.int x0, .int x1] τ) ∧
    (∀ (a0 : Nat) (a1 : Nat) (a2 : Int32) (a3 : Int32) (a4 : Int32) (x0 : Int32) (τ : St), Ru M_M_shipsAt d Q 33 [some (.ref a0), some (.ref a1), some (.int a2), some (.int a3), some (.int a4)] [.int x0] τ = Ru M_M_shipsAt d Q 34 [some (.ref a0), some (.ref a1), some (.int a2), some (.int a3), some (.int a4)] [.int 0, .int x0] τ) ∧
    (∀ (a0 : Nat) (a1 : Nat) (a2 : Int32) (a3 : Int32) (a4 : Int32) (x0 : Int32) (x1 : Int32) (τ : St), Ru M_M_shipsAt d Q 34 [some (.ref a0), some (.ref a1), some (.int a2), some (.int a3), some (.int a4)] [.int x0, .int x1] τ = Ru M_M_shipsAt d Q 35 [some (.ref a0), some (.ref a1), some (.int a2), some (.int a3), some (.int a4)] [.int (x1 ||| x0)] τ) ∧
    (∀ (a0 : Nat) (a1 : Nat) (a2 : Int32) (a3 : Int32) (a4 : Int32) (x0 : Int32) (τ : St), Ru M_M_shipsAt d Q 35 [some (.ref a0), some (.ref a1), some (.int a2), some (.int a3), some (.int a4)] [.int x0] τ = Ru M_M_shipsAt d Q 36 [some (.ref a0), some (.ref a1), some (.int a2), some (.int x0), some (.int a4)] [] τ) ∧
    (∀ (a0 : Nat) (a1 : Nat) (a2 : Int32) (a3 : Int32) (a4 : Int32) (τ : St), Ru M_M_shipsAt d Q 36 [some (.ref a0), some (.ref a1), some (.int a2), some (.int a3), some (.int a4)] [] τ = Ru M_M_shipsAt d Q 39 [some (.ref a0), some (.ref a1), some (.int a2), some (.int a3), some (.int (a4 + 1))] [] τ) ∧
    (∀ (a0 : Nat) (a1 : Nat) (a2 : Int32) (a3 : Int32) (a4 : Int32) (τ : St), Ru M_M_shipsAt d Q 39 [some (.ref a0), some (.ref a1), some (.int a2), some (.int a3), some (.int a4)] [] τ = Rs M_M_shipsAt d Q 5 [some (.ref a0), some (.ref a1), some (.int a2), some (.int a3), some (.int a4)] [] τ) ∧
    (∀ (a0 : Nat) (a1 : Nat) (a2 : Int32) (a3 : Int32) (a4 : Int32) (τ : St), Ru M_M_shipsAt d Q 42 [some (.ref a0), some (.ref a1), some (.int a2), some (.int a3), some (.int a4)] [] τ = Ru M_M_shipsAt d Q 43 [some (.ref a0), some (.ref a1), some (.int a2), some (.int a3), some (.int a4)] [.int a3] τ) ∧
    (∀ (a0 : Nat) (a1 : Nat) (a2 : Int32) (a3 : Int32) (a4 : Int32) (x0 : Int32) (τ : St), Ru M_M_shipsAt d Q 43 [some (.ref a0), some (.ref a1), some (.int a2), some (.int a3), some (.int a4)] [.int x0] τ = Q (some (.int x0)) τ) := ⟨
  fun _ _ _ _ => (R_at ok_M_shipsAt rfl).trans e_push,
  fun _ _ _ _ _ => (R_at ok_M_shipsAt rfl).trans e_ist,
  fun _ _ _ _ _ => (R_at ok_M_shipsAt rfl).trans e_push,
  fun _ _ _ _ _ _ => (R_at ok_M_shipsAt rfl).trans e_ist,
  fun _ _ _ _ _ _ => (R_at ok_M_shipsAt rfl).trans (e_ild rfl),
  fun _ _ _ _ _ _ _ => (R_at ok_M_shipsAt rfl).trans (e_ald rfl),
  fun _ _ _ _ _ _ _ _ => (R_at ok_M_shipsAt rfl).trans e_gI,
  fun _ _ _ _ _ _ _ _ => (R_at ok_M_shipsAt rfl).trans e_ic,
  fun _ _ _ _ _ _ => (R_at ok_M_shipsAt rfl).trans (e_ild rfl),
  fun _ _ _ _ _ _ _ => (R_at ok_M_shipsAt rfl).trans (e_ald rfl),
  fun _ _ _ _ _ _ _ _ => (R_at ok_M_shipsAt rfl).trans e_push,
  fun _ _ _ _ _ _ _ _ _ => (R_at ok_M_shipsAt rfl).trans (e_ild rfl),
  fun _ _ _ _ _ _ _ _ _ _ => (R_at ok_M_shipsAt rfl).trans e_bin,
  fun _ _ _ _ _ _ _ _ _ => (R_at ok_M_shipsAt rfl).trans e_al,
  fun _ _ _ _ _ _ _ _ => (R_at ok_M_shipsAt rfl).trans (e_ild rfl),
  fun _ _ _ _ _ _ _ _ _ => (R_at ok_M_shipsAt rfl).trans e_icn,
  fun _ _ _ _ _ _ _ => (R_at ok_M_shipsAt rfl).trans e_push,
  fun _ _ _ _ _ _ _ _ => (R_at ok_M_shipsAt rfl).trans (e_ild rfl),
  fun _ _ _ _ _ _ _ _ _ => (R_at ok_M_shipsAt rfl).trans e_bin,
  fun _ _ _ _ _ _ _ _ => (R_at ok_M_shipsAt rfl).trans e_goto,
  fun _ _ _ _ _ _ _ => (R_at ok_M_shipsAt rfl).trans e_push,
  fun _ _ _ _ _ _ _ _ => (R_at ok_M_shipsAt rfl).trans e_bin,
  fun _ _ _ _ _ _ _ => (R_at ok_M_shipsAt rfl).trans e_ist,
  fun _ _ _ _ _ _ => (R_at ok_M_shipsAt rfl).trans (e_iinc rfl),
  fun _ _ _ _ _ _ => (R_at ok_M_shipsAt rfl).trans e_goto,
  fun _ _ _ _ _ _ => (R_at ok_M_shipsAt rfl).trans (e_ild rfl),
  fun _ _ _ _ _ _ _ => (R_at ok_M_shipsAt rfl).trans e_iret⟩
set_option maxHeartbeats 4000000 in
theorem N_M_inHarbour (d : Nat) (Q : Qt) : ∀ (x0 : Nat) (x1 : Nat) (τ : St), Cl (d + 1) m_M_inHarbour [.ref x0, .ref x1] τ Q = Ru M_M_inHarbour d Q 0 [some (.ref x0), some (.ref x1), none, none] [] τ := fun _ _ _ => propext ⟨fun h => h.2, fun h => ⟨Nat.le_of_ble_eq_true rfl, h⟩⟩
set_option maxHeartbeats 4000000 in
theorem E_M_inHarbour (d : Nat) (Q : Qt) :
    (∀ (a0 : Nat) (a1 : Nat) (τ : St), Ru M_M_inHarbour d Q 0 [some (.ref a0), some (.ref a1), none, none] [] τ = Ru M_M_inHarbour d Q 1 [some (.ref a0), some (.ref a1), none, none] [.int 0] τ) ∧
    (∀ (a0 : Nat) (a1 : Nat) (x0 : Int32) (τ : St), Ru M_M_inHarbour d Q 1 [some (.ref a0), some (.ref a1), none, none] [.int x0] τ = Ru M_M_inHarbour d Q 2 [some (.ref a0), some (.ref a1), some (.int x0), none] [] τ) ∧
    (∀ (a0 : Nat) (a1 : Nat) (a2 : Int32) (τ : St), Ru M_M_inHarbour d Q 2 [some (.ref a0), some (.ref a1), some (.int a2), none] [] τ = Ru M_M_inHarbour d Q 3 [some (.ref a0), some (.ref a1), some (.int a2), none] [.int 0] τ) ∧
    (∀ (a0 : Nat) (a1 : Nat) (a2 : Int32) (x0 : Int32) (τ : St), Ru M_M_inHarbour d Q 3 [some (.ref a0), some (.ref a1), some (.int a2), none] [.int x0] τ = Rs M_M_inHarbour d Q 4 [some (.ref a0), some (.ref a1), some (.int a2), some (.int x0)] [] τ) ∧
    (∀ (a0 : Nat) (a1 : Nat) (a2 : Int32) (a3 : Int32) (τ : St), Ru M_M_inHarbour d Q 4 [some (.ref a0), some (.ref a1), some (.int a2), some (.int a3)] [] τ = Ru M_M_inHarbour d Q 5 [some (.ref a0), some (.ref a1), some (.int a2), some (.int a3)] [.int a3] τ) ∧
    (∀ (a0 : Nat) (a1 : Nat) (a2 : Int32) (a3 : Int32) (x0 : Int32) (τ : St), Ru M_M_inHarbour d Q 5 [some (.ref a0), some (.ref a1), some (.int a2), some (.int a3)] [.int x0] τ = Ru M_M_inHarbour d Q 6 [some (.ref a0), some (.ref a1), some (.int a2), some (.int a3)] [.ref a0, .int x0] τ) ∧
    (∀ (a0 : Nat) (a1 : Nat) (a2 : Int32) (a3 : Int32) (x0 : Nat) (x1 : Int32) (τ : St), Ru M_M_inHarbour d Q 6 [some (.ref a0), some (.ref a1), some (.int a2), some (.int a3)] [.ref x0, .int x1] τ = (isA 12 x0 ∧ Ru M_M_inHarbour d Q 9 [some (.ref a0), some (.ref a1), some (.int a2), some (.int a3)] [.int (τ.1 x0 5), .int x1] τ)) ∧
    (∀ (a0 : Nat) (a1 : Nat) (a2 : Int32) (a3 : Int32) (x0 : Int32) (x1 : Int32) (τ : St), Ru M_M_inHarbour d Q 9 [some (.ref a0), some (.ref a1), some (.int a2), some (.int a3)] [.int x0, .int x1] τ = ((x0 ≤ x1 → Ru M_M_inHarbour d Q 43 [some (.ref a0), some (.ref a1), some (.int a2), some (.int a3)] [] τ) ∧ (¬ x0 ≤ x1 → Ru M_M_inHarbour d Q 12 [some (.ref a0), some (.ref a1), some (.int a2), some (.int a3)] [] τ))) ∧
    (∀ (a0 : Nat) (a1 : Nat) (a2 : Int32) (a3 : Int32) (τ : St), Ru M_M_inHarbour d Q 12 [some (.ref a0), some (.ref a1), some (.int a2), some (.int a3)] [] τ = Ru M_M_inHarbour d Q 13 [some (.ref a0), some (.ref a1), some (.int a2), some (.int a3)] [.int a2] τ) ∧
    (∀ (a0 : Nat) (a1 : Nat) (a2 : Int32) (a3 : Int32) (x0 : Int32) (τ : St), Ru M_M_inHarbour d Q 13 [some (.ref a0), some (.ref a1), some (.int a2), some (.int a3)] [.int x0] τ = Ru M_M_inHarbour d Q 14 [some (.ref a0), some (.ref a1), some (.int a2), some (.int a3)] [.ref a0, .int x0] τ) ∧
    (∀ (a0 : Nat) (a1 : Nat) (a2 : Int32) (a3 : Int32) (x0 : Nat) (x1 : Int32) (τ : St), Ru M_M_inHarbour d Q 14 [some (.ref a0), some (.ref a1), some (.int a2), some (.int a3)] [.ref x0, .int x1] τ = (isA 12 x0 ∧ Ru M_M_inHarbour d Q 17 [some (.ref a0), some (.ref a1), some (.int a2), some (.int a3)] [.ref (rtab x0 7), .int x1] τ)) ∧
    (∀ (a0 : Nat) (a1 : Nat) (a2 : Int32) (a3 : Int32) (x0 : Nat) (x1 : Int32) (τ : St), Ru M_M_inHarbour d Q 17 [some (.ref a0), some (.ref a1), some (.int a2), some (.int a3)] [.ref x0, .int x1] τ = Ru M_M_inHarbour d Q 18 [some (.ref a0), some (.ref a1), some (.int a2), some (.int a3)] [.ref a1, .ref x0, .int x1] τ) ∧
    (∀ (a0 : Nat) (a1 : Nat) (a2 : Int32) (a3 : Int32) (x0 : Nat) (x1 : Nat) (x2 : Int32) (τ : St), Ru M_M_inHarbour d Q 18 [some (.ref a0), some (.ref a1), some (.int a2), some (.int a3)] [.ref x0, .ref x1, .int x2] τ = Ru M_M_inHarbour d Q 20 [some (.ref a0), some (.ref a1), some (.int a2), some (.int a3)] [.int 36, .ref x0, .ref x1, .int x2] τ) ∧
    (∀ (a0 : Nat) (a1 : Nat) (a2 : Int32) (a3 : Int32) (x0 : Int32) (x1 : Nat) (x2 : Nat) (x3 : Int32) (τ : St), Ru M_M_inHarbour d Q 20 [some (.ref a0), some (.ref a1), some (.int a2), some (.int a3)] [.int x0, .ref x1, .ref x2, .int x3] τ = Ru M_M_inHarbour d Q 21 [some (.ref a0), some (.ref a1), some (.int a2), some (.int a3)] [.int a3, .int x0, .ref x1, .ref x2, .int x3] τ) ∧
    (∀ (a0 : Nat) (a1 : Nat) (a2 : Int32) (a3 : Int32) (x0 : Int32) (x1 : Int32) (x2 : Nat) (x3 : Nat) (x4 : Int32) (τ : St), Ru M_M_inHarbour d Q 21 [some (.ref a0), some (.ref a1), some (.int a2), some (.int a3)] [.int x0, .int x1, .ref x2, .ref x3, .int x4] τ = Ru M_M_inHarbour d Q 22 [some (.ref a0), some (.ref a1), some (.int a2), some (.int a3)] [.int (x1 + x0), .ref x2, .ref x3, .int x4] τ) ∧
    (∀ (a0 : Nat) (a1 : Nat) (a2 : Int32) (a3 : Int32) (x0 : Int32) (x1 : Nat) (x2 : Nat) (x3 : Int32) (τ : St), Ru M_M_inHarbour d Q 22 [some (.ref a0), some (.ref a1), some (.int a2), some (.int a3)] [.int x0, .ref x1, .ref x2, .int x3] τ = (isA 14 x1 ∧ vp_in x0 (len x1) ∧ Ru M_M_inHarbour d Q 23 [some (.ref a0), some (.ref a1), some (.int a2), some (.int a3)] [.int (τ.1 x1 x0.toNatClampNeg), .ref x2, .int x3] τ)) ∧
    (∀ (a0 : Nat) (a1 : Nat) (a2 : Int32) (a3 : Int32) (x0 : Int32) (x1 : Nat) (x2 : Int32) (τ : St), Ru M_M_inHarbour d Q 23 [some (.ref a0), some (.ref a1), some (.int a2), some (.int a3)] [.int x0, .ref x1, .int x2] τ = (isA 14 x1 ∧ vp_in x0 (len x1) ∧ Ru M_M_inHarbour d Q 24 [some (.ref a0), some (.ref a1), some (.int a2), some (.int a3)] [.int (τ.1 x1 x0.toNatClampNeg), .int x2] τ)) ∧
    (∀ (a0 : Nat) (a1 : Nat) (a2 : Int32) (a3 : Int32) (x0 : Int32) (x1 : Int32) (τ : St), Ru M_M_inHarbour d Q 24 [some (.ref a0), some (.ref a1), some (.int a2), some (.int a3)] [.int x0, .int x1] τ = Ru M_M_inHarbour d Q 25 [some (.ref a0), some (.ref a1), some (.int a2), some (.int a3)] [.int 2, .int x0, .int x1] τ) ∧
    (∀ (a0 : Nat) (a1 : Nat) (a2 : Int32) (a3 : Int32) (x0 : Int32) (x1 : Int32) (x2 : Int32) (τ : St), Ru M_M_inHarbour d Q 25 [some (.ref a0), some (.ref a1), some (.int a2), some (.int a3)] [.int x0, .int x1, .int x2] τ = ((¬ x1 = x0 → Ru M_M_inHarbour d Q 34 [some (.ref a0), some (.ref a1), some (.int a2), some (.int a3)] [.int x2] τ) ∧ (x1 = x0 → Ru M_M_inHarbour d Q 28 [some (.ref a0), some (.ref a1), some (.int a2), some (.int a3)] [.int x2] τ))) ∧
    (∀ (a0 : Nat) (a1 : Nat) (a2 : Int32) (a3 : Int32) (x0 : Int32) (τ : St), Ru M_M_inHarbour d Q 28 [some (.ref a0), some (.ref a1), some (.int a2), some (.int a3)] [.int x0] τ = Ru M_M_inHarbour d Q 29 [some (.ref a0), some (.ref a1), some (.int a2), some (.int a3)] [.int 1, .int x0] τ) ∧
    (∀ (a0 : Nat) (a1 : Nat) (a2 : Int32) (a3 : Int32) (x0 : Int32) (x1 : Int32) (τ : St), Ru M_M_inHarbour d Q 29 [some (.ref a0), some (.ref a1), some (.int a2), some (.int a3)] [.int x0, .int x1] τ = Ru M_M_inHarbour d Q 30 [some (.ref a0), some (.ref a1), some (.int a2), some (.int a3)] [.int a3, .int x0, .int x1] τ) ∧
    (∀ (a0 : Nat) (a1 : Nat) (a2 : Int32) (a3 : Int32) (x0 : Int32) (x1 : Int32) (x2 : Int32) (τ : St), Ru M_M_inHarbour d Q 30 [some (.ref a0), some (.ref a1), some (.int a2), some (.int a3)] [.int x0, .int x1, .int x2] τ = Ru M_M_inHarbour d Q 31 [some (.ref a0), some (.ref a1), some (.int a2), some (.int a3)] [.int (x1 <<< (x0 &&& 31)), .int x2] τ) ∧
    (∀ (a0 : Nat) (a1 : Nat) (a2 : Int32) (a3 : Int32) (x0 : Int32) (x1 : Int32) (τ : St), Ru M_M_inHarbour d Q 31 [some (.ref a0), some (.ref a1), some (.int a2), some (.int a3)] [.int x0, .int x1] τ = Ru M_M_inHarbour d Q 35 [some (.ref a0), some (.ref a1), some (.int a2), some (.int a3)] [.int x0, .int x1] τ) ∧
    (∀ (a0 : Nat) (a1 : Nat) (a2 : Int32) (a3 : Int32) (x0 : Int32) (τ : St), Ru M_M_inHarbour d Q 34 [some (.ref a0), some (.ref a1), some (.int a2), some (.int a3)] [.int x0] τ = Ru M_M_inHarbour d Q 35 [some (.ref a0), some (.ref a1), some (.int a2), some (.int a3)] [.int 0, .int x0] τ) ∧
    (∀ (a0 : Nat) (a1 : Nat) (a2 : Int32) (a3 : Int32) (x0 : Int32) (x1 : Int32) (τ : St), Ru M_M_inHarbour d Q 35 [some (.ref a0), some (.ref a1), some (.int a2), some (.int a3)] [.int x0, .int x1] τ = Ru M_M_inHarbour d Q 36 [some (.ref a0), some (.ref a1), some (.int a2), some (.int a3)] [.int (x1 ||| x0)] τ) ∧
    (∀ (a0 : Nat) (a1 : Nat) (a2 : Int32) (a3 : Int32) (x0 : Int32) (τ : St), Ru M_M_inHarbour d Q 36 [some (.ref a0), some (.ref a1), some (.int a2), some (.int a3)] [.int x0] τ = Ru M_M_inHarbour d Q 37 [some (.ref a0), some (.ref a1), some (.int x0), some (.int a3)] [] τ) ∧
    (∀ (a0 : Nat) (a1 : Nat) (a2 : Int32) (a3 : Int32) (τ : St), Ru M_M_inHarbour d Q 37 [some (.ref a0), some (.ref a1), some (.int a2), some (.int a3)] [] τ = Ru M_M_inHarbour d Q 40 [some (.ref a0), some (.ref a1), some (.int a2), some (.int (a3 + 1))] [] τ) ∧
    (∀ (a0 : Nat) (a1 : Nat) (a2 : Int32) (a3 : Int32) (τ : St), Ru M_M_inHarbour d Q 40 [some (.ref a0), some (.ref a1), some (.int a2), some (.int a3)] [] τ = Rs M_M_inHarbour d Q 4 [some (.ref a0), some (.ref a1), some (.int a2), some (.int a3)] [] τ) ∧
    (∀ (a0 : Nat) (a1 : Nat) (a2 : Int32) (a3 : Int32) (τ : St), Ru M_M_inHarbour d Q 43 [some (.ref a0), some (.ref a1), some (.int a2), some (.int a3)] [] τ = Ru M_M_inHarbour d Q 44 [some (.ref a0), some (.ref a1), some (.int a2), some (.int a3)] [.int a2] τ) ∧
    (∀ (a0 : Nat) (a1 : Nat) (a2 : Int32) (a3 : Int32) (x0 : Int32) (τ : St), Ru M_M_inHarbour d Q 44 [some (.ref a0), some (.ref a1), some (.int a2), some (.int a3)] [.int x0] τ = Q (some (.int x0)) τ) := ⟨
  fun _ _ _ => (R_at ok_M_inHarbour rfl).trans e_push,
  fun _ _ _ _ => (R_at ok_M_inHarbour rfl).trans e_ist,
  fun _ _ _ _ => (R_at ok_M_inHarbour rfl).trans e_push,
  fun _ _ _ _ _ => (R_at ok_M_inHarbour rfl).trans e_ist,
  fun _ _ _ _ _ => (R_at ok_M_inHarbour rfl).trans (e_ild rfl),
  fun _ _ _ _ _ _ => (R_at ok_M_inHarbour rfl).trans (e_ald rfl),
  fun _ _ _ _ _ _ _ => (R_at ok_M_inHarbour rfl).trans e_gI,
  fun _ _ _ _ _ _ _ => (R_at ok_M_inHarbour rfl).trans e_ic,
  fun _ _ _ _ _ => (R_at ok_M_inHarbour rfl).trans (e_ild rfl),
  fun _ _ _ _ _ _ => (R_at ok_M_inHarbour rfl).trans (e_ald rfl),
  fun _ _ _ _ _ _ _ => (R_at ok_M_inHarbour rfl).trans e_gR,
  fun _ _ _ _ _ _ _ => (R_at ok_M_inHarbour rfl).trans (e_ald rfl),
  fun _ _ _ _ _ _ _ _ => (R_at ok_M_inHarbour rfl).trans e_push,
  fun _ _ _ _ _ _ _ _ _ => (R_at ok_M_inHarbour rfl).trans (e_ild rfl),
  fun _ _ _ _ _ _ _ _ _ _ => (R_at ok_M_inHarbour rfl).trans e_bin,
  fun _ _ _ _ _ _ _ _ _ => (R_at ok_M_inHarbour rfl).trans e_al,
  fun _ _ _ _ _ _ _ _ => (R_at ok_M_inHarbour rfl).trans e_al,
  fun _ _ _ _ _ _ _ => (R_at ok_M_inHarbour rfl).trans e_push,
  fun _ _ _ _ _ _ _ _ => (R_at ok_M_inHarbour rfl).trans e_icn,
  fun _ _ _ _ _ _ => (R_at ok_M_inHarbour rfl).trans e_push,
  fun _ _ _ _ _ _ _ => (R_at ok_M_inHarbour rfl).trans (e_ild rfl),
  fun _ _ _ _ _ _ _ _ => (R_at ok_M_inHarbour rfl).trans e_bin,
  fun _ _ _ _ _ _ _ => (R_at ok_M_inHarbour rfl).trans e_goto,
  fun _ _ _ _ _ _ => (R_at ok_M_inHarbour rfl).trans e_push,
  fun _ _ _ _ _ _ _ => (R_at ok_M_inHarbour rfl).trans e_bin,
  fun _ _ _ _ _ _ => (R_at ok_M_inHarbour rfl).trans e_ist,
  fun _ _ _ _ _ => (R_at ok_M_inHarbour rfl).trans (e_iinc rfl),
  fun _ _ _ _ _ => (R_at ok_M_inHarbour rfl).trans e_goto,
  fun _ _ _ _ _ => (R_at ok_M_inHarbour rfl).trans (e_ild rfl),
  fun _ _ _ _ _ _ => (R_at ok_M_inHarbour rfl).trans e_iret⟩
set_option maxHeartbeats 4000000 in
theorem N_M_plankMany (d : Nat) (Q : Qt) : ∀ (x0 : Nat) (x1 : Nat) (τ : St), Cl (d + 1) m_M_plankMany [.ref x0, .ref x1] τ Q = Ru M_M_plankMany d Q 0 [some (.ref x0), some (.ref x1), none, none] [] τ := fun _ _ _ => propext ⟨fun h => h.2, fun h => ⟨Nat.le_of_ble_eq_true rfl, h⟩⟩
set_option maxHeartbeats 4000000 in
theorem E_M_plankMany (d : Nat) (Q : Qt) :
    (∀ (a0 : Nat) (a1 : Nat) (τ : St), Ru M_M_plankMany d Q 0 [some (.ref a0), some (.ref a1), none, none] [] τ = Ru M_M_plankMany d Q 1 [some (.ref a0), some (.ref a1), none, none] [.int 0] τ) ∧
    (∀ (a0 : Nat) (a1 : Nat) (x0 : Int32) (τ : St), Ru M_M_plankMany d Q 1 [some (.ref a0), some (.ref a1), none, none] [.int x0] τ = Ru M_M_plankMany d Q 2 [some (.ref a0), some (.ref a1), some (.int x0), none] [] τ) ∧
    (∀ (a0 : Nat) (a1 : Nat) (a2 : Int32) (τ : St), Ru M_M_plankMany d Q 2 [some (.ref a0), some (.ref a1), some (.int a2), none] [] τ = Ru M_M_plankMany d Q 3 [some (.ref a0), some (.ref a1), some (.int a2), none] [.int 0] τ) ∧
    (∀ (a0 : Nat) (a1 : Nat) (a2 : Int32) (x0 : Int32) (τ : St), Ru M_M_plankMany d Q 3 [some (.ref a0), some (.ref a1), some (.int a2), none] [.int x0] τ = Rs M_M_plankMany d Q 4 [some (.ref a0), some (.ref a1), some (.int a2), some (.int x0)] [] τ) ∧
    (∀ (a0 : Nat) (a1 : Nat) (a2 : Int32) (a3 : Int32) (τ : St), Ru M_M_plankMany d Q 4 [some (.ref a0), some (.ref a1), some (.int a2), some (.int a3)] [] τ = Ru M_M_plankMany d Q 5 [some (.ref a0), some (.ref a1), some (.int a2), some (.int a3)] [.int a3] τ) ∧
    (∀ (a0 : Nat) (a1 : Nat) (a2 : Int32) (a3 : Int32) (x0 : Int32) (τ : St), Ru M_M_plankMany d Q 5 [some (.ref a0), some (.ref a1), some (.int a2), some (.int a3)] [.int x0] τ = Ru M_M_plankMany d Q 7 [some (.ref a0), some (.ref a1), some (.int a2), some (.int a3)] [.int 36, .int x0] τ) ∧
    (∀ (a0 : Nat) (a1 : Nat) (a2 : Int32) (a3 : Int32) (x0 : Int32) (x1 : Int32) (τ : St), Ru M_M_plankMany d Q 7 [some (.ref a0), some (.ref a1), some (.int a2), some (.int a3)] [.int x0, .int x1] τ = ((x0 ≤ x1 → Ru M_M_plankMany d Q 22 [some (.ref a0), some (.ref a1), some (.int a2), some (.int a3)] [] τ) ∧ (¬ x0 ≤ x1 → Ru M_M_plankMany d Q 10 [some (.ref a0), some (.ref a1), some (.int a2), some (.int a3)] [] τ))) ∧
    (∀ (a0 : Nat) (a1 : Nat) (a2 : Int32) (a3 : Int32) (τ : St), Ru M_M_plankMany d Q 10 [some (.ref a0), some (.ref a1), some (.int a2), some (.int a3)] [] τ = Ru M_M_plankMany d Q 11 [some (.ref a0), some (.ref a1), some (.int a2), some (.int a3)] [.int a2] τ) ∧
    (∀ (a0 : Nat) (a1 : Nat) (a2 : Int32) (a3 : Int32) (x0 : Int32) (τ : St), Ru M_M_plankMany d Q 11 [some (.ref a0), some (.ref a1), some (.int a2), some (.int a3)] [.int x0] τ = Ru M_M_plankMany d Q 12 [some (.ref a0), some (.ref a1), some (.int a2), some (.int a3)] [.ref a1, .int x0] τ) ∧
    (∀ (a0 : Nat) (a1 : Nat) (a2 : Int32) (a3 : Int32) (x0 : Nat) (x1 : Int32) (τ : St), Ru M_M_plankMany d Q 12 [some (.ref a0), some (.ref a1), some (.int a2), some (.int a3)] [.ref x0, .int x1] τ = Ru M_M_plankMany d Q 13 [some (.ref a0), some (.ref a1), some (.int a2), some (.int a3)] [.int a3, .ref x0, .int x1] τ) ∧
    (∀ (a0 : Nat) (a1 : Nat) (a2 : Int32) (a3 : Int32) (x0 : Int32) (x1 : Nat) (x2 : Int32) (τ : St), Ru M_M_plankMany d Q 13 [some (.ref a0), some (.ref a1), some (.int a2), some (.int a3)] [.int x0, .ref x1, .int x2] τ = (isA 14 x1 ∧ vp_in x0 (len x1) ∧ Ru M_M_plankMany d Q 14 [some (.ref a0), some (.ref a1), some (.int a2), some (.int a3)] [.int (τ.1 x1 x0.toNatClampNeg), .int x2] τ)) ∧
    (∀ (a0 : Nat) (a1 : Nat) (a2 : Int32) (a3 : Int32) (x0 : Int32) (x1 : Int32) (τ : St), Ru M_M_plankMany d Q 14 [some (.ref a0), some (.ref a1), some (.int a2), some (.int a3)] [.int x0, .int x1] τ = Ru M_M_plankMany d Q 15 [some (.ref a0), some (.ref a1), some (.int a2), some (.int a3)] [.int (x1 + x0)] τ) ∧
    (∀ (a0 : Nat) (a1 : Nat) (a2 : Int32) (a3 : Int32) (x0 : Int32) (τ : St), Ru M_M_plankMany d Q 15 [some (.ref a0), some (.ref a1), some (.int a2), some (.int a3)] [.int x0] τ = Ru M_M_plankMany d Q 16 [some (.ref a0), some (.ref a1), some (.int x0), some (.int a3)] [] τ) ∧
    (∀ (a0 : Nat) (a1 : Nat) (a2 : Int32) (a3 : Int32) (τ : St), Ru M_M_plankMany d Q 16 [some (.ref a0), some (.ref a1), some (.int a2), some (.int a3)] [] τ = Ru M_M_plankMany d Q 19 [some (.ref a0), some (.ref a1), some (.int a2), some (.int (a3 + 1))] [] τ) ∧
    (∀ (a0 : Nat) (a1 : Nat) (a2 : Int32) (a3 : Int32) (τ : St), Ru M_M_plankMany d Q 19 [some (.ref a0), some (.ref a1), some (.int a2), some (.int a3)] [] τ = Rs M_M_plankMany d Q 4 [some (.ref a0), some (.ref a1), some (.int a2), some (.int a3)] [] τ) ∧
    (∀ (a0 : Nat) (a1 : Nat) (a2 : Int32) (a3 : Int32) (τ : St), Ru M_M_plankMany d Q 22 [some (.ref a0), some (.ref a1), some (.int a2), some (.int a3)] [] τ = Ru M_M_plankMany d Q 23 [some (.ref a0), some (.ref a1), some (.int a2), some (.int a3)] [.int a2] τ) ∧
    (∀ (a0 : Nat) (a1 : Nat) (a2 : Int32) (a3 : Int32) (x0 : Int32) (τ : St), Ru M_M_plankMany d Q 23 [some (.ref a0), some (.ref a1), some (.int a2), some (.int a3)] [.int x0] τ = Q (some (.int x0)) τ) := ⟨
  fun _ _ _ => (R_at ok_M_plankMany rfl).trans e_push,
  fun _ _ _ _ => (R_at ok_M_plankMany rfl).trans e_ist,
  fun _ _ _ _ => (R_at ok_M_plankMany rfl).trans e_push,
  fun _ _ _ _ _ => (R_at ok_M_plankMany rfl).trans e_ist,
  fun _ _ _ _ _ => (R_at ok_M_plankMany rfl).trans (e_ild rfl),
  fun _ _ _ _ _ _ => (R_at ok_M_plankMany rfl).trans e_push,
  fun _ _ _ _ _ _ _ => (R_at ok_M_plankMany rfl).trans e_ic,
  fun _ _ _ _ _ => (R_at ok_M_plankMany rfl).trans (e_ild rfl),
  fun _ _ _ _ _ _ => (R_at ok_M_plankMany rfl).trans (e_ald rfl),
  fun _ _ _ _ _ _ _ => (R_at ok_M_plankMany rfl).trans (e_ild rfl),
  fun _ _ _ _ _ _ _ _ => (R_at ok_M_plankMany rfl).trans e_al,
  fun _ _ _ _ _ _ _ => (R_at ok_M_plankMany rfl).trans e_bin,
  fun _ _ _ _ _ _ => (R_at ok_M_plankMany rfl).trans e_ist,
  fun _ _ _ _ _ => (R_at ok_M_plankMany rfl).trans (e_iinc rfl),
  fun _ _ _ _ _ => (R_at ok_M_plankMany rfl).trans e_goto,
  fun _ _ _ _ _ => (R_at ok_M_plankMany rfl).trans (e_ild rfl),
  fun _ _ _ _ _ _ => (R_at ok_M_plankMany rfl).trans e_iret⟩
set_option maxHeartbeats 4000000 in
theorem N_M_sign (d : Nat) (Q : Qt) : ∀ (x0 : Nat) (x1 : Int32) (τ : St), Cl (d + 1) m_M_sign [.ref x0, .int x1] τ Q = Ru M_M_sign d Q 0 [some (.ref x0), some (.int x1), none] [] τ := fun _ _ _ => propext ⟨fun h => h.2, fun h => ⟨Nat.le_of_ble_eq_true rfl, h⟩⟩
set_option maxHeartbeats 4000000 in
theorem E_M_sign (d : Nat) (Q : Qt) :
    (∀ (a0 : Nat) (a1 : Int32) (τ : St), Ru M_M_sign d Q 0 [some (.ref a0), some (.int a1), none] [] τ = Ru M_M_sign d Q 1 [some (.ref a0), some (.int a1), none] [.ref a0] τ) ∧
    (∀ (a0 : Nat) (a1 : Int32) (x0 : Nat) (τ : St), Ru M_M_sign d Q 1 [some (.ref a0), some (.int a1), none] [.ref x0] τ = Ru M_M_sign d Q 2 [some (.ref a0), some (.int a1), none] [.int 0, .ref x0] τ) ∧
    (∀ (a0 : Nat) (a1 : Int32) (x0 : Int32) (x1 : Nat) (τ : St), Ru M_M_sign d Q 2 [some (.ref a0), some (.int a1), none] [.int x0, .ref x1] τ = (isA 12 x1 ∧ Ru M_M_sign d Q 5 [some (.ref a0), some (.int a1), none] [] (sI τ x1 0 x0))) ∧
    (∀ (a0 : Nat) (a1 : Int32) (τ : St), Ru M_M_sign d Q 5 [some (.ref a0), some (.int a1), none] [] τ = Ru M_M_sign d Q 6 [some (.ref a0), some (.int a1), none] [.ref a0] τ) ∧
    (∀ (a0 : Nat) (a1 : Int32) (x0 : Nat) (τ : St), Ru M_M_sign d Q 6 [some (.ref a0), some (.int a1), none] [.ref x0] τ = (isA 12 x0 ∧ Ru M_M_sign d Q 9 [some (.ref a0), some (.int a1), none] [.int (τ.1 x0 14)] τ)) ∧
    (∀ (a0 : Nat) (a1 : Int32) (x0 : Int32) (τ : St), Ru M_M_sign d Q 9 [some (.ref a0), some (.int a1), none] [.int x0] τ = Ru M_M_sign d Q 11 [some (.ref a0), some (.int a1), none] [.int 76, .int x0] τ) ∧
    (∀ (a0 : Nat) (a1 : Int32) (x0 : Int32) (x1 : Int32) (τ : St), Ru M_M_sign d Q 11 [some (.ref a0), some (.int a1), none] [.int x0, .int x1] τ = ((x1 ≤ x0 → Ru M_M_sign d Q 16 [some (.ref a0), some (.int a1), none] [] τ) ∧ (¬ x1 ≤ x0 → Ru M_M_sign d Q 14 [some (.ref a0), some (.int a1), none] [] τ))) ∧
    (∀ (a0 : Nat) (a1 : Int32) (τ : St), Ru M_M_sign d Q 14 [some (.ref a0), some (.int a1), none] [] τ = Ru M_M_sign d Q 15 [some (.ref a0), some (.int a1), none] [.int (-1)] τ) ∧
    (∀ (a0 : Nat) (a1 : Int32) (x0 : Int32) (τ : St), Ru M_M_sign d Q 15 [some (.ref a0), some (.int a1), none] [.int x0] τ = Q (some (.int x0)) τ) ∧
    (∀ (a0 : Nat) (a1 : Int32) (τ : St), Ru M_M_sign d Q 16 [some (.ref a0), some (.int a1), none] [] τ = Ru M_M_sign d Q 17 [some (.ref a0), some (.int a1), none] [.int 0] τ) ∧
    (∀ (a0 : Nat) (a1 : Int32) (x0 : Int32) (τ : St), Ru M_M_sign d Q 17 [some (.ref a0), some (.int a1), none] [.int x0] τ = Rs M_M_sign d Q 18 [some (.ref a0), some (.int a1), some (.int x0)] [] τ) ∧
    (∀ (a0 : Nat) (a1 : Int32) (a2 : Int32) (τ : St), Ru M_M_sign d Q 18 [some (.ref a0), some (.int a1), some (.int a2)] [] τ = Ru M_M_sign d Q 19 [some (.ref a0), some (.int a1), some (.int a2)] [.int a2] τ) ∧
    (∀ (a0 : Nat) (a1 : Int32) (a2 : Int32) (x0 : Int32) (τ : St), Ru M_M_sign d Q 19 [some (.ref a0), some (.int a1), some (.int a2)] [.int x0] τ = Ru M_M_sign d Q 20 [some (.ref a0), some (.int a1), some (.int a2)] [.int 4, .int x0] τ) ∧
    (∀ (a0 : Nat) (a1 : Int32) (a2 : Int32) (x0 : Int32) (x1 : Int32) (τ : St), Ru M_M_sign d Q 20 [some (.ref a0), some (.int a1), some (.int a2)] [.int x0, .int x1] τ = ((x0 ≤ x1 → Ru M_M_sign d Q 53 [some (.ref a0), some (.int a1), some (.int a2)] [] τ) ∧ (¬ x0 ≤ x1 → Ru M_M_sign d Q 23 [some (.ref a0), some (.int a1), some (.int a2)] [] τ))) ∧
    (∀ (a0 : Nat) (a1 : Int32) (a2 : Int32) (τ : St), Ru M_M_sign d Q 23 [some (.ref a0), some (.int a1), some (.int a2)] [] τ = Ru M_M_sign d Q 24 [some (.ref a0), some (.int a1), some (.int a2)] [.ref a0] τ) ∧
    (∀ (a0 : Nat) (a1 : Int32) (a2 : Int32) (x0 : Nat) (τ : St), Ru M_M_sign d Q 24 [some (.ref a0), some (.int a1), some (.int a2)] [.ref x0] τ = (isA 12 x0 ∧ Ru M_M_sign d Q 27 [some (.ref a0), some (.int a1), some (.int a2)] [.ref (rtab x0 13)] τ)) ∧
    (∀ (a0 : Nat) (a1 : Int32) (a2 : Int32) (x0 : Nat) (τ : St), Ru M_M_sign d Q 27 [some (.ref a0), some (.int a1), some (.int a2)] [.ref x0] τ = Ru M_M_sign d Q 28 [some (.ref a0), some (.int a1), some (.int a2)] [.ref a0, .ref x0] τ) ∧
    (∀ (a0 : Nat) (a1 : Int32) (a2 : Int32) (x0 : Nat) (x1 : Nat) (τ : St), Ru M_M_sign d Q 28 [some (.ref a0), some (.int a1), some (.int a2)] [.ref x0, .ref x1] τ = (isA 12 x0 ∧ Ru M_M_sign d Q 31 [some (.ref a0), some (.int a1), some (.int a2)] [.int (τ.1 x0 14), .ref x1] τ)) ∧
    (∀ (a0 : Nat) (a1 : Int32) (a2 : Int32) (x0 : Int32) (x1 : Nat) (τ : St), Ru M_M_sign d Q 31 [some (.ref a0), some (.int a1), some (.int a2)] [.int x0, .ref x1] τ = Ru M_M_sign d Q 32 [some (.ref a0), some (.int a1), some (.int a2)] [.int a2, .int x0, .ref x1] τ) ∧
    (∀ (a0 : Nat) (a1 : Int32) (a2 : Int32) (x0 : Int32) (x1 : Int32) (x2 : Nat) (τ : St), Ru M_M_sign d Q 32 [some (.ref a0), some (.int a1), some (.int a2)] [.int x0, .int x1, .ref x2] τ = Ru M_M_sign d Q 33 [some (.ref a0), some (.int a1), some (.int a2)] [.int (x1 + x0), .ref x2] τ) ∧
    (∀ (a0 : Nat) (a1 : Int32) (a2 : Int32) (x0 : Int32) (x1 : Nat) (τ : St), Ru M_M_sign d Q 33 [some (.ref a0), some (.int a1), some (.int a2)] [.int x0, .ref x1] τ = Ru M_M_sign d Q 34 [some (.ref a0), some (.int a1), some (.int a2)] [.int a1, .int x0, .ref x1] τ) ∧
    (∀ (a0 : Nat) (a1 : Int32) (a2 : Int32) (x0 : Int32) (x1 : Int32) (x2 : Nat) (τ : St), Ru M_M_sign d Q 34 [some (.ref a0), some (.int a1), some (.int a2)] [.int x0, .int x1, .ref x2] τ = Ru M_M_sign d Q 36 [some (.ref a0), some (.int a1), some (.int a2)] [.int 24, .int x0, .int x1, .ref x2] τ) ∧
    (∀ (a0 : Nat) (a1 : Int32) (a2 : Int32) (x0 : Int32) (x1 : Int32) (x2 : Int32) (x3 : Nat) (τ : St), Ru M_M_sign d Q 36 [some (.ref a0), some (.int a1), some (.int a2)] [.int x0, .int x1, .int x2, .ref x3] τ = Ru M_M_sign d Q 38 [some (.ref a0), some (.int a1), some (.int a2)] [.int 8, .int x0, .int x1, .int x2, .ref x3] τ) ∧
    (∀ (a0 : Nat) (a1 : Int32) (a2 : Int32) (x0 : Int32) (x1 : Int32) (x2 : Int32) (x3 : Int32) (x4 : Nat) (τ : St), Ru M_M_sign d Q 38 [some (.ref a0), some (.int a1), some (.int a2)] [.int x0, .int x1, .int x2, .int x3, .ref x4] τ = Ru M_M_sign d Q 39 [some (.ref a0), some (.int a1), some (.int a2)] [.int a2, .int x0, .int x1, .int x2, .int x3, .ref x4] τ) ∧
    (∀ (a0 : Nat) (a1 : Int32) (a2 : Int32) (x0 : Int32) (x1 : Int32) (x2 : Int32) (x3 : Int32) (x4 : Int32) (x5 : Nat) (τ : St), Ru M_M_sign d Q 39 [some (.ref a0), some (.int a1), some (.int a2)] [.int x0, .int x1, .int x2, .int x3, .int x4, .ref x5] τ = Ru M_M_sign d Q 40 [some (.ref a0), some (.int a1), some (.int a2)] [.int (x1 * x0), .int x2, .int x3, .int x4, .ref x5] τ) ∧
    (∀ (a0 : Nat) (a1 : Int32) (a2 : Int32) (x0 : Int32) (x1 : Int32) (x2 : Int32) (x3 : Int32) (x4 : Nat) (τ : St), Ru M_M_sign d Q 40 [some (.ref a0), some (.int a1), some (.int a2)] [.int x0, .int x1, .int x2, .int x3, .ref x4] τ = Ru M_M_sign d Q 41 [some (.ref a0), some (.int a1), some (.int a2)] [.int (x1 - x0), .int x2, .int x3, .ref x4] τ) ∧
    (∀ (a0 : Nat) (a1 : Int32) (a2 : Int32) (x0 : Int32) (x1 : Int32) (x2 : Int32) (x3 : Nat) (τ : St), Ru M_M_sign d Q 41 [some (.ref a0), some (.int a1), some (.int a2)] [.int x0, .int x1, .int x2, .ref x3] τ = Ru M_M_sign d Q 42 [some (.ref a0), some (.int a1), some (.int a2)] [.int (x1 >>> (x0 &&& 31)), .int x2, .ref x3] τ) ∧
    (∀ (a0 : Nat) (a1 : Int32) (a2 : Int32) (x0 : Int32) (x1 : Int32) (x2 : Nat) (τ : St), Ru M_M_sign d Q 42 [some (.ref a0), some (.int a1), some (.int a2)] [.int x0, .int x1, .ref x2] τ = Ru M_M_sign d Q 45 [some (.ref a0), some (.int a1), some (.int a2)] [.int 255, .int x0, .int x1, .ref x2] τ) ∧
    (∀ (a0 : Nat) (a1 : Int32) (a2 : Int32) (x0 : Int32) (x1 : Int32) (x2 : Int32) (x3 : Nat) (τ : St), Ru M_M_sign d Q 45 [some (.ref a0), some (.int a1), some (.int a2)] [.int x0, .int x1, .int x2, .ref x3] τ = Ru M_M_sign d Q 46 [some (.ref a0), some (.int a1), some (.int a2)] [.int (x1 &&& x0), .int x2, .ref x3] τ) ∧
    (∀ (a0 : Nat) (a1 : Int32) (a2 : Int32) (x0 : Int32) (x1 : Int32) (x2 : Nat) (τ : St), Ru M_M_sign d Q 46 [some (.ref a0), some (.int a1), some (.int a2)] [.int x0, .int x1, .ref x2] τ = (isA 14 x2 ∧ vp_in x1 (len x2) ∧ Ru M_M_sign d Q 47 [some (.ref a0), some (.int a1), some (.int a2)] [] (sI τ x2 x1.toNatClampNeg (x0)))) ∧
    (∀ (a0 : Nat) (a1 : Int32) (a2 : Int32) (τ : St), Ru M_M_sign d Q 47 [some (.ref a0), some (.int a1), some (.int a2)] [] τ = Ru M_M_sign d Q 50 [some (.ref a0), some (.int a1), some (.int (a2 + 1))] [] τ) ∧
    (∀ (a0 : Nat) (a1 : Int32) (a2 : Int32) (τ : St), Ru M_M_sign d Q 50 [some (.ref a0), some (.int a1), some (.int a2)] [] τ = Rs M_M_sign d Q 18 [some (.ref a0), some (.int a1), some (.int a2)] [] τ) ∧
    (∀ (a0 : Nat) (a1 : Int32) (a2 : Int32) (τ : St), Ru M_M_sign d Q 53 [some (.ref a0), some (.int a1), some (.int a2)] [] τ = Ru M_M_sign d Q 54 [some (.ref a0), some (.int a1), some (.int a2)] [.ref a0] τ) ∧
    (∀ (a0 : Nat) (a1 : Int32) (a2 : Int32) (x0 : Nat) (τ : St), Ru M_M_sign d Q 54 [some (.ref a0), some (.int a1), some (.int a2)] [.ref x0] τ = Ru M_M_sign d Q 55 [some (.ref a0), some (.int a1), some (.int a2)] [.ref x0, .ref x0] τ) ∧
    (∀ (a0 : Nat) (a1 : Int32) (a2 : Int32) (x0 : Nat) (x1 : Nat) (τ : St), Ru M_M_sign d Q 55 [some (.ref a0), some (.int a1), some (.int a2)] [.ref x0, .ref x1] τ = (isA 12 x0 ∧ Ru M_M_sign d Q 58 [some (.ref a0), some (.int a1), some (.int a2)] [.int (τ.1 x0 14), .ref x1] τ)) ∧
    (∀ (a0 : Nat) (a1 : Int32) (a2 : Int32) (x0 : Int32) (x1 : Nat) (τ : St), Ru M_M_sign d Q 58 [some (.ref a0), some (.int a1), some (.int a2)] [.int x0, .ref x1] τ = Ru M_M_sign d Q 59 [some (.ref a0), some (.int a1), some (.int a2)] [.int 4, .int x0, .ref x1] τ) ∧
    (∀ (a0 : Nat) (a1 : Int32) (a2 : Int32) (x0 : Int32) (x1 : Int32) (x2 : Nat) (τ : St), Ru M_M_sign d Q 59 [some (.ref a0), some (.int a1), some (.int a2)] [.int x0, .int x1, .ref x2] τ = Ru M_M_sign d Q 60 [some (.ref a0), some (.int a1), some (.int a2)] [.int (x1 + x0), .ref x2] τ) ∧
    (∀ (a0 : Nat) (a1 : Int32) (a2 : Int32) (x0 : Int32) (x1 : Nat) (τ : St), Ru M_M_sign d Q 60 [some (.ref a0), some (.int a1), some (.int a2)] [.int x0, .ref x1] τ = (isA 12 x1 ∧ Ru M_M_sign d Q 63 [some (.ref a0), some (.int a1), some (.int a2)] [] (sI τ x1 14 x0))) ∧
    (∀ (a0 : Nat) (a1 : Int32) (a2 : Int32) (τ : St), Ru M_M_sign d Q 63 [some (.ref a0), some (.int a1), some (.int a2)] [] τ = Ru M_M_sign d Q 64 [some (.ref a0), some (.int a1), some (.int a2)] [.ref a0] τ) ∧
    (∀ (a0 : Nat) (a1 : Int32) (a2 : Int32) (x0 : Nat) (τ : St), Ru M_M_sign d Q 64 [some (.ref a0), some (.int a1), some (.int a2)] [.ref x0] τ = (isA 12 x0 ∧ Ru M_M_sign d Q 67 [some (.ref a0), some (.int a1), some (.int a2)] [.int (τ.1 x0 14)] τ)) ∧
    (∀ (a0 : Nat) (a1 : Int32) (a2 : Int32) (x0 : Int32) (τ : St), Ru M_M_sign d Q 67 [some (.ref a0), some (.int a1), some (.int a2)] [.int x0] τ = Q (some (.int x0)) τ) := ⟨
  fun _ _ _ => (R_at ok_M_sign rfl).trans (e_ald rfl),
  fun _ _ _ _ => (R_at ok_M_sign rfl).trans e_push,
  fun _ _ _ _ _ => (R_at ok_M_sign rfl).trans e_pI,
  fun _ _ _ => (R_at ok_M_sign rfl).trans (e_ald rfl),
  fun _ _ _ _ => (R_at ok_M_sign rfl).trans e_gI,
  fun _ _ _ _ => (R_at ok_M_sign rfl).trans e_push,
  fun _ _ _ _ _ => (R_at ok_M_sign rfl).trans e_ic,
  fun _ _ _ => (R_at ok_M_sign rfl).trans e_push,
  fun _ _ _ _ => (R_at ok_M_sign rfl).trans e_iret,
  fun _ _ _ => (R_at ok_M_sign rfl).trans e_push,
  fun _ _ _ _ => (R_at ok_M_sign rfl).trans e_ist,
  fun _ _ _ _ => (R_at ok_M_sign rfl).trans (e_ild rfl),
  fun _ _ _ _ _ => (R_at ok_M_sign rfl).trans e_push,
  fun _ _ _ _ _ _ => (R_at ok_M_sign rfl).trans e_ic,
  fun _ _ _ _ => (R_at ok_M_sign rfl).trans (e_ald rfl),
  fun _ _ _ _ _ => (R_at ok_M_sign rfl).trans e_gR,
  fun _ _ _ _ _ => (R_at ok_M_sign rfl).trans (e_ald rfl),
  fun _ _ _ _ _ _ => (R_at ok_M_sign rfl).trans e_gI,
  fun _ _ _ _ _ _ => (R_at ok_M_sign rfl).trans (e_ild rfl),
  fun _ _ _ _ _ _ _ => (R_at ok_M_sign rfl).trans e_bin,
  fun _ _ _ _ _ _ => (R_at ok_M_sign rfl).trans (e_ild rfl),
  fun _ _ _ _ _ _ _ => (R_at ok_M_sign rfl).trans e_push,
  fun _ _ _ _ _ _ _ _ => (R_at ok_M_sign rfl).trans e_push,
  fun _ _ _ _ _ _ _ _ _ => (R_at ok_M_sign rfl).trans (e_ild rfl),
  fun _ _ _ _ _ _ _ _ _ _ => (R_at ok_M_sign rfl).trans e_bin,
  fun _ _ _ _ _ _ _ _ _ => (R_at ok_M_sign rfl).trans e_bin,
  fun _ _ _ _ _ _ _ _ => (R_at ok_M_sign rfl).trans e_bin,
  fun _ _ _ _ _ _ _ => (R_at ok_M_sign rfl).trans e_push,
  fun _ _ _ _ _ _ _ _ => (R_at ok_M_sign rfl).trans e_bin,
  fun _ _ _ _ _ _ _ => (R_at ok_M_sign rfl).trans e_as,
  fun _ _ _ _ => (R_at ok_M_sign rfl).trans (e_iinc rfl),
  fun _ _ _ _ => (R_at ok_M_sign rfl).trans e_goto,
  fun _ _ _ _ => (R_at ok_M_sign rfl).trans (e_ald rfl),
  fun _ _ _ _ _ => (R_at ok_M_sign rfl).trans (e_dup rfl),
  fun _ _ _ _ _ _ => (R_at ok_M_sign rfl).trans e_gI,
  fun _ _ _ _ _ _ => (R_at ok_M_sign rfl).trans e_push,
  fun _ _ _ _ _ _ _ => (R_at ok_M_sign rfl).trans e_bin,
  fun _ _ _ _ _ _ => (R_at ok_M_sign rfl).trans e_pI,
  fun _ _ _ _ => (R_at ok_M_sign rfl).trans (e_ald rfl),
  fun _ _ _ _ _ => (R_at ok_M_sign rfl).trans e_gI,
  fun _ _ _ _ _ => (R_at ok_M_sign rfl).trans e_iret⟩
set_option maxHeartbeats 4000000 in
theorem N_M_end (d : Nat) (Q : Qt) : ∀ (x0 : Nat) (x1 : Int32) (τ : St), Cl (d + 1) m_M_end [.ref x0, .int x1] τ Q = Ru M_M_end d Q 0 [some (.ref x0), some (.int x1)] [] τ := fun _ _ _ => propext ⟨fun h => h.2, fun h => ⟨Nat.le_of_ble_eq_true rfl, h⟩⟩
set_option maxHeartbeats 4000000 in
theorem E_M_end (d : Nat) (Q : Qt) :
    (∀ (a0 : Nat) (a1 : Int32) (τ : St), Ru M_M_end d Q 0 [some (.ref a0), some (.int a1)] [] τ = Ru M_M_end d Q 1 [some (.ref a0), some (.int a1)] [.ref a0] τ) ∧
    (∀ (a0 : Nat) (a1 : Int32) (x0 : Nat) (τ : St), Ru M_M_end d Q 1 [some (.ref a0), some (.int a1)] [.ref x0] τ = Ru M_M_end d Q 2 [some (.ref a0), some (.int a1)] [.int 0, .ref x0] τ) ∧
    (∀ (a0 : Nat) (a1 : Int32) (x0 : Int32) (x1 : Nat) (τ : St), Ru M_M_end d Q 2 [some (.ref a0), some (.int a1)] [.int x0, .ref x1] τ = (isA 12 x1 ∧ Ru M_M_end d Q 5 [some (.ref a0), some (.int a1)] [] (sI τ x1 0 x0))) ∧
    (∀ (a0 : Nat) (a1 : Int32) (τ : St), Ru M_M_end d Q 5 [some (.ref a0), some (.int a1)] [] τ = Ru M_M_end d Q 6 [some (.ref a0), some (.int a1)] [.int a1] τ) ∧
    (∀ (a0 : Nat) (a1 : Int32) (x0 : Int32) (τ : St), Ru M_M_end d Q 6 [some (.ref a0), some (.int a1)] [.int x0] τ = Ru M_M_end d Q 7 [some (.ref a0), some (.int a1)] [.long x0.toInt64] τ) ∧
    (∀ (a0 : Nat) (a1 : Int32) (x0 : Int64) (τ : St), Ru M_M_end d Q 7 [some (.ref a0), some (.int a1)] [.long x0] τ = Ru M_M_end d Q 8 [some (.ref a0), some (.int a1)] [.long 0, .long x0] τ) ∧
    (∀ (a0 : Nat) (a1 : Int32) (x0 : Int64) (x1 : Int64) (τ : St), Ru M_M_end d Q 8 [some (.ref a0), some (.int a1)] [.long x0, .long x1] τ = Ru M_M_end d Q 9 [some (.ref a0), some (.int a1)] [.ref a0, .long x0, .long x1] τ) ∧
    (∀ (a0 : Nat) (a1 : Int32) (x0 : Nat) (x1 : Int64) (x2 : Int64) (τ : St), Ru M_M_end d Q 9 [some (.ref a0), some (.int a1)] [.ref x0, .long x1, .long x2] τ = (isA 12 x0 ∧ Ru M_M_end d Q 12 [some (.ref a0), some (.int a1)] [.int (τ.1 x0 14), .long x1, .long x2] τ)) ∧
    (∀ (a0 : Nat) (a1 : Int32) (x0 : Int32) (x1 : Int64) (x2 : Int64) (τ : St), Ru M_M_end d Q 12 [some (.ref a0), some (.int a1)] [.int x0, .long x1, .long x2] τ = Ru M_M_end d Q 13 [some (.ref a0), some (.int a1)] [.long x0.toInt64, .long x1, .long x2] τ) ∧
    (∀ (a0 : Nat) (a1 : Int32) (x0 : Int64) (x1 : Int64) (x2 : Int64) (τ : St), Ru M_M_end d Q 13 [some (.ref a0), some (.int a1)] [.long x0, .long x1, .long x2] τ = Cl d m_M_in [.long x2, .long x1, .long x0] τ (fun v τ' => Ru M_M_end d Q 16 [some (.ref a0), some (.int a1)] (v.toList ++ []) τ')) ∧
    (∀ (a0 : Nat) (a1 : Int32) (x0 : Int32) (τ : St), Ru M_M_end d Q 16 [some (.ref a0), some (.int a1)] [.int x0] τ = ((¬ x0 = 0 → Ru M_M_end d Q 21 [some (.ref a0), some (.int a1)] [] τ) ∧ (x0 = 0 → Ru M_M_end d Q 19 [some (.ref a0), some (.int a1)] [] τ))) ∧
    (∀ (a0 : Nat) (a1 : Int32) (τ : St), Ru M_M_end d Q 19 [some (.ref a0), some (.int a1)] [] τ = Ru M_M_end d Q 20 [some (.ref a0), some (.int a1)] [.int 0] τ) ∧
    (∀ (a0 : Nat) (a1 : Int32) (x0 : Int32) (τ : St), Ru M_M_end d Q 20 [some (.ref a0), some (.int a1)] [.int x0] τ = ((x0 = 0 ∨ x0 = 1) ∧ Q (some (.int x0)) τ)) ∧
    (∀ (a0 : Nat) (a1 : Int32) (τ : St), Ru M_M_end d Q 21 [some (.ref a0), some (.int a1)] [] τ = Ru M_M_end d Q 22 [some (.ref a0), some (.int a1)] [.ref a0] τ) ∧
    (∀ (a0 : Nat) (a1 : Int32) (x0 : Nat) (τ : St), Ru M_M_end d Q 22 [some (.ref a0), some (.int a1)] [.ref x0] τ = Ru M_M_end d Q 23 [some (.ref a0), some (.int a1)] [.int a1, .ref x0] τ) ∧
    (∀ (a0 : Nat) (a1 : Int32) (x0 : Int32) (x1 : Nat) (τ : St), Ru M_M_end d Q 23 [some (.ref a0), some (.int a1)] [.int x0, .ref x1] τ = (isA 12 x1 ∧ Ru M_M_end d Q 26 [some (.ref a0), some (.int a1)] [] (sI τ x1 14 x0))) ∧
    (∀ (a0 : Nat) (a1 : Int32) (τ : St), Ru M_M_end d Q 26 [some (.ref a0), some (.int a1)] [] τ = Ru M_M_end d Q 27 [some (.ref a0), some (.int a1)] [.int 1] τ) ∧
    (∀ (a0 : Nat) (a1 : Int32) (x0 : Int32) (τ : St), Ru M_M_end d Q 27 [some (.ref a0), some (.int a1)] [.int x0] τ = ((x0 = 0 ∨ x0 = 1) ∧ Q (some (.int x0)) τ)) := ⟨
  fun _ _ _ => (R_at ok_M_end rfl).trans (e_ald rfl),
  fun _ _ _ _ => (R_at ok_M_end rfl).trans e_push,
  fun _ _ _ _ _ => (R_at ok_M_end rfl).trans e_pI,
  fun _ _ _ => (R_at ok_M_end rfl).trans (e_ild rfl),
  fun _ _ _ _ => (R_at ok_M_end rfl).trans e_il,
  fun _ _ _ _ => (R_at ok_M_end rfl).trans e_push,
  fun _ _ _ _ _ => (R_at ok_M_end rfl).trans (e_ald rfl),
  fun _ _ _ _ _ _ => (R_at ok_M_end rfl).trans e_gI,
  fun _ _ _ _ _ _ => (R_at ok_M_end rfl).trans e_il,
  fun _ _ x0 x1 x2 _ => (R_at ok_M_end rfl).trans (e_cs [.long x2, .long x1, .long x0] rfl rfl rfl),
  fun _ _ _ _ => (R_at ok_M_end rfl).trans e_ifn,
  fun _ _ _ => (R_at ok_M_end rfl).trans e_push,
  fun _ _ _ _ => (R_at ok_M_end rfl).trans e_zret,
  fun _ _ _ => (R_at ok_M_end rfl).trans (e_ald rfl),
  fun _ _ _ _ => (R_at ok_M_end rfl).trans (e_ild rfl),
  fun _ _ _ _ _ => (R_at ok_M_end rfl).trans e_pI,
  fun _ _ _ => (R_at ok_M_end rfl).trans e_push,
  fun _ _ _ _ => (R_at ok_M_end rfl).trans e_zret⟩
set_option maxHeartbeats 4000000 in
theorem N_M_begins (d : Nat) (Q : Qt) : ∀ (x0 : Nat) (x1 : Int32) (τ : St), Cl (d + 1) m_M_begins [.ref x0, .int x1] τ Q = Ru M_M_begins d Q 0 [some (.ref x0), some (.int x1), none] [] τ := fun _ _ _ => propext ⟨fun h => h.2, fun h => ⟨Nat.le_of_ble_eq_true rfl, h⟩⟩
set_option maxHeartbeats 4000000 in
theorem E_M_begins (d : Nat) (Q : Qt) :
    (∀ (a0 : Nat) (a1 : Int32) (τ : St), Ru M_M_begins d Q 0 [some (.ref a0), some (.int a1), none] [] τ = Ru M_M_begins d Q 1 [some (.ref a0), some (.int a1), none] [.ref a0] τ) ∧
    (∀ (a0 : Nat) (a1 : Int32) (x0 : Nat) (τ : St), Ru M_M_begins d Q 1 [some (.ref a0), some (.int a1), none] [.ref x0] τ = (isA 12 x0 ∧ Ru M_M_begins d Q 4 [some (.ref a0), some (.int a1), none] [.int (τ.1 x0 14)] τ)) ∧
    (∀ (a0 : Nat) (a1 : Int32) (x0 : Int32) (τ : St), Ru M_M_begins d Q 4 [some (.ref a0), some (.int a1), none] [.int x0] τ = Ru M_M_begins d Q 5 [some (.ref a0), some (.int a1), some (.int x0)] [] τ) ∧
    (∀ (a0 : Nat) (a1 : Int32) (a2 : Int32) (τ : St), Ru M_M_begins d Q 5 [some (.ref a0), some (.int a1), some (.int a2)] [] τ = Ru M_M_begins d Q 6 [some (.ref a0), some (.int a1), some (.int a2)] [.ref a0] τ) ∧
    (∀ (a0 : Nat) (a1 : Int32) (a2 : Int32) (x0 : Nat) (τ : St), Ru M_M_begins d Q 6 [some (.ref a0), some (.int a1), some (.int a2)] [.ref x0] τ = Ru M_M_begins d Q 7 [some (.ref a0), some (.int a1), some (.int a2)] [.int 0, .ref x0] τ) ∧
    (∀ (a0 : Nat) (a1 : Int32) (a2 : Int32) (x0 : Int32) (x1 : Nat) (τ : St), Ru M_M_begins d Q 7 [some (.ref a0), some (.int a1), some (.int a2)] [.int x0, .ref x1] τ = (isA 12 x1 ∧ Ru M_M_begins d Q 10 [some (.ref a0), some (.int a1), some (.int a2)] [] (sI τ x1 14 x0))) ∧
    (∀ (a0 : Nat) (a1 : Int32) (a2 : Int32) (τ : St), Ru M_M_begins d Q 10 [some (.ref a0), some (.int a1), some (.int a2)] [] τ = Ru M_M_begins d Q 11 [some (.ref a0), some (.int a1), some (.int a2)] [.ref a0] τ) ∧
    (∀ (a0 : Nat) (a1 : Int32) (a2 : Int32) (x0 : Nat) (τ : St), Ru M_M_begins d Q 11 [some (.ref a0), some (.int a1), some (.int a2)] [.ref x0] τ = Ru M_M_begins d Q 12 [some (.ref a0), some (.int a1), some (.int a2)] [.int 0, .ref x0] τ) ∧
    (∀ (a0 : Nat) (a1 : Int32) (a2 : Int32) (x0 : Int32) (x1 : Nat) (τ : St), Ru M_M_begins d Q 12 [some (.ref a0), some (.int a1), some (.int a2)] [.int x0, .ref x1] τ = (isA 12 x1 ∧ Ru M_M_begins d Q 15 [some (.ref a0), some (.int a1), some (.int a2)] [] (sI τ x1 15 x0))) ∧
    (∀ (a0 : Nat) (a1 : Int32) (a2 : Int32) (τ : St), Ru M_M_begins d Q 15 [some (.ref a0), some (.int a1), some (.int a2)] [] τ = Ru M_M_begins d Q 16 [some (.ref a0), some (.int a1), some (.int a2)] [.ref a0] τ) ∧
    (∀ (a0 : Nat) (a1 : Int32) (a2 : Int32) (x0 : Nat) (τ : St), Ru M_M_begins d Q 16 [some (.ref a0), some (.int a1), some (.int a2)] [.ref x0] τ = Ru M_M_begins d Q 17 [some (.ref a0), some (.int a1), some (.int a2)] [.int 0, .ref x0] τ) ∧
    (∀ (a0 : Nat) (a1 : Int32) (a2 : Int32) (x0 : Int32) (x1 : Nat) (τ : St), Ru M_M_begins d Q 17 [some (.ref a0), some (.int a1), some (.int a2)] [.int x0, .ref x1] τ = (isA 12 x1 ∧ Ru M_M_begins d Q 20 [some (.ref a0), some (.int a1), some (.int a2)] [] (sI τ x1 17 x0))) ∧
    (∀ (a0 : Nat) (a1 : Int32) (a2 : Int32) (τ : St), Ru M_M_begins d Q 20 [some (.ref a0), some (.int a1), some (.int a2)] [] τ = Ru M_M_begins d Q 21 [some (.ref a0), some (.int a1), some (.int a2)] [.ref a0] τ) ∧
    (∀ (a0 : Nat) (a1 : Int32) (a2 : Int32) (x0 : Nat) (τ : St), Ru M_M_begins d Q 21 [some (.ref a0), some (.int a1), some (.int a2)] [.ref x0] τ = Ru M_M_begins d Q 22 [some (.ref a0), some (.int a1), some (.int a2)] [.int a2, .ref x0] τ) ∧
    (∀ (a0 : Nat) (a1 : Int32) (a2 : Int32) (x0 : Int32) (x1 : Nat) (τ : St), Ru M_M_begins d Q 22 [some (.ref a0), some (.int a1), some (.int a2)] [.int x0, .ref x1] τ = Ru M_M_begins d Q 23 [some (.ref a0), some (.int a1), some (.int a2)] [.int a1, .int x0, .ref x1] τ) ∧
    (∀ (a0 : Nat) (a1 : Int32) (a2 : Int32) (x0 : Int32) (x1 : Int32) (x2 : Nat) (τ : St), Ru M_M_begins d Q 23 [some (.ref a0), some (.int a1), some (.int a2)] [.int x0, .int x1, .ref x2] τ = Ru M_M_begins d Q 26 [some (.ref a0), some (.int a1), some (.int a2)] [.int (if x0 < x1 then x0 else x1), .ref x2] τ) ∧
    (∀ (a0 : Nat) (a1 : Int32) (a2 : Int32) (x0 : Int32) (x1 : Nat) (τ : St), Ru M_M_begins d Q 26 [some (.ref a0), some (.int a1), some (.int a2)] [.int x0, .ref x1] τ = (isA 12 x1 ∧ Ru M_M_begins d Q 29 [some (.ref a0), some (.int a1), some (.int a2)] [] (sI τ x1 16 x0))) ∧
    (∀ (a0 : Nat) (a1 : Int32) (a2 : Int32) (τ : St), Ru M_M_begins d Q 29 [some (.ref a0), some (.int a1), some (.int a2)] [] τ = Ru M_M_begins d Q 30 [some (.ref a0), some (.int a1), some (.int a2)] [.int a2] τ) ∧
    (∀ (a0 : Nat) (a1 : Int32) (a2 : Int32) (x0 : Int32) (τ : St), Ru M_M_begins d Q 30 [some (.ref a0), some (.int a1), some (.int a2)] [.int x0] τ = Q (some (.int x0)) τ) := ⟨
  fun _ _ _ => (R_at ok_M_begins rfl).trans (e_ald rfl),
  fun _ _ _ _ => (R_at ok_M_begins rfl).trans e_gI,
  fun _ _ _ _ => (R_at ok_M_begins rfl).trans e_ist,
  fun _ _ _ _ => (R_at ok_M_begins rfl).trans (e_ald rfl),
  fun _ _ _ _ _ => (R_at ok_M_begins rfl).trans e_push,
  fun _ _ _ _ _ _ => (R_at ok_M_begins rfl).trans e_pI,
  fun _ _ _ _ => (R_at ok_M_begins rfl).trans (e_ald rfl),
  fun _ _ _ _ _ => (R_at ok_M_begins rfl).trans e_push,
  fun _ _ _ _ _ _ => (R_at ok_M_begins rfl).trans e_pI,
  fun _ _ _ _ => (R_at ok_M_begins rfl).trans (e_ald rfl),
  fun _ _ _ _ _ => (R_at ok_M_begins rfl).trans e_push,
  fun _ _ _ _ _ _ => (R_at ok_M_begins rfl).trans e_pI,
  fun _ _ _ _ => (R_at ok_M_begins rfl).trans (e_ald rfl),
  fun _ _ _ _ _ => (R_at ok_M_begins rfl).trans (e_ild rfl),
  fun _ _ _ _ _ _ => (R_at ok_M_begins rfl).trans (e_ild rfl),
  fun _ _ _ _ _ _ _ => (R_at ok_M_begins rfl).trans (e_mm rfl),
  fun _ _ _ _ _ _ => (R_at ok_M_begins rfl).trans e_pI,
  fun _ _ _ _ => (R_at ok_M_begins rfl).trans (e_ild rfl),
  fun _ _ _ _ _ => (R_at ok_M_begins rfl).trans e_iret⟩
set_option maxHeartbeats 4000000 in
theorem N_M_takes (d : Nat) (Q : Qt) : ∀ (x0 : Nat) (x1 : Int32) (τ : St), Cl (d + 1) m_M_takes [.ref x0, .int x1] τ Q = Ru M_M_takes d Q 0 [some (.ref x0), some (.int x1), none] [] τ := fun _ _ _ => propext ⟨fun h => h.2, fun h => ⟨Nat.le_of_ble_eq_true rfl, h⟩⟩
set_option maxHeartbeats 4000000 in
theorem E_M_takes (d : Nat) (Q : Qt) :
    (∀ (a0 : Nat) (a1 : Int32) (τ : St), Ru M_M_takes d Q 0 [some (.ref a0), some (.int a1), none] [] τ = Ru M_M_takes d Q 1 [some (.ref a0), some (.int a1), none] [.ref a0] τ) ∧
    (∀ (a0 : Nat) (a1 : Int32) (x0 : Nat) (τ : St), Ru M_M_takes d Q 1 [some (.ref a0), some (.int a1), none] [.ref x0] τ = (isA 12 x0 ∧ Ru M_M_takes d Q 4 [some (.ref a0), some (.int a1), none] [.int (τ.1 x0 15)] τ)) ∧
    (∀ (a0 : Nat) (a1 : Int32) (x0 : Int32) (τ : St), Ru M_M_takes d Q 4 [some (.ref a0), some (.int a1), none] [.int x0] τ = Ru M_M_takes d Q 5 [some (.ref a0), some (.int a1), none] [.ref a0, .int x0] τ) ∧
    (∀ (a0 : Nat) (a1 : Int32) (x0 : Nat) (x1 : Int32) (τ : St), Ru M_M_takes d Q 5 [some (.ref a0), some (.int a1), none] [.ref x0, .int x1] τ = (isA 12 x0 ∧ Ru M_M_takes d Q 8 [some (.ref a0), some (.int a1), none] [.int (τ.1 x0 16), .int x1] τ)) ∧
    (∀ (a0 : Nat) (a1 : Int32) (x0 : Int32) (x1 : Int32) (τ : St), Ru M_M_takes d Q 8 [some (.ref a0), some (.int a1), none] [.int x0, .int x1] τ = ((x0 ≤ x1 → Ru M_M_takes d Q 28 [some (.ref a0), some (.int a1), none] [] τ) ∧ (¬ x0 ≤ x1 → Ru M_M_takes d Q 11 [some (.ref a0), some (.int a1), none] [] τ))) ∧
    (∀ (a0 : Nat) (a1 : Int32) (τ : St), Ru M_M_takes d Q 11 [some (.ref a0), some (.int a1), none] [] τ = Ru M_M_takes d Q 12 [some (.ref a0), some (.int a1), none] [.ref a0] τ) ∧
    (∀ (a0 : Nat) (a1 : Int32) (x0 : Nat) (τ : St), Ru M_M_takes d Q 12 [some (.ref a0), some (.int a1), none] [.ref x0] τ = (isA 12 x0 ∧ Ru M_M_takes d Q 15 [some (.ref a0), some (.int a1), none] [.ref (rtab x0 13)] τ)) ∧
    (∀ (a0 : Nat) (a1 : Int32) (x0 : Nat) (τ : St), Ru M_M_takes d Q 15 [some (.ref a0), some (.int a1), none] [.ref x0] τ = Ru M_M_takes d Q 16 [some (.ref a0), some (.int a1), none] [.ref a0, .ref x0] τ) ∧
    (∀ (a0 : Nat) (a1 : Int32) (x0 : Nat) (x1 : Nat) (τ : St), Ru M_M_takes d Q 16 [some (.ref a0), some (.int a1), none] [.ref x0, .ref x1] τ = (isA 12 x0 ∧ Ru M_M_takes d Q 19 [some (.ref a0), some (.int a1), none] [.int (τ.1 x0 15), .ref x1] τ)) ∧
    (∀ (a0 : Nat) (a1 : Int32) (x0 : Int32) (x1 : Nat) (τ : St), Ru M_M_takes d Q 19 [some (.ref a0), some (.int a1), none] [.int x0, .ref x1] τ = (isA 14 x1 ∧ vp_in x0 (len x1) ∧ Ru M_M_takes d Q 20 [some (.ref a0), some (.int a1), none] [.int (τ.1 x1 x0.toNatClampNeg)] τ)) ∧
    (∀ (a0 : Nat) (a1 : Int32) (x0 : Int32) (τ : St), Ru M_M_takes d Q 20 [some (.ref a0), some (.int a1), none] [.int x0] τ = Ru M_M_takes d Q 21 [some (.ref a0), some (.int a1), none] [.int a1, .int x0] τ) ∧
    (∀ (a0 : Nat) (a1 : Int32) (x0 : Int32) (x1 : Int32) (τ : St), Ru M_M_takes d Q 21 [some (.ref a0), some (.int a1), none] [.int x0, .int x1] τ = ((¬ x1 = x0 → Ru M_M_takes d Q 28 [some (.ref a0), some (.int a1), none] [] τ) ∧ (x1 = x0 → Ru M_M_takes d Q 24 [some (.ref a0), some (.int a1), none] [] τ))) ∧
    (∀ (a0 : Nat) (a1 : Int32) (τ : St), Ru M_M_takes d Q 24 [some (.ref a0), some (.int a1), none] [] τ = Ru M_M_takes d Q 25 [some (.ref a0), some (.int a1), none] [.int 1] τ) ∧
    (∀ (a0 : Nat) (a1 : Int32) (x0 : Int32) (τ : St), Ru M_M_takes d Q 25 [some (.ref a0), some (.int a1), none] [.int x0] τ = Ru M_M_takes d Q 29 [some (.ref a0), some (.int a1), none] [.int x0] τ) ∧
    (∀ (a0 : Nat) (a1 : Int32) (τ : St), Ru M_M_takes d Q 28 [some (.ref a0), some (.int a1), none] [] τ = Ru M_M_takes d Q 29 [some (.ref a0), some (.int a1), none] [.int 0] τ) ∧
    (∀ (a0 : Nat) (a1 : Int32) (x0 : Int32) (τ : St), Ru M_M_takes d Q 29 [some (.ref a0), some (.int a1), none] [.int x0] τ = Ru M_M_takes d Q 30 [some (.ref a0), some (.int a1), some (.int x0)] [] τ) ∧
    (∀ (a0 : Nat) (a1 : Int32) (a2 : Int32) (τ : St), Ru M_M_takes d Q 30 [some (.ref a0), some (.int a1), some (.int a2)] [] τ = Ru M_M_takes d Q 31 [some (.ref a0), some (.int a1), some (.int a2)] [.ref a0] τ) ∧
    (∀ (a0 : Nat) (a1 : Int32) (a2 : Int32) (x0 : Nat) (τ : St), Ru M_M_takes d Q 31 [some (.ref a0), some (.int a1), some (.int a2)] [.ref x0] τ = Ru M_M_takes d Q 32 [some (.ref a0), some (.int a1), some (.int a2)] [.ref x0, .ref x0] τ) ∧
    (∀ (a0 : Nat) (a1 : Int32) (a2 : Int32) (x0 : Nat) (x1 : Nat) (τ : St), Ru M_M_takes d Q 32 [some (.ref a0), some (.int a1), some (.int a2)] [.ref x0, .ref x1] τ = (isA 12 x0 ∧ Ru M_M_takes d Q 35 [some (.ref a0), some (.int a1), some (.int a2)] [.int (τ.1 x0 15), .ref x1] τ)) ∧
    (∀ (a0 : Nat) (a1 : Int32) (a2 : Int32) (x0 : Int32) (x1 : Nat) (τ : St), Ru M_M_takes d Q 35 [some (.ref a0), some (.int a1), some (.int a2)] [.int x0, .ref x1] τ = Ru M_M_takes d Q 36 [some (.ref a0), some (.int a1), some (.int a2)] [.int a2, .int x0, .ref x1] τ) ∧
    (∀ (a0 : Nat) (a1 : Int32) (a2 : Int32) (x0 : Int32) (x1 : Int32) (x2 : Nat) (τ : St), Ru M_M_takes d Q 36 [some (.ref a0), some (.int a1), some (.int a2)] [.int x0, .int x1, .ref x2] τ = Cl d m_M_flag [.int x0] τ (fun v τ' => Ru M_M_takes d Q 39 [some (.ref a0), some (.int a1), some (.int a2)] (v.toList ++ [.int x1, .ref x2]) τ')) ∧
    (∀ (a0 : Nat) (a1 : Int32) (a2 : Int32) (x0 : Int32) (x1 : Int32) (x2 : Nat) (τ : St), Ru M_M_takes d Q 39 [some (.ref a0), some (.int a1), some (.int a2)] [.int x0, .int x1, .ref x2] τ = Ru M_M_takes d Q 40 [some (.ref a0), some (.int a1), some (.int a2)] [.int (x1 + x0), .ref x2] τ) ∧
    (∀ (a0 : Nat) (a1 : Int32) (a2 : Int32) (x0 : Int32) (x1 : Nat) (τ : St), Ru M_M_takes d Q 40 [some (.ref a0), some (.int a1), some (.int a2)] [.int x0, .ref x1] τ = (isA 12 x1 ∧ Ru M_M_takes d Q 43 [some (.ref a0), some (.int a1), some (.int a2)] [] (sI τ x1 15 x0))) ∧
    (∀ (a0 : Nat) (a1 : Int32) (a2 : Int32) (τ : St), Ru M_M_takes d Q 43 [some (.ref a0), some (.int a1), some (.int a2)] [] τ = Ru M_M_takes d Q 44 [some (.ref a0), some (.int a1), some (.int a2)] [.int a2] τ) ∧
    (∀ (a0 : Nat) (a1 : Int32) (a2 : Int32) (x0 : Int32) (τ : St), Ru M_M_takes d Q 44 [some (.ref a0), some (.int a1), some (.int a2)] [.int x0] τ = ((x0 = 0 ∨ x0 = 1) ∧ Q (some (.int x0)) τ)) := ⟨
  fun _ _ _ => (R_at ok_M_takes rfl).trans (e_ald rfl),
  fun _ _ _ _ => (R_at ok_M_takes rfl).trans e_gI,
  fun _ _ _ _ => (R_at ok_M_takes rfl).trans (e_ald rfl),
  fun _ _ _ _ _ => (R_at ok_M_takes rfl).trans e_gI,
  fun _ _ _ _ _ => (R_at ok_M_takes rfl).trans e_ic,
  fun _ _ _ => (R_at ok_M_takes rfl).trans (e_ald rfl),
  fun _ _ _ _ => (R_at ok_M_takes rfl).trans e_gR,
  fun _ _ _ _ => (R_at ok_M_takes rfl).trans (e_ald rfl),
  fun _ _ _ _ _ => (R_at ok_M_takes rfl).trans e_gI,
  fun _ _ _ _ _ => (R_at ok_M_takes rfl).trans e_al,
  fun _ _ _ _ => (R_at ok_M_takes rfl).trans (e_ild rfl),
  fun _ _ _ _ _ => (R_at ok_M_takes rfl).trans e_icn,
  fun _ _ _ => (R_at ok_M_takes rfl).trans e_push,
  fun _ _ _ _ => (R_at ok_M_takes rfl).trans e_goto,
  fun _ _ _ => (R_at ok_M_takes rfl).trans e_push,
  fun _ _ _ _ => (R_at ok_M_takes rfl).trans e_ist,
  fun _ _ _ _ => (R_at ok_M_takes rfl).trans (e_ald rfl),
  fun _ _ _ _ _ => (R_at ok_M_takes rfl).trans (e_dup rfl),
  fun _ _ _ _ _ _ => (R_at ok_M_takes rfl).trans e_gI,
  fun _ _ _ _ _ _ => (R_at ok_M_takes rfl).trans (e_ild rfl),
  fun _ _ _ x0 _ _ _ => (R_at ok_M_takes rfl).trans (e_cs [.int x0] rfl rfl rfl),
  fun _ _ _ _ _ _ _ => (R_at ok_M_takes rfl).trans e_bin,
  fun _ _ _ _ _ _ => (R_at ok_M_takes rfl).trans e_pI,
  fun _ _ _ _ => (R_at ok_M_takes rfl).trans (e_ild rfl),
  fun _ _ _ _ _ => (R_at ok_M_takes rfl).trans e_zret⟩
set_option maxHeartbeats 4000000 in
theorem N_M_isDigit (d : Nat) (Q : Qt) : ∀ (x0 : Nat) (τ : St), Cl (d + 1) m_M_isDigit [.ref x0] τ Q = Ru M_M_isDigit d Q 0 [some (.ref x0)] [] τ := fun _ _ => propext ⟨fun h => h.2, fun h => ⟨Nat.le_of_ble_eq_true rfl, h⟩⟩
set_option maxHeartbeats 4000000 in
theorem E_M_isDigit (d : Nat) (Q : Qt) :
    (∀ (a0 : Nat) (τ : St), Ru M_M_isDigit d Q 0 [some (.ref a0)] [] τ = Ru M_M_isDigit d Q 1 [some (.ref a0)] [.ref a0] τ) ∧
    (∀ (a0 : Nat) (x0 : Nat) (τ : St), Ru M_M_isDigit d Q 1 [some (.ref a0)] [.ref x0] τ = (isA 12 x0 ∧ Ru M_M_isDigit d Q 4 [some (.ref a0)] [.int (τ.1 x0 15)] τ)) ∧
    (∀ (a0 : Nat) (x0 : Int32) (τ : St), Ru M_M_isDigit d Q 4 [some (.ref a0)] [.int x0] τ = Ru M_M_isDigit d Q 5 [some (.ref a0)] [.ref a0, .int x0] τ) ∧
    (∀ (a0 : Nat) (x0 : Nat) (x1 : Int32) (τ : St), Ru M_M_isDigit d Q 5 [some (.ref a0)] [.ref x0, .int x1] τ = (isA 12 x0 ∧ Ru M_M_isDigit d Q 8 [some (.ref a0)] [.int (τ.1 x0 16), .int x1] τ)) ∧
    (∀ (a0 : Nat) (x0 : Int32) (x1 : Int32) (τ : St), Ru M_M_isDigit d Q 8 [some (.ref a0)] [.int x0, .int x1] τ = ((x0 ≤ x1 → Ru M_M_isDigit d Q 37 [some (.ref a0)] [] τ) ∧ (¬ x0 ≤ x1 → Ru M_M_isDigit d Q 11 [some (.ref a0)] [] τ))) ∧
    (∀ (a0 : Nat) (τ : St), Ru M_M_isDigit d Q 11 [some (.ref a0)] [] τ = Ru M_M_isDigit d Q 12 [some (.ref a0)] [.ref a0] τ) ∧
    (∀ (a0 : Nat) (x0 : Nat) (τ : St), Ru M_M_isDigit d Q 12 [some (.ref a0)] [.ref x0] τ = (isA 12 x0 ∧ Ru M_M_isDigit d Q 15 [some (.ref a0)] [.ref (rtab x0 13)] τ)) ∧
    (∀ (a0 : Nat) (x0 : Nat) (τ : St), Ru M_M_isDigit d Q 15 [some (.ref a0)] [.ref x0] τ = Ru M_M_isDigit d Q 16 [some (.ref a0)] [.ref a0, .ref x0] τ) ∧
    (∀ (a0 : Nat) (x0 : Nat) (x1 : Nat) (τ : St), Ru M_M_isDigit d Q 16 [some (.ref a0)] [.ref x0, .ref x1] τ = (isA 12 x0 ∧ Ru M_M_isDigit d Q 19 [some (.ref a0)] [.int (τ.1 x0 15), .ref x1] τ)) ∧
    (∀ (a0 : Nat) (x0 : Int32) (x1 : Nat) (τ : St), Ru M_M_isDigit d Q 19 [some (.ref a0)] [.int x0, .ref x1] τ = (isA 14 x1 ∧ vp_in x0 (len x1) ∧ Ru M_M_isDigit d Q 20 [some (.ref a0)] [.int (τ.1 x1 x0.toNatClampNeg)] τ)) ∧
    (∀ (a0 : Nat) (x0 : Int32) (τ : St), Ru M_M_isDigit d Q 20 [some (.ref a0)] [.int x0] τ = Ru M_M_isDigit d Q 21 [some (.ref a0)] [.long x0.toInt64] τ) ∧
    (∀ (a0 : Nat) (x0 : Int64) (τ : St), Ru M_M_isDigit d Q 21 [some (.ref a0)] [.long x0] τ = Ru M_M_isDigit d Q 24 [some (.ref a0)] [.long 48, .long x0] τ) ∧
    (∀ (a0 : Nat) (x0 : Int64) (x1 : Int64) (τ : St), Ru M_M_isDigit d Q 24 [some (.ref a0)] [.long x0, .long x1] τ = Ru M_M_isDigit d Q 27 [some (.ref a0)] [.long 57, .long x0, .long x1] τ) ∧
    (∀ (a0 : Nat) (x0 : Int64) (x1 : Int64) (x2 : Int64) (τ : St), Ru M_M_isDigit d Q 27 [some (.ref a0)] [.long x0, .long x1, .long x2] τ = Cl d m_M_in [.long x2, .long x1, .long x0] τ (fun v τ' => Ru M_M_isDigit d Q 30 [some (.ref a0)] (v.toList ++ []) τ')) ∧
    (∀ (a0 : Nat) (x0 : Int32) (τ : St), Ru M_M_isDigit d Q 30 [some (.ref a0)] [.int x0] τ = ((x0 = 0 → Ru M_M_isDigit d Q 37 [some (.ref a0)] [] τ) ∧ (¬ x0 = 0 → Ru M_M_isDigit d Q 33 [some (.ref a0)] [] τ))) ∧
    (∀ (a0 : Nat) (τ : St), Ru M_M_isDigit d Q 33 [some (.ref a0)] [] τ = Ru M_M_isDigit d Q 34 [some (.ref a0)] [.int 1] τ) ∧
    (∀ (a0 : Nat) (x0 : Int32) (τ : St), Ru M_M_isDigit d Q 34 [some (.ref a0)] [.int x0] τ = Ru M_M_isDigit d Q 38 [some (.ref a0)] [.int x0] τ) ∧
    (∀ (a0 : Nat) (τ : St), Ru M_M_isDigit d Q 37 [some (.ref a0)] [] τ = Ru M_M_isDigit d Q 38 [some (.ref a0)] [.int 0] τ) ∧
    (∀ (a0 : Nat) (x0 : Int32) (τ : St), Ru M_M_isDigit d Q 38 [some (.ref a0)] [.int x0] τ = ((x0 = 0 ∨ x0 = 1) ∧ Q (some (.int x0)) τ)) := ⟨
  fun _ _ => (R_at ok_M_isDigit rfl).trans (e_ald rfl),
  fun _ _ _ => (R_at ok_M_isDigit rfl).trans e_gI,
  fun _ _ _ => (R_at ok_M_isDigit rfl).trans (e_ald rfl),
  fun _ _ _ _ => (R_at ok_M_isDigit rfl).trans e_gI,
  fun _ _ _ _ => (R_at ok_M_isDigit rfl).trans e_ic,
  fun _ _ => (R_at ok_M_isDigit rfl).trans (e_ald rfl),
  fun _ _ _ => (R_at ok_M_isDigit rfl).trans e_gR,
  fun _ _ _ => (R_at ok_M_isDigit rfl).trans (e_ald rfl),
  fun _ _ _ _ => (R_at ok_M_isDigit rfl).trans e_gI,
  fun _ _ _ _ => (R_at ok_M_isDigit rfl).trans e_al,
  fun _ _ _ => (R_at ok_M_isDigit rfl).trans e_il,
  fun _ _ _ => (R_at ok_M_isDigit rfl).trans e_push,
  fun _ _ _ _ => (R_at ok_M_isDigit rfl).trans e_push,
  fun _ x0 x1 x2 _ => (R_at ok_M_isDigit rfl).trans (e_cs [.long x2, .long x1, .long x0] rfl rfl rfl),
  fun _ _ _ => (R_at ok_M_isDigit rfl).trans e_if,
  fun _ _ => (R_at ok_M_isDigit rfl).trans e_push,
  fun _ _ _ => (R_at ok_M_isDigit rfl).trans e_goto,
  fun _ _ => (R_at ok_M_isDigit rfl).trans e_push,
  fun _ _ _ => (R_at ok_M_isDigit rfl).trans e_zret⟩
set_option maxHeartbeats 4000000 in
theorem N_M_among (d : Nat) (Q : Qt) : ∀ (x0 : Nat) (x1 : Nat) (τ : St), Cl (d + 1) m_M_among [.ref x0, .ref (1000 + x1)] τ Q = Ru M_M_among d Q 0 [some (.ref x0), some (.ref (1000 + x1)), none] [] τ := fun _ _ _ => propext ⟨fun h => h.2, fun h => ⟨Nat.le_of_ble_eq_true rfl, h⟩⟩
set_option maxHeartbeats 4000000 in
theorem E_M_among (d : Nat) (Q : Qt) :
    (∀ (a0 : Nat) (a1 : Nat) (τ : St), Ru M_M_among d Q 0 [some (.ref a0), some (.ref (1000 + a1)), none] [] τ = Ru M_M_among d Q 1 [some (.ref a0), some (.ref (1000 + a1)), none] [.int 0] τ) ∧
    (∀ (a0 : Nat) (a1 : Nat) (x0 : Int32) (τ : St), Ru M_M_among d Q 1 [some (.ref a0), some (.ref (1000 + a1)), none] [.int x0] τ = Rs M_M_among d Q 2 [some (.ref a0), some (.ref (1000 + a1)), some (.int x0)] [] τ) ∧
    (∀ (a0 : Nat) (a1 : Nat) (a2 : Int32) (τ : St), Ru M_M_among d Q 2 [some (.ref a0), some (.ref (1000 + a1)), some (.int a2)] [] τ = Ru M_M_among d Q 3 [some (.ref a0), some (.ref (1000 + a1)), some (.int a2)] [.int a2] τ) ∧
    (∀ (a0 : Nat) (a1 : Nat) (a2 : Int32) (x0 : Int32) (τ : St), Ru M_M_among d Q 3 [some (.ref a0), some (.ref (1000 + a1)), some (.int a2)] [.int x0] τ = Ru M_M_among d Q 4 [some (.ref a0), some (.ref (1000 + a1)), some (.int a2)] [.ref (1000 + a1), .int x0] τ) ∧
    (∀ (a0 : Nat) (a1 : Nat) (a2 : Int32) (x0 : Nat) (x1 : Int32) (τ : St), Ru M_M_among d Q 4 [some (.ref a0), some (.ref (1000 + a1)), some (.int a2)] [.ref (1000 + x0), .int x1] τ = (x0 < 6 ∧ Cl d m_s_length [.ref (1000 + x0)] τ (fun v τ' => Ru M_M_among d Q 7 [some (.ref a0), some (.ref (1000 + a1)), some (.int a2)] (v.toList ++ [.int x1]) τ'))) ∧
    (∀ (a0 : Nat) (a1 : Nat) (a2 : Int32) (x0 : Int32) (x1 : Int32) (τ : St), Ru M_M_among d Q 7 [some (.ref a0), some (.ref (1000 + a1)), some (.int a2)] [.int x0, .int x1] τ = ((x0 ≤ x1 → Ru M_M_among d Q 46 [some (.ref a0), some (.ref (1000 + a1)), some (.int a2)] [] τ) ∧ (¬ x0 ≤ x1 → Ru M_M_among d Q 10 [some (.ref a0), some (.ref (1000 + a1)), some (.int a2)] [] τ))) ∧
    (∀ (a0 : Nat) (a1 : Nat) (a2 : Int32) (τ : St), Ru M_M_among d Q 10 [some (.ref a0), some (.ref (1000 + a1)), some (.int a2)] [] τ = Ru M_M_among d Q 11 [some (.ref a0), some (.ref (1000 + a1)), some (.int a2)] [.ref a0] τ) ∧
    (∀ (a0 : Nat) (a1 : Nat) (a2 : Int32) (x0 : Nat) (τ : St), Ru M_M_among d Q 11 [some (.ref a0), some (.ref (1000 + a1)), some (.int a2)] [.ref x0] τ = (isA 12 x0 ∧ Ru M_M_among d Q 14 [some (.ref a0), some (.ref (1000 + a1)), some (.int a2)] [.int (τ.1 x0 15)] τ)) ∧
    (∀ (a0 : Nat) (a1 : Nat) (a2 : Int32) (x0 : Int32) (τ : St), Ru M_M_among d Q 14 [some (.ref a0), some (.ref (1000 + a1)), some (.int a2)] [.int x0] τ = Ru M_M_among d Q 15 [some (.ref a0), some (.ref (1000 + a1)), some (.int a2)] [.ref a0, .int x0] τ) ∧
    (∀ (a0 : Nat) (a1 : Nat) (a2 : Int32) (x0 : Nat) (x1 : Int32) (τ : St), Ru M_M_among d Q 15 [some (.ref a0), some (.ref (1000 + a1)), some (.int a2)] [.ref x0, .int x1] τ = (isA 12 x0 ∧ Ru M_M_among d Q 18 [some (.ref a0), some (.ref (1000 + a1)), some (.int a2)] [.int (τ.1 x0 16), .int x1] τ)) ∧
    (∀ (a0 : Nat) (a1 : Nat) (a2 : Int32) (x0 : Int32) (x1 : Int32) (τ : St), Ru M_M_among d Q 18 [some (.ref a0), some (.ref (1000 + a1)), some (.int a2)] [.int x0, .int x1] τ = ((x0 ≤ x1 → Ru M_M_among d Q 46 [some (.ref a0), some (.ref (1000 + a1)), some (.int a2)] [] τ) ∧ (¬ x0 ≤ x1 → Ru M_M_among d Q 21 [some (.ref a0), some (.ref (1000 + a1)), some (.int a2)] [] τ))) ∧
    (∀ (a0 : Nat) (a1 : Nat) (a2 : Int32) (τ : St), Ru M_M_among d Q 21 [some (.ref a0), some (.ref (1000 + a1)), some (.int a2)] [] τ = Ru M_M_among d Q 22 [some (.ref a0), some (.ref (1000 + a1)), some (.int a2)] [.ref (1000 + a1)] τ) ∧
    (∀ (a0 : Nat) (a1 : Nat) (a2 : Int32) (x0 : Nat) (τ : St), Ru M_M_among d Q 22 [some (.ref a0), some (.ref (1000 + a1)), some (.int a2)] [.ref (1000 + x0)] τ = Ru M_M_among d Q 23 [some (.ref a0), some (.ref (1000 + a1)), some (.int a2)] [.int a2, .ref (1000 + x0)] τ) ∧
    (∀ (a0 : Nat) (a1 : Nat) (a2 : Int32) (x0 : Int32) (x1 : Nat) (τ : St), Ru M_M_among d Q 23 [some (.ref a0), some (.ref (1000 + a1)), some (.int a2)] [.int x0, .ref (1000 + x1)] τ = (x1 < 6 ∧ Cl d m_s_charAt [.ref (1000 + x1), .int x0] τ (fun v τ' => Ru M_M_among d Q 26 [some (.ref a0), some (.ref (1000 + a1)), some (.int a2)] (v.toList ++ []) τ'))) ∧
    (∀ (a0 : Nat) (a1 : Nat) (a2 : Int32) (x0 : Int32) (τ : St), Ru M_M_among d Q 26 [some (.ref a0), some (.ref (1000 + a1)), some (.int a2)] [.int x0] τ = Ru M_M_among d Q 27 [some (.ref a0), some (.ref (1000 + a1)), some (.int a2)] [.ref a0, .int x0] τ) ∧
    (∀ (a0 : Nat) (a1 : Nat) (a2 : Int32) (x0 : Nat) (x1 : Int32) (τ : St), Ru M_M_among d Q 27 [some (.ref a0), some (.ref (1000 + a1)), some (.int a2)] [.ref x0, .int x1] τ = (isA 12 x0 ∧ Ru M_M_among d Q 30 [some (.ref a0), some (.ref (1000 + a1)), some (.int a2)] [.ref (rtab x0 13), .int x1] τ)) ∧
    (∀ (a0 : Nat) (a1 : Nat) (a2 : Int32) (x0 : Nat) (x1 : Int32) (τ : St), Ru M_M_among d Q 30 [some (.ref a0), some (.ref (1000 + a1)), some (.int a2)] [.ref x0, .int x1] τ = Ru M_M_among d Q 31 [some (.ref a0), some (.ref (1000 + a1)), some (.int a2)] [.ref a0, .ref x0, .int x1] τ) ∧
    (∀ (a0 : Nat) (a1 : Nat) (a2 : Int32) (x0 : Nat) (x1 : Nat) (x2 : Int32) (τ : St), Ru M_M_among d Q 31 [some (.ref a0), some (.ref (1000 + a1)), some (.int a2)] [.ref x0, .ref x1, .int x2] τ = (isA 12 x0 ∧ Ru M_M_among d Q 34 [some (.ref a0), some (.ref (1000 + a1)), some (.int a2)] [.int (τ.1 x0 15), .ref x1, .int x2] τ)) ∧
    (∀ (a0 : Nat) (a1 : Nat) (a2 : Int32) (x0 : Int32) (x1 : Nat) (x2 : Int32) (τ : St), Ru M_M_among d Q 34 [some (.ref a0), some (.ref (1000 + a1)), some (.int a2)] [.int x0, .ref x1, .int x2] τ = (isA 14 x1 ∧ vp_in x0 (len x1) ∧ Ru M_M_among d Q 35 [some (.ref a0), some (.ref (1000 + a1)), some (.int a2)] [.int (τ.1 x1 x0.toNatClampNeg), .int x2] τ)) ∧
    (∀ (a0 : Nat) (a1 : Nat) (a2 : Int32) (x0 : Int32) (x1 : Int32) (τ : St), Ru M_M_among d Q 35 [some (.ref a0), some (.ref (1000 + a1)), some (.int a2)] [.int x0, .int x1] τ = ((¬ x1 = x0 → Ru M_M_among d Q 40 [some (.ref a0), some (.ref (1000 + a1)), some (.int a2)] [] τ) ∧ (x1 = x0 → Ru M_M_among d Q 38 [some (.ref a0), some (.ref (1000 + a1)), some (.int a2)] [] τ))) ∧
    (∀ (a0 : Nat) (a1 : Nat) (a2 : Int32) (τ : St), Ru M_M_among d Q 38 [some (.ref a0), some (.ref (1000 + a1)), some (.int a2)] [] τ = Ru M_M_among d Q 39 [some (.ref a0), some (.ref (1000 + a1)), some (.int a2)] [.int a2] τ) ∧
    (∀ (a0 : Nat) (a1 : Nat) (a2 : Int32) (x0 : Int32) (τ : St), Ru M_M_among d Q 39 [some (.ref a0), some (.ref (1000 + a1)), some (.int a2)] [.int x0] τ = Q (some (.int x0)) τ) ∧
    (∀ (a0 : Nat) (a1 : Nat) (a2 : Int32) (τ : St), Ru M_M_among d Q 40 [some (.ref a0), some (.ref (1000 + a1)), some (.int a2)] [] τ = Ru M_M_among d Q 43 [some (.ref a0), some (.ref (1000 + a1)), some (.int (a2 + 1))] [] τ) ∧
    (∀ (a0 : Nat) (a1 : Nat) (a2 : Int32) (τ : St), Ru M_M_among d Q 43 [some (.ref a0), some (.ref (1000 + a1)), some (.int a2)] [] τ = Rs M_M_among d Q 2 [some (.ref a0), some (.ref (1000 + a1)), some (.int a2)] [] τ) ∧
    (∀ (a0 : Nat) (a1 : Nat) (a2 : Int32) (τ : St), Ru M_M_among d Q 46 [some (.ref a0), some (.ref (1000 + a1)), some (.int a2)] [] τ = Ru M_M_among d Q 47 [some (.ref a0), some (.ref (1000 + a1)), some (.int a2)] [.int (-1)] τ) ∧
    (∀ (a0 : Nat) (a1 : Nat) (a2 : Int32) (x0 : Int32) (τ : St), Ru M_M_among d Q 47 [some (.ref a0), some (.ref (1000 + a1)), some (.int a2)] [.int x0] τ = Q (some (.int x0)) τ) := ⟨
  fun _ _ _ => (R_at ok_M_among rfl).trans e_push,
  fun _ _ _ _ => (R_at ok_M_among rfl).trans e_ist,
  fun _ _ _ _ => (R_at ok_M_among rfl).trans (e_ild rfl),
  fun _ _ _ _ _ => (R_at ok_M_among rfl).trans (e_ald rfl),
  fun _ _ _ _ _ _ => (R_at ok_M_among rfl).trans (e_scv [] rfl rfl rfl),
  fun _ _ _ _ _ _ => (R_at ok_M_among rfl).trans e_ic,
  fun _ _ _ _ => (R_at ok_M_among rfl).trans (e_ald rfl),
  fun _ _ _ _ _ => (R_at ok_M_among rfl).trans e_gI,
  fun _ _ _ _ _ => (R_at ok_M_among rfl).trans (e_ald rfl),
  fun _ _ _ _ _ _ => (R_at ok_M_among rfl).trans e_gI,
  fun _ _ _ _ _ _ => (R_at ok_M_among rfl).trans e_ic,
  fun _ _ _ _ => (R_at ok_M_among rfl).trans (e_ald rfl),
  fun _ _ _ _ _ => (R_at ok_M_among rfl).trans (e_ild rfl),
  fun _ _ _ x0 _ _ => (R_at ok_M_among rfl).trans (e_scv [.int x0] rfl rfl rfl),
  fun _ _ _ _ _ => (R_at ok_M_among rfl).trans (e_ald rfl),
  fun _ _ _ _ _ _ => (R_at ok_M_among rfl).trans e_gR,
  fun _ _ _ _ _ _ => (R_at ok_M_among rfl).trans (e_ald rfl),
  fun _ _ _ _ _ _ _ => (R_at ok_M_among rfl).trans e_gI,
  fun _ _ _ _ _ _ _ => (R_at ok_M_among rfl).trans e_al,
  fun _ _ _ _ _ _ => (R_at ok_M_among rfl).trans e_icn,
  fun _ _ _ _ => (R_at ok_M_among rfl).trans (e_ild rfl),
  fun _ _ _ _ _ => (R_at ok_M_among rfl).trans e_iret,
  fun _ _ _ _ => (R_at ok_M_among rfl).trans (e_iinc rfl),
  fun _ _ _ _ => (R_at ok_M_among rfl).trans e_goto,
  fun _ _ _ _ => (R_at ok_M_among rfl).trans e_push,
  fun _ _ _ _ _ => (R_at ok_M_among rfl).trans e_iret⟩
set_option maxHeartbeats 4000000 in
theorem N_M_takesOf (d : Nat) (Q : Qt) : ∀ (x0 : Nat) (x1 : Nat) (τ : St), Cl (d + 1) m_M_takesOf [.ref x0, .ref (1000 + x1)] τ Q = Ru M_M_takesOf d Q 0 [some (.ref x0), some (.ref (1000 + x1)), none] [] τ := fun _ _ _ => propext ⟨fun h => h.2, fun h => ⟨Nat.le_of_ble_eq_true rfl, h⟩⟩
set_option maxHeartbeats 4000000 in
theorem E_M_takesOf (d : Nat) (Q : Qt) :
    (∀ (a0 : Nat) (a1 : Nat) (τ : St), Ru M_M_takesOf d Q 0 [some (.ref a0), some (.ref (1000 + a1)), none] [] τ = Ru M_M_takesOf d Q 1 [some (.ref a0), some (.ref (1000 + a1)), none] [.ref a0] τ) ∧
    (∀ (a0 : Nat) (a1 : Nat) (x0 : Nat) (τ : St), Ru M_M_takesOf d Q 1 [some (.ref a0), some (.ref (1000 + a1)), none] [.ref x0] τ = Ru M_M_takesOf d Q 2 [some (.ref a0), some (.ref (1000 + a1)), none] [.ref (1000 + a1), .ref x0] τ) ∧
    (∀ (a0 : Nat) (a1 : Nat) (x0 : Nat) (x1 : Nat) (τ : St), Ru M_M_takesOf d Q 2 [some (.ref a0), some (.ref (1000 + a1)), none] [.ref (1000 + x0), .ref x1] τ = (isA 12 x1 ∧ Cl d m_M_among [.ref x1, .ref (1000 + x0)] τ (fun v τ' => Ru M_M_takesOf d Q 5 [some (.ref a0), some (.ref (1000 + a1)), none] (v.toList ++ []) τ'))) ∧
    (∀ (a0 : Nat) (a1 : Nat) (x0 : Int32) (τ : St), Ru M_M_takesOf d Q 5 [some (.ref a0), some (.ref (1000 + a1)), none] [.int x0] τ = Ru M_M_takesOf d Q 6 [some (.ref a0), some (.ref (1000 + a1)), some (.int x0)] [] τ) ∧
    (∀ (a0 : Nat) (a1 : Nat) (a2 : Int32) (τ : St), Ru M_M_takesOf d Q 6 [some (.ref a0), some (.ref (1000 + a1)), some (.int a2)] [] τ = Ru M_M_takesOf d Q 7 [some (.ref a0), some (.ref (1000 + a1)), some (.int a2)] [.ref a0] τ) ∧
    (∀ (a0 : Nat) (a1 : Nat) (a2 : Int32) (x0 : Nat) (τ : St), Ru M_M_takesOf d Q 7 [some (.ref a0), some (.ref (1000 + a1)), some (.int a2)] [.ref x0] τ = Ru M_M_takesOf d Q 8 [some (.ref a0), some (.ref (1000 + a1)), some (.int a2)] [.ref x0, .ref x0] τ) ∧
    (∀ (a0 : Nat) (a1 : Nat) (a2 : Int32) (x0 : Nat) (x1 : Nat) (τ : St), Ru M_M_takesOf d Q 8 [some (.ref a0), some (.ref (1000 + a1)), some (.int a2)] [.ref x0, .ref x1] τ = (isA 12 x0 ∧ Ru M_M_takesOf d Q 11 [some (.ref a0), some (.ref (1000 + a1)), some (.int a2)] [.int (τ.1 x0 15), .ref x1] τ)) ∧
    (∀ (a0 : Nat) (a1 : Nat) (a2 : Int32) (x0 : Int32) (x1 : Nat) (τ : St), Ru M_M_takesOf d Q 11 [some (.ref a0), some (.ref (1000 + a1)), some (.int a2)] [.int x0, .ref x1] τ = Ru M_M_takesOf d Q 12 [some (.ref a0), some (.ref (1000 + a1)), some (.int a2)] [.int a2, .int x0, .ref x1] τ) ∧
    (∀ (a0 : Nat) (a1 : Nat) (a2 : Int32) (x0 : Int32) (x1 : Int32) (x2 : Nat) (τ : St), Ru M_M_takesOf d Q 12 [some (.ref a0), some (.ref (1000 + a1)), some (.int a2)] [.int x0, .int x1, .ref x2] τ = ((x0 < 0 → Ru M_M_takesOf d Q 19 [some (.ref a0), some (.ref (1000 + a1)), some (.int a2)] [.int x1, .ref x2] τ) ∧ (¬ x0 < 0 → Ru M_M_takesOf d Q 15 [some (.ref a0), some (.ref (1000 + a1)), some (.int a2)] [.int x1, .ref x2] τ))) ∧
    (∀ (a0 : Nat) (a1 : Nat) (a2 : Int32) (x0 : Int32) (x1 : Nat) (τ : St), Ru M_M_takesOf d Q 15 [some (.ref a0), some (.ref (1000 + a1)), some (.int a2)] [.int x0, .ref x1] τ = Ru M_M_takesOf d Q 16 [some (.ref a0), some (.ref (1000 + a1)), some (.int a2)] [.int 1, .int x0, .ref x1] τ) ∧
    (∀ (a0 : Nat) (a1 : Nat) (a2 : Int32) (x0 : Int32) (x1 : Int32) (x2 : Nat) (τ : St), Ru M_M_takesOf d Q 16 [some (.ref a0), some (.ref (1000 + a1)), some (.int a2)] [.int x0, .int x1, .ref x2] τ = Ru M_M_takesOf d Q 20 [some (.ref a0), some (.ref (1000 + a1)), some (.int a2)] [.int x0, .int x1, .ref x2] τ) ∧
    (∀ (a0 : Nat) (a1 : Nat) (a2 : Int32) (x0 : Int32) (x1 : Nat) (τ : St), Ru M_M_takesOf d Q 19 [some (.ref a0), some (.ref (1000 + a1)), some (.int a2)] [.int x0, .ref x1] τ = Ru M_M_takesOf d Q 20 [some (.ref a0), some (.ref (1000 + a1)), some (.int a2)] [.int 0, .int x0, .ref x1] τ) ∧
    (∀ (a0 : Nat) (a1 : Nat) (a2 : Int32) (x0 : Int32) (x1 : Int32) (x2 : Nat) (τ : St), Ru M_M_takesOf d Q 20 [some (.ref a0), some (.ref (1000 + a1)), some (.int a2)] [.int x0, .int x1, .ref x2] τ = Cl d m_M_flag [.int x0] τ (fun v τ' => Ru M_M_takesOf d Q 23 [some (.ref a0), some (.ref (1000 + a1)), some (.int a2)] (v.toList ++ [.int x1, .ref x2]) τ')) ∧
    (∀ (a0 : Nat) (a1 : Nat) (a2 : Int32) (x0 : Int32) (x1 : Int32) (x2 : Nat) (τ : St), Ru M_M_takesOf d Q 23 [some (.ref a0), some (.ref (1000 + a1)), some (.int a2)] [.int x0, .int x1, .ref x2] τ = Ru M_M_takesOf d Q 24 [some (.ref a0), some (.ref (1000 + a1)), some (.int a2)] [.int (x1 + x0), .ref x2] τ) ∧
    (∀ (a0 : Nat) (a1 : Nat) (a2 : Int32) (x0 : Int32) (x1 : Nat) (τ : St), Ru M_M_takesOf d Q 24 [some (.ref a0), some (.ref (1000 + a1)), some (.int a2)] [.int x0, .ref x1] τ = (isA 12 x1 ∧ Ru M_M_takesOf d Q 27 [some (.ref a0), some (.ref (1000 + a1)), some (.int a2)] [] (sI τ x1 15 x0))) ∧
    (∀ (a0 : Nat) (a1 : Nat) (a2 : Int32) (τ : St), Ru M_M_takesOf d Q 27 [some (.ref a0), some (.ref (1000 + a1)), some (.int a2)] [] τ = Ru M_M_takesOf d Q 28 [some (.ref a0), some (.ref (1000 + a1)), some (.int a2)] [.int a2] τ) ∧
    (∀ (a0 : Nat) (a1 : Nat) (a2 : Int32) (x0 : Int32) (τ : St), Ru M_M_takesOf d Q 28 [some (.ref a0), some (.ref (1000 + a1)), some (.int a2)] [.int x0] τ = Q (some (.int x0)) τ) := ⟨
  fun _ _ _ => (R_at ok_M_takesOf rfl).trans (e_ald rfl),
  fun _ _ _ _ => (R_at ok_M_takesOf rfl).trans (e_ald rfl),
  fun _ _ x0 _ _ => (R_at ok_M_takesOf rfl).trans (e_cv [.ref (1000 + x0)] rfl rfl rfl),
  fun _ _ _ _ => (R_at ok_M_takesOf rfl).trans e_ist,
  fun _ _ _ _ => (R_at ok_M_takesOf rfl).trans (e_ald rfl),
  fun _ _ _ _ _ => (R_at ok_M_takesOf rfl).trans (e_dup rfl),
  fun _ _ _ _ _ _ => (R_at ok_M_takesOf rfl).trans e_gI,
  fun _ _ _ _ _ _ => (R_at ok_M_takesOf rfl).trans (e_ild rfl),
  fun _ _ _ _ _ _ _ => (R_at ok_M_takesOf rfl).trans e_if,
  fun _ _ _ _ _ _ => (R_at ok_M_takesOf rfl).trans e_push,
  fun _ _ _ _ _ _ _ => (R_at ok_M_takesOf rfl).trans e_goto,
  fun _ _ _ _ _ _ => (R_at ok_M_takesOf rfl).trans e_push,
  fun _ _ _ x0 _ _ _ => (R_at ok_M_takesOf rfl).trans (e_cs [.int x0] rfl rfl rfl),
  fun _ _ _ _ _ _ _ => (R_at ok_M_takesOf rfl).trans e_bin,
  fun _ _ _ _ _ _ => (R_at ok_M_takesOf rfl).trans e_pI,
  fun _ _ _ _ => (R_at ok_M_takesOf rfl).trans (e_ild rfl),
  fun _ _ _ _ _ => (R_at ok_M_takesOf rfl).trans e_iret⟩
set_option maxHeartbeats 4000000 in
theorem N_M_number (d : Nat) (Q : Qt) : ∀ (x0 : Nat) (x1 : Int32) (τ : St), Cl (d + 1) m_M_number [.ref x0, .int x1] τ Q = Ru M_M_number d Q 0 [some (.ref x0), some (.int x1), none, none] [] τ := fun _ _ _ => propext ⟨fun h => h.2, fun h => ⟨Nat.le_of_ble_eq_true rfl, h⟩⟩
set_option maxHeartbeats 4000000 in
theorem E_M_number (d : Nat) (Q : Qt) :
    (∀ (a0 : Nat) (a1 : Int32) (τ : St), Ru M_M_number d Q 0 [some (.ref a0), some (.int a1), none, none] [] τ = Ru M_M_number d Q 1 [some (.ref a0), some (.int a1), none, none] [.ref a0] τ) ∧
    (∀ (a0 : Nat) (a1 : Int32) (x0 : Nat) (τ : St), Ru M_M_number d Q 1 [some (.ref a0), some (.int a1), none, none] [.ref x0] τ = (isA 12 x0 ∧ Cl d m_M_isDigit [.ref x0] τ (fun v τ' => Ru M_M_number d Q 4 [some (.ref a0), some (.int a1), none, none] (v.toList ++ []) τ'))) ∧
    (∀ (a0 : Nat) (a1 : Int32) (x0 : Int32) (τ : St), Ru M_M_number d Q 4 [some (.ref a0), some (.int a1), none, none] [.int x0] τ = ((¬ x0 = 0 → Ru M_M_number d Q 9 [some (.ref a0), some (.int a1), none, none] [] τ) ∧ (x0 = 0 → Ru M_M_number d Q 7 [some (.ref a0), some (.int a1), none, none] [] τ))) ∧
    (∀ (a0 : Nat) (a1 : Int32) (τ : St), Ru M_M_number d Q 7 [some (.ref a0), some (.int a1), none, none] [] τ = Ru M_M_number d Q 8 [some (.ref a0), some (.int a1), none, none] [.int (-1)] τ) ∧
    (∀ (a0 : Nat) (a1 : Int32) (x0 : Int32) (τ : St), Ru M_M_number d Q 8 [some (.ref a0), some (.int a1), none, none] [.int x0] τ = Q (some (.int x0)) τ) ∧
    (∀ (a0 : Nat) (a1 : Int32) (τ : St), Ru M_M_number d Q 9 [some (.ref a0), some (.int a1), none, none] [] τ = Ru M_M_number d Q 10 [some (.ref a0), some (.int a1), none, none] [.int 0] τ) ∧
    (∀ (a0 : Nat) (a1 : Int32) (x0 : Int32) (τ : St), Ru M_M_number d Q 10 [some (.ref a0), some (.int a1), none, none] [.int x0] τ = Ru M_M_number d Q 11 [some (.ref a0), some (.int a1), some (.int x0), none] [] τ) ∧
    (∀ (a0 : Nat) (a1 : Int32) (a2 : Int32) (τ : St), Ru M_M_number d Q 11 [some (.ref a0), some (.int a1), some (.int a2), none] [] τ = Ru M_M_number d Q 12 [some (.ref a0), some (.int a1), some (.int a2), none] [.int 0] τ) ∧
    (∀ (a0 : Nat) (a1 : Int32) (a2 : Int32) (x0 : Int32) (τ : St), Ru M_M_number d Q 12 [some (.ref a0), some (.int a1), some (.int a2), none] [.int x0] τ = Rs M_M_number d Q 13 [some (.ref a0), some (.int a1), some (.int a2), some (.int x0)] [] τ) ∧
    (∀ (a0 : Nat) (a1 : Int32) (a2 : Int32) (a3 : Int32) (τ : St), Ru M_M_number d Q 13 [some (.ref a0), some (.int a1), some (.int a2), some (.int a3)] [] τ = Ru M_M_number d Q 14 [some (.ref a0), some (.int a1), some (.int a2), some (.int a3)] [.int a3] τ) ∧
    (∀ (a0 : Nat) (a1 : Int32) (a2 : Int32) (a3 : Int32) (x0 : Int32) (τ : St), Ru M_M_number d Q 14 [some (.ref a0), some (.int a1), some (.int a2), some (.int a3)] [.int x0] τ = Ru M_M_number d Q 15 [some (.ref a0), some (.int a1), some (.int a2), some (.int a3)] [.int a1, .int x0] τ) ∧
    (∀ (a0 : Nat) (a1 : Int32) (a2 : Int32) (a3 : Int32) (x0 : Int32) (x1 : Int32) (τ : St), Ru M_M_number d Q 15 [some (.ref a0), some (.int a1), some (.int a2), some (.int a3)] [.int x0, .int x1] τ = ((x0 ≤ x1 → Ru M_M_number d Q 59 [some (.ref a0), some (.int a1), some (.int a2), some (.int a3)] [] τ) ∧ (¬ x0 ≤ x1 → Ru M_M_number d Q 18 [some (.ref a0), some (.int a1), some (.int a2), some (.int a3)] [] τ))) ∧
    (∀ (a0 : Nat) (a1 : Int32) (a2 : Int32) (a3 : Int32) (τ : St), Ru M_M_number d Q 18 [some (.ref a0), some (.int a1), some (.int a2), some (.int a3)] [] τ = Ru M_M_number d Q 19 [some (.ref a0), some (.int a1), some (.int a2), some (.int a3)] [.ref a0] τ) ∧
    (∀ (a0 : Nat) (a1 : Int32) (a2 : Int32) (a3 : Int32) (x0 : Nat) (τ : St), Ru M_M_number d Q 19 [some (.ref a0), some (.int a1), some (.int a2), some (.int a3)] [.ref x0] τ = (isA 12 x0 ∧ Cl d m_M_isDigit [.ref x0] τ (fun v τ' => Ru M_M_number d Q 22 [some (.ref a0), some (.int a1), some (.int a2), some (.int a3)] (v.toList ++ []) τ'))) ∧
    (∀ (a0 : Nat) (a1 : Int32) (a2 : Int32) (a3 : Int32) (x0 : Int32) (τ : St), Ru M_M_number d Q 22 [some (.ref a0), some (.int a1), some (.int a2), some (.int a3)] [.int x0] τ = ((x0 = 0 → Ru M_M_number d Q 59 [some (.ref a0), some (.int a1), some (.int a2), some (.int a3)] [] τ) ∧ (¬ x0 = 0 → Ru M_M_number d Q 25 [some (.ref a0), some (.int a1), some (.int a2), some (.int a3)] [] τ))) ∧
    (∀ (a0 : Nat) (a1 : Int32) (a2 : Int32) (a3 : Int32) (τ : St), Ru M_M_number d Q 25 [some (.ref a0), some (.int a1), some (.int a2), some (.int a3)] [] τ = Ru M_M_number d Q 27 [some (.ref a0), some (.int a1), some (.int a2), some (.int a3)] [.int 10] τ) ∧
    (∀ (a0 : Nat) (a1 : Int32) (a2 : Int32) (a3 : Int32) (x0 : Int32) (τ : St), Ru M_M_number d Q 27 [some (.ref a0), some (.int a1), some (.int a2), some (.int a3)] [.int x0] τ = Ru M_M_number d Q 28 [some (.ref a0), some (.int a1), some (.int a2), some (.int a3)] [.int a2, .int x0] τ) ∧
    (∀ (a0 : Nat) (a1 : Int32) (a2 : Int32) (a3 : Int32) (x0 : Int32) (x1 : Int32) (τ : St), Ru M_M_number d Q 28 [some (.ref a0), some (.int a1), some (.int a2), some (.int a3)] [.int x0, .int x1] τ = Ru M_M_number d Q 29 [some (.ref a0), some (.int a1), some (.int a2), some (.int a3)] [.int (x1 * x0)] τ) ∧
    (∀ (a0 : Nat) (a1 : Int32) (a2 : Int32) (a3 : Int32) (x0 : Int32) (τ : St), Ru M_M_number d Q 29 [some (.ref a0), some (.int a1), some (.int a2), some (.int a3)] [.int x0] τ = Ru M_M_number d Q 30 [some (.ref a0), some (.int a1), some (.int a2), some (.int a3)] [.ref a0, .int x0] τ) ∧
    (∀ (a0 : Nat) (a1 : Int32) (a2 : Int32) (a3 : Int32) (x0 : Nat) (x1 : Int32) (τ : St), Ru M_M_number d Q 30 [some (.ref a0), some (.int a1), some (.int a2), some (.int a3)] [.ref x0, .int x1] τ = (isA 12 x0 ∧ Ru M_M_number d Q 33 [some (.ref a0), some (.int a1), some (.int a2), some (.int a3)] [.ref (rtab x0 13), .int x1] τ)) ∧
    (∀ (a0 : Nat) (a1 : Int32) (a2 : Int32) (a3 : Int32) (x0 : Nat) (x1 : Int32) (τ : St), Ru M_M_number d Q 33 [some (.ref a0), some (.int a1), some (.int a2), some (.int a3)] [.ref x0, .int x1] τ = Ru M_M_number d Q 34 [some (.ref a0), some (.int a1), some (.int a2), some (.int a3)] [.ref a0, .ref x0, .int x1] τ) ∧
    (∀ (a0 : Nat) (a1 : Int32) (a2 : Int32) (a3 : Int32) (x0 : Nat) (x1 : Nat) (x2 : Int32) (τ : St), Ru M_M_number d Q 34 [some (.ref a0), some (.int a1), some (.int a2), some (.int a3)] [.ref x0, .ref x1, .int x2] τ = (isA 12 x0 ∧ Ru M_M_number d Q 37 [some (.ref a0), some (.int a1), some (.int a2), some (.int a3)] [.int (τ.1 x0 15), .ref x1, .int x2] τ)) ∧
    (∀ (a0 : Nat) (a1 : Int32) (a2 : Int32) (a3 : Int32) (x0 : Int32) (x1 : Nat) (x2 : Int32) (τ : St), Ru M_M_number d Q 37 [some (.ref a0), some (.int a1), some (.int a2), some (.int a3)] [.int x0, .ref x1, .int x2] τ = (isA 14 x1 ∧ vp_in x0 (len x1) ∧ Ru M_M_number d Q 38 [some (.ref a0), some (.int a1), some (.int a2), some (.int a3)] [.int (τ.1 x1 x0.toNatClampNeg), .int x2] τ)) ∧
    (∀ (a0 : Nat) (a1 : Int32) (a2 : Int32) (a3 : Int32) (x0 : Int32) (x1 : Int32) (τ : St), Ru M_M_number d Q 38 [some (.ref a0), some (.int a1), some (.int a2), some (.int a3)] [.int x0, .int x1] τ = Ru M_M_number d Q 39 [some (.ref a0), some (.int a1), some (.int a2), some (.int a3)] [.int (x1 + x0)] τ) ∧
    (∀ (a0 : Nat) (a1 : Int32) (a2 : Int32) (a3 : Int32) (x0 : Int32) (τ : St), Ru M_M_number d Q 39 [some (.ref a0), some (.int a1), some (.int a2), some (.int a3)] [.int x0] τ = Ru M_M_number d Q 41 [some (.ref a0), some (.int a1), some (.int a2), some (.int a3)] [.int 48, .int x0] τ) ∧
    (∀ (a0 : Nat) (a1 : Int32) (a2 : Int32) (a3 : Int32) (x0 : Int32) (x1 : Int32) (τ : St), Ru M_M_number d Q 41 [some (.ref a0), some (.int a1), some (.int a2), some (.int a3)] [.int x0, .int x1] τ = Ru M_M_number d Q 42 [some (.ref a0), some (.int a1), some (.int a2), some (.int a3)] [.int (x1 - x0)] τ) ∧
    (∀ (a0 : Nat) (a1 : Int32) (a2 : Int32) (a3 : Int32) (x0 : Int32) (τ : St), Ru M_M_number d Q 42 [some (.ref a0), some (.int a1), some (.int a2), some (.int a3)] [.int x0] τ = Ru M_M_number d Q 43 [some (.ref a0), some (.int a1), some (.int x0), some (.int a3)] [] τ) ∧
    (∀ (a0 : Nat) (a1 : Int32) (a2 : Int32) (a3 : Int32) (τ : St), Ru M_M_number d Q 43 [some (.ref a0), some (.int a1), some (.int a2), some (.int a3)] [] τ = Ru M_M_number d Q 44 [some (.ref a0), some (.int a1), some (.int a2), some (.int a3)] [.ref a0] τ) ∧
    (∀ (a0 : Nat) (a1 : Int32) (a2 : Int32) (a3 : Int32) (x0 : Nat) (τ : St), Ru M_M_number d Q 44 [some (.ref a0), some (.int a1), some (.int a2), some (.int a3)] [.ref x0] τ = Ru M_M_number d Q 45 [some (.ref a0), some (.int a1), some (.int a2), some (.int a3)] [.ref x0, .ref x0] τ) ∧
    (∀ (a0 : Nat) (a1 : Int32) (a2 : Int32) (a3 : Int32) (x0 : Nat) (x1 : Nat) (τ : St), Ru M_M_number d Q 45 [some (.ref a0), some (.int a1), some (.int a2), some (.int a3)] [.ref x0, .ref x1] τ = (isA 12 x0 ∧ Ru M_M_number d Q 48 [some (.ref a0), some (.int a1), some (.int a2), some (.int a3)] [.int (τ.1 x0 15), .ref x1] τ)) ∧
    (∀ (a0 : Nat) (a1 : Int32) (a2 : Int32) (a3 : Int32) (x0 : Int32) (x1 : Nat) (τ : St), Ru M_M_number d Q 48 [some (.ref a0), some (.int a1), some (.int a2), some (.int a3)] [.int x0, .ref x1] τ = Ru M_M_number d Q 49 [some (.ref a0), some (.int a1), some (.int a2), some (.int a3)] [.int 1, .int x0, .ref x1] τ) ∧
    (∀ (a0 : Nat) (a1 : Int32) (a2 : Int32) (a3 : Int32) (x0 : Int32) (x1 : Int32) (x2 : Nat) (τ : St), Ru M_M_number d Q 49 [some (.ref a0), some (.int a1), some (.int a2), some (.int a3)] [.int x0, .int x1, .ref x2] τ = Ru M_M_number d Q 50 [some (.ref a0), some (.int a1), some (.int a2), some (.int a3)] [.int (x1 + x0), .ref x2] τ) ∧
    (∀ (a0 : Nat) (a1 : Int32) (a2 : Int32) (a3 : Int32) (x0 : Int32) (x1 : Nat) (τ : St), Ru M_M_number d Q 50 [some (.ref a0), some (.int a1), some (.int a2), some (.int a3)] [.int x0, .ref x1] τ = (isA 12 x1 ∧ Ru M_M_number d Q 53 [some (.ref a0), some (.int a1), some (.int a2), some (.int a3)] [] (sI τ x1 15 x0))) ∧
    (∀ (a0 : Nat) (a1 : Int32) (a2 : Int32) (a3 : Int32) (τ : St), Ru M_M_number d Q 53 [some (.ref a0), some (.int a1), some (.int a2), some (.int a3)] [] τ = Ru M_M_number d Q 56 [some (.ref a0), some (.int a1), some (.int a2), some (.int (a3 + 1))] [] τ) ∧
    (∀ (a0 : Nat) (a1 : Int32) (a2 : Int32) (a3 : Int32) (τ : St), Ru M_M_number d Q 56 [some (.ref a0), some (.int a1), some (.int a2), some (.int a3)] [] τ = Rs M_M_number d Q 13 [some (.ref a0), some (.int a1), some (.int a2), some (.int a3)] [] τ) ∧
    (∀ (a0 : Nat) (a1 : Int32) (a2 : Int32) (a3 : Int32) (τ : St), Ru M_M_number d Q 59 [some (.ref a0), some (.int a1), some (.int a2), some (.int a3)] [] τ = Ru M_M_number d Q 60 [some (.ref a0), some (.int a1), some (.int a2), some (.int a3)] [.int a2] τ) ∧
    (∀ (a0 : Nat) (a1 : Int32) (a2 : Int32) (a3 : Int32) (x0 : Int32) (τ : St), Ru M_M_number d Q 60 [some (.ref a0), some (.int a1), some (.int a2), some (.int a3)] [.int x0] τ = Q (some (.int x0)) τ) := ⟨
  fun _ _ _ => (R_at ok_M_number rfl).trans (e_ald rfl),
  fun _ _ _ _ => (R_at ok_M_number rfl).trans (e_cv [] rfl rfl rfl),
  fun _ _ _ _ => (R_at ok_M_number rfl).trans e_ifn,
  fun _ _ _ => (R_at ok_M_number rfl).trans e_push,
  fun _ _ _ _ => (R_at ok_M_number rfl).trans e_iret,
  fun _ _ _ => (R_at ok_M_number rfl).trans e_push,
  fun _ _ _ _ => (R_at ok_M_number rfl).trans e_ist,
  fun _ _ _ _ => (R_at ok_M_number rfl).trans e_push,
  fun _ _ _ _ _ => (R_at ok_M_number rfl).trans e_ist,
  fun _ _ _ _ _ => (R_at ok_M_number rfl).trans (e_ild rfl),
  fun _ _ _ _ _ _ => (R_at ok_M_number rfl).trans (e_ild rfl),
  fun _ _ _ _ _ _ _ => (R_at ok_M_number rfl).trans e_ic,
  fun _ _ _ _ _ => (R_at ok_M_number rfl).trans (e_ald rfl),
  fun _ _ _ _ _ _ => (R_at ok_M_number rfl).trans (e_cv [] rfl rfl rfl),
  fun _ _ _ _ _ _ => (R_at ok_M_number rfl).trans e_if,
  fun _ _ _ _ _ => (R_at ok_M_number rfl).trans e_push,
  fun _ _ _ _ _ _ => (R_at ok_M_number rfl).trans (e_ild rfl),
  fun _ _ _ _ _ _ _ => (R_at ok_M_number rfl).trans e_bin,
  fun _ _ _ _ _ _ => (R_at ok_M_number rfl).trans (e_ald rfl),
  fun _ _ _ _ _ _ _ => (R_at ok_M_number rfl).trans e_gR,
  fun _ _ _ _ _ _ _ => (R_at ok_M_number rfl).trans (e_ald rfl),
  fun _ _ _ _ _ _ _ _ => (R_at ok_M_number rfl).trans e_gI,
  fun _ _ _ _ _ _ _ _ => (R_at ok_M_number rfl).trans e_al,
  fun _ _ _ _ _ _ _ => (R_at ok_M_number rfl).trans e_bin,
  fun _ _ _ _ _ _ => (R_at ok_M_number rfl).trans e_push,
  fun _ _ _ _ _ _ _ => (R_at ok_M_number rfl).trans e_bin,
  fun _ _ _ _ _ _ => (R_at ok_M_number rfl).trans e_ist,
  fun _ _ _ _ _ => (R_at ok_M_number rfl).trans (e_ald rfl),
  fun _ _ _ _ _ _ => (R_at ok_M_number rfl).trans (e_dup rfl),
  fun _ _ _ _ _ _ _ => (R_at ok_M_number rfl).trans e_gI,
  fun _ _ _ _ _ _ _ => (R_at ok_M_number rfl).trans e_push,
  fun _ _ _ _ _ _ _ _ => (R_at ok_M_number rfl).trans e_bin,
  fun _ _ _ _ _ _ _ => (R_at ok_M_number rfl).trans e_pI,
  fun _ _ _ _ _ => (R_at ok_M_number rfl).trans (e_iinc rfl),
  fun _ _ _ _ _ => (R_at ok_M_number rfl).trans e_goto,
  fun _ _ _ _ _ => (R_at ok_M_number rfl).trans (e_ild rfl),
  fun _ _ _ _ _ _ => (R_at ok_M_number rfl).trans e_iret⟩
set_option maxHeartbeats 4000000 in
theorem N_M_signIn (d : Nat) (Q : Qt) : ∀ (x0 : Nat) (x1 : Int32) (x2 : Int32) (x3 : Int32) (τ : St), Cl (d + 1) m_M_signIn [.ref x0, .int x1, .int x2, .int x3] τ Q = Ru M_M_signIn d Q 0 [some (.ref x0), some (.int x1), some (.int x2), some (.int x3)] [] τ := fun _ _ _ _ _ => propext ⟨fun h => h.2, fun h => ⟨Nat.le_of_ble_eq_true rfl, h⟩⟩
set_option maxHeartbeats 4000000 in
theorem E_M_signIn (d : Nat) (Q : Qt) :
    (∀ (a0 : Nat) (a1 : Int32) (a2 : Int32) (a3 : Int32) (τ : St), Ru M_M_signIn d Q 0 [some (.ref a0), some (.int a1), some (.int a2), some (.int a3)] [] τ = Ru M_M_signIn d Q 1 [some (.ref a0), some (.int a1), some (.int a2), some (.int a3)] [.ref a0] τ) ∧
    (∀ (a0 : Nat) (a1 : Int32) (a2 : Int32) (a3 : Int32) (x0 : Nat) (τ : St), Ru M_M_signIn d Q 1 [some (.ref a0), some (.int a1), some (.int a2), some (.int a3)] [.ref x0] τ = (isA 12 x0 ∧ Ru M_M_signIn d Q 4 [some (.ref a0), some (.int a1), some (.int a2), some (.int a3)] [.int (τ.1 x0 15)] τ)) ∧
    (∀ (a0 : Nat) (a1 : Int32) (a2 : Int32) (a3 : Int32) (x0 : Int32) (τ : St), Ru M_M_signIn d Q 4 [some (.ref a0), some (.int a1), some (.int a2), some (.int a3)] [.int x0] τ = Ru M_M_signIn d Q 5 [some (.ref a0), some (.int a1), some (.int a2), some (.int a3)] [.ref a0, .int x0] τ) ∧
    (∀ (a0 : Nat) (a1 : Int32) (a2 : Int32) (a3 : Int32) (x0 : Nat) (x1 : Int32) (τ : St), Ru M_M_signIn d Q 5 [some (.ref a0), some (.int a1), some (.int a2), some (.int a3)] [.ref x0, .int x1] τ = (isA 12 x0 ∧ Ru M_M_signIn d Q 8 [some (.ref a0), some (.int a1), some (.int a2), some (.int a3)] [.int (τ.1 x0 16), .int x1] τ)) ∧
    (∀ (a0 : Nat) (a1 : Int32) (a2 : Int32) (a3 : Int32) (x0 : Int32) (x1 : Int32) (τ : St), Ru M_M_signIn d Q 8 [some (.ref a0), some (.int a1), some (.int a2), some (.int a3)] [.int x0, .int x1] τ = ((x0 ≤ x1 → Ru M_M_signIn d Q 33 [some (.ref a0), some (.int a1), some (.int a2), some (.int a3)] [] τ) ∧ (¬ x0 ≤ x1 → Ru M_M_signIn d Q 11 [some (.ref a0), some (.int a1), some (.int a2), some (.int a3)] [] τ))) ∧
    (∀ (a0 : Nat) (a1 : Int32) (a2 : Int32) (a3 : Int32) (τ : St), Ru M_M_signIn d Q 11 [some (.ref a0), some (.int a1), some (.int a2), some (.int a3)] [] τ = Ru M_M_signIn d Q 12 [some (.ref a0), some (.int a1), some (.int a2), some (.int a3)] [.ref a0] τ) ∧
    (∀ (a0 : Nat) (a1 : Int32) (a2 : Int32) (a3 : Int32) (x0 : Nat) (τ : St), Ru M_M_signIn d Q 12 [some (.ref a0), some (.int a1), some (.int a2), some (.int a3)] [.ref x0] τ = (isA 12 x0 ∧ Ru M_M_signIn d Q 15 [some (.ref a0), some (.int a1), some (.int a2), some (.int a3)] [.ref (rtab x0 13)] τ)) ∧
    (∀ (a0 : Nat) (a1 : Int32) (a2 : Int32) (a3 : Int32) (x0 : Nat) (τ : St), Ru M_M_signIn d Q 15 [some (.ref a0), some (.int a1), some (.int a2), some (.int a3)] [.ref x0] τ = Ru M_M_signIn d Q 16 [some (.ref a0), some (.int a1), some (.int a2), some (.int a3)] [.ref a0, .ref x0] τ) ∧
    (∀ (a0 : Nat) (a1 : Int32) (a2 : Int32) (a3 : Int32) (x0 : Nat) (x1 : Nat) (τ : St), Ru M_M_signIn d Q 16 [some (.ref a0), some (.int a1), some (.int a2), some (.int a3)] [.ref x0, .ref x1] τ = (isA 12 x0 ∧ Ru M_M_signIn d Q 19 [some (.ref a0), some (.int a1), some (.int a2), some (.int a3)] [.int (τ.1 x0 15), .ref x1] τ)) ∧
    (∀ (a0 : Nat) (a1 : Int32) (a2 : Int32) (a3 : Int32) (x0 : Int32) (x1 : Nat) (τ : St), Ru M_M_signIn d Q 19 [some (.ref a0), some (.int a1), some (.int a2), some (.int a3)] [.int x0, .ref x1] τ = (isA 14 x1 ∧ vp_in x0 (len x1) ∧ Ru M_M_signIn d Q 20 [some (.ref a0), some (.int a1), some (.int a2), some (.int a3)] [.int (τ.1 x1 x0.toNatClampNeg)] τ)) ∧
    (∀ (a0 : Nat) (a1 : Int32) (a2 : Int32) (a3 : Int32) (x0 : Int32) (τ : St), Ru M_M_signIn d Q 20 [some (.ref a0), some (.int a1), some (.int a2), some (.int a3)] [.int x0] τ = Ru M_M_signIn d Q 21 [some (.ref a0), some (.int a1), some (.int a2), some (.int a3)] [.int a1, .int x0] τ) ∧
    (∀ (a0 : Nat) (a1 : Int32) (a2 : Int32) (a3 : Int32) (x0 : Int32) (x1 : Int32) (τ : St), Ru M_M_signIn d Q 21 [some (.ref a0), some (.int a1), some (.int a2), some (.int a3)] [.int x0, .int x1] τ = Ru M_M_signIn d Q 22 [some (.ref a0), some (.int a1), some (.int a2), some (.int a3)] [.int (x1 - x0)] τ) ∧
    (∀ (a0 : Nat) (a1 : Int32) (a2 : Int32) (a3 : Int32) (x0 : Int32) (τ : St), Ru M_M_signIn d Q 22 [some (.ref a0), some (.int a1), some (.int a2), some (.int a3)] [.int x0] τ = Ru M_M_signIn d Q 23 [some (.ref a0), some (.int a1), some (.int a2), some (.int a3)] [.long x0.toInt64] τ) ∧
    (∀ (a0 : Nat) (a1 : Int32) (a2 : Int32) (a3 : Int32) (x0 : Int64) (τ : St), Ru M_M_signIn d Q 23 [some (.ref a0), some (.int a1), some (.int a2), some (.int a3)] [.long x0] τ = Ru M_M_signIn d Q 24 [some (.ref a0), some (.int a1), some (.int a2), some (.int a3)] [.int a2, .long x0] τ) ∧
    (∀ (a0 : Nat) (a1 : Int32) (a2 : Int32) (a3 : Int32) (x0 : Int32) (x1 : Int64) (τ : St), Ru M_M_signIn d Q 24 [some (.ref a0), some (.int a1), some (.int a2), some (.int a3)] [.int x0, .long x1] τ = Ru M_M_signIn d Q 25 [some (.ref a0), some (.int a1), some (.int a2), some (.int a3)] [.long x0.toInt64, .long x1] τ) ∧
    (∀ (a0 : Nat) (a1 : Int32) (a2 : Int32) (a3 : Int32) (x0 : Int64) (x1 : Int64) (τ : St), Ru M_M_signIn d Q 25 [some (.ref a0), some (.int a1), some (.int a2), some (.int a3)] [.long x0, .long x1] τ = Ru M_M_signIn d Q 26 [some (.ref a0), some (.int a1), some (.int a2), some (.int a3)] [.int a3, .long x0, .long x1] τ) ∧
    (∀ (a0 : Nat) (a1 : Int32) (a2 : Int32) (a3 : Int32) (x0 : Int32) (x1 : Int64) (x2 : Int64) (τ : St), Ru M_M_signIn d Q 26 [some (.ref a0), some (.int a1), some (.int a2), some (.int a3)] [.int x0, .long x1, .long x2] τ = Ru M_M_signIn d Q 27 [some (.ref a0), some (.int a1), some (.int a2), some (.int a3)] [.long x0.toInt64, .long x1, .long x2] τ) ∧
    (∀ (a0 : Nat) (a1 : Int32) (a2 : Int32) (a3 : Int32) (x0 : Int64) (x1 : Int64) (x2 : Int64) (τ : St), Ru M_M_signIn d Q 27 [some (.ref a0), some (.int a1), some (.int a2), some (.int a3)] [.long x0, .long x1, .long x2] τ = Cl d m_M_in [.long x2, .long x1, .long x0] τ (fun v τ' => Ru M_M_signIn d Q 30 [some (.ref a0), some (.int a1), some (.int a2), some (.int a3)] (v.toList ++ []) τ')) ∧
    (∀ (a0 : Nat) (a1 : Int32) (a2 : Int32) (a3 : Int32) (x0 : Int32) (τ : St), Ru M_M_signIn d Q 30 [some (.ref a0), some (.int a1), some (.int a2), some (.int a3)] [.int x0] τ = ((¬ x0 = 0 → Ru M_M_signIn d Q 35 [some (.ref a0), some (.int a1), some (.int a2), some (.int a3)] [] τ) ∧ (x0 = 0 → Ru M_M_signIn d Q 33 [some (.ref a0), some (.int a1), some (.int a2), some (.int a3)] [] τ))) ∧
    (∀ (a0 : Nat) (a1 : Int32) (a2 : Int32) (a3 : Int32) (τ : St), Ru M_M_signIn d Q 33 [some (.ref a0), some (.int a1), some (.int a2), some (.int a3)] [] τ = Ru M_M_signIn d Q 34 [some (.ref a0), some (.int a1), some (.int a2), some (.int a3)] [.int (-1)] τ) ∧
    (∀ (a0 : Nat) (a1 : Int32) (a2 : Int32) (a3 : Int32) (x0 : Int32) (τ : St), Ru M_M_signIn d Q 34 [some (.ref a0), some (.int a1), some (.int a2), some (.int a3)] [.int x0] τ = Q (some (.int x0)) τ) ∧
    (∀ (a0 : Nat) (a1 : Int32) (a2 : Int32) (a3 : Int32) (τ : St), Ru M_M_signIn d Q 35 [some (.ref a0), some (.int a1), some (.int a2), some (.int a3)] [] τ = Ru M_M_signIn d Q 36 [some (.ref a0), some (.int a1), some (.int a2), some (.int a3)] [.ref a0] τ) ∧
    (∀ (a0 : Nat) (a1 : Int32) (a2 : Int32) (a3 : Int32) (x0 : Nat) (τ : St), Ru M_M_signIn d Q 36 [some (.ref a0), some (.int a1), some (.int a2), some (.int a3)] [.ref x0] τ = Ru M_M_signIn d Q 37 [some (.ref a0), some (.int a1), some (.int a2), some (.int a3)] [.ref x0, .ref x0] τ) ∧
    (∀ (a0 : Nat) (a1 : Int32) (a2 : Int32) (a3 : Int32) (x0 : Nat) (x1 : Nat) (τ : St), Ru M_M_signIn d Q 37 [some (.ref a0), some (.int a1), some (.int a2), some (.int a3)] [.ref x0, .ref x1] τ = (isA 12 x0 ∧ Ru M_M_signIn d Q 40 [some (.ref a0), some (.int a1), some (.int a2), some (.int a3)] [.int (τ.1 x0 15), .ref x1] τ)) ∧
    (∀ (a0 : Nat) (a1 : Int32) (a2 : Int32) (a3 : Int32) (x0 : Int32) (x1 : Nat) (τ : St), Ru M_M_signIn d Q 40 [some (.ref a0), some (.int a1), some (.int a2), some (.int a3)] [.int x0, .ref x1] τ = Ru M_M_signIn d Q 41 [some (.ref a0), some (.int a1), some (.int a2), some (.int a3)] [.int 1, .int x0, .ref x1] τ) ∧
    (∀ (a0 : Nat) (a1 : Int32) (a2 : Int32) (a3 : Int32) (x0 : Int32) (x1 : Int32) (x2 : Nat) (τ : St), Ru M_M_signIn d Q 41 [some (.ref a0), some (.int a1), some (.int a2), some (.int a3)] [.int x0, .int x1, .ref x2] τ = Ru M_M_signIn d Q 42 [some (.ref a0), some (.int a1), some (.int a2), some (.int a3)] [.int (x1 + x0), .ref x2] τ) ∧
    (∀ (a0 : Nat) (a1 : Int32) (a2 : Int32) (a3 : Int32) (x0 : Int32) (x1 : Nat) (τ : St), Ru M_M_signIn d Q 42 [some (.ref a0), some (.int a1), some (.int a2), some (.int a3)] [.int x0, .ref x1] τ = (isA 12 x1 ∧ Ru M_M_signIn d Q 45 [some (.ref a0), some (.int a1), some (.int a2), some (.int a3)] [] (sI τ x1 15 x0))) ∧
    (∀ (a0 : Nat) (a1 : Int32) (a2 : Int32) (a3 : Int32) (τ : St), Ru M_M_signIn d Q 45 [some (.ref a0), some (.int a1), some (.int a2), some (.int a3)] [] τ = Ru M_M_signIn d Q 46 [some (.ref a0), some (.int a1), some (.int a2), some (.int a3)] [.ref a0] τ) ∧
    (∀ (a0 : Nat) (a1 : Int32) (a2 : Int32) (a3 : Int32) (x0 : Nat) (τ : St), Ru M_M_signIn d Q 46 [some (.ref a0), some (.int a1), some (.int a2), some (.int a3)] [.ref x0] τ = (isA 12 x0 ∧ Ru M_M_signIn d Q 49 [some (.ref a0), some (.int a1), some (.int a2), some (.int a3)] [.ref (rtab x0 13)] τ)) ∧
    (∀ (a0 : Nat) (a1 : Int32) (a2 : Int32) (a3 : Int32) (x0 : Nat) (τ : St), Ru M_M_signIn d Q 49 [some (.ref a0), some (.int a1), some (.int a2), some (.int a3)] [.ref x0] τ = Ru M_M_signIn d Q 50 [some (.ref a0), some (.int a1), some (.int a2), some (.int a3)] [.ref a0, .ref x0] τ) ∧
    (∀ (a0 : Nat) (a1 : Int32) (a2 : Int32) (a3 : Int32) (x0 : Nat) (x1 : Nat) (τ : St), Ru M_M_signIn d Q 50 [some (.ref a0), some (.int a1), some (.int a2), some (.int a3)] [.ref x0, .ref x1] τ = (isA 12 x0 ∧ Ru M_M_signIn d Q 53 [some (.ref a0), some (.int a1), some (.int a2), some (.int a3)] [.int (τ.1 x0 15), .ref x1] τ)) ∧
    (∀ (a0 : Nat) (a1 : Int32) (a2 : Int32) (a3 : Int32) (x0 : Int32) (x1 : Nat) (τ : St), Ru M_M_signIn d Q 53 [some (.ref a0), some (.int a1), some (.int a2), some (.int a3)] [.int x0, .ref x1] τ = Ru M_M_signIn d Q 54 [some (.ref a0), some (.int a1), some (.int a2), some (.int a3)] [.int 1, .int x0, .ref x1] τ) ∧
    (∀ (a0 : Nat) (a1 : Int32) (a2 : Int32) (a3 : Int32) (x0 : Int32) (x1 : Int32) (x2 : Nat) (τ : St), Ru M_M_signIn d Q 54 [some (.ref a0), some (.int a1), some (.int a2), some (.int a3)] [.int x0, .int x1, .ref x2] τ = Ru M_M_signIn d Q 55 [some (.ref a0), some (.int a1), some (.int a2), some (.int a3)] [.int (x1 - x0), .ref x2] τ) ∧
    (∀ (a0 : Nat) (a1 : Int32) (a2 : Int32) (a3 : Int32) (x0 : Int32) (x1 : Nat) (τ : St), Ru M_M_signIn d Q 55 [some (.ref a0), some (.int a1), some (.int a2), some (.int a3)] [.int x0, .ref x1] τ = (isA 14 x1 ∧ vp_in x0 (len x1) ∧ Ru M_M_signIn d Q 56 [some (.ref a0), some (.int a1), some (.int a2), some (.int a3)] [.int (τ.1 x1 x0.toNatClampNeg)] τ)) ∧
    (∀ (a0 : Nat) (a1 : Int32) (a2 : Int32) (a3 : Int32) (x0 : Int32) (τ : St), Ru M_M_signIn d Q 56 [some (.ref a0), some (.int a1), some (.int a2), some (.int a3)] [.int x0] τ = Ru M_M_signIn d Q 57 [some (.ref a0), some (.int a1), some (.int a2), some (.int a3)] [.int a1, .int x0] τ) ∧
    (∀ (a0 : Nat) (a1 : Int32) (a2 : Int32) (a3 : Int32) (x0 : Int32) (x1 : Int32) (τ : St), Ru M_M_signIn d Q 57 [some (.ref a0), some (.int a1), some (.int a2), some (.int a3)] [.int x0, .int x1] τ = Ru M_M_signIn d Q 58 [some (.ref a0), some (.int a1), some (.int a2), some (.int a3)] [.int (x1 - x0)] τ) ∧
    (∀ (a0 : Nat) (a1 : Int32) (a2 : Int32) (a3 : Int32) (x0 : Int32) (τ : St), Ru M_M_signIn d Q 58 [some (.ref a0), some (.int a1), some (.int a2), some (.int a3)] [.int x0] τ = Q (some (.int x0)) τ) := ⟨
  fun _ _ _ _ _ => (R_at ok_M_signIn rfl).trans (e_ald rfl),
  fun _ _ _ _ _ _ => (R_at ok_M_signIn rfl).trans e_gI,
  fun _ _ _ _ _ _ => (R_at ok_M_signIn rfl).trans (e_ald rfl),
  fun _ _ _ _ _ _ _ => (R_at ok_M_signIn rfl).trans e_gI,
  fun _ _ _ _ _ _ _ => (R_at ok_M_signIn rfl).trans e_ic,
  fun _ _ _ _ _ => (R_at ok_M_signIn rfl).trans (e_ald rfl),
  fun _ _ _ _ _ _ => (R_at ok_M_signIn rfl).trans e_gR,
  fun _ _ _ _ _ _ => (R_at ok_M_signIn rfl).trans (e_ald rfl),
  fun _ _ _ _ _ _ _ => (R_at ok_M_signIn rfl).trans e_gI,
  fun _ _ _ _ _ _ _ => (R_at ok_M_signIn rfl).trans e_al,
  fun _ _ _ _ _ _ => (R_at ok_M_signIn rfl).trans (e_ild rfl),
  fun _ _ _ _ _ _ _ => (R_at ok_M_signIn rfl).trans e_bin,
  fun _ _ _ _ _ _ => (R_at ok_M_signIn rfl).trans e_il,
  fun _ _ _ _ _ _ => (R_at ok_M_signIn rfl).trans (e_ild rfl),
  fun _ _ _ _ _ _ _ => (R_at ok_M_signIn rfl).trans e_il,
  fun _ _ _ _ _ _ _ => (R_at ok_M_signIn rfl).trans (e_ild rfl),
  fun _ _ _ _ _ _ _ _ => (R_at ok_M_signIn rfl).trans e_il,
  fun _ _ _ _ x0 x1 x2 _ => (R_at ok_M_signIn rfl).trans (e_cs [.long x2, .long x1, .long x0] rfl rfl rfl),
  fun _ _ _ _ _ _ => (R_at ok_M_signIn rfl).trans e_ifn,
  fun _ _ _ _ _ => (R_at ok_M_signIn rfl).trans e_push,
  fun _ _ _ _ _ _ => (R_at ok_M_signIn rfl).trans e_iret,
  fun _ _ _ _ _ => (R_at ok_M_signIn rfl).trans (e_ald rfl),
  fun _ _ _ _ _ _ => (R_at ok_M_signIn rfl).trans (e_dup rfl),
  fun _ _ _ _ _ _ _ => (R_at ok_M_signIn rfl).trans e_gI,
  fun _ _ _ _ _ _ _ => (R_at ok_M_signIn rfl).trans e_push,
  fun _ _ _ _ _ _ _ _ => (R_at ok_M_signIn rfl).trans e_bin,
  fun _ _ _ _ _ _ _ => (R_at ok_M_signIn rfl).trans e_pI,
  fun _ _ _ _ _ => (R_at ok_M_signIn rfl).trans (e_ald rfl),
  fun _ _ _ _ _ _ => (R_at ok_M_signIn rfl).trans e_gR,
  fun _ _ _ _ _ _ => (R_at ok_M_signIn rfl).trans (e_ald rfl),
  fun _ _ _ _ _ _ _ => (R_at ok_M_signIn rfl).trans e_gI,
  fun _ _ _ _ _ _ _ => (R_at ok_M_signIn rfl).trans e_push,
  fun _ _ _ _ _ _ _ _ => (R_at ok_M_signIn rfl).trans e_bin,
  fun _ _ _ _ _ _ _ => (R_at ok_M_signIn rfl).trans e_al,
  fun _ _ _ _ _ _ => (R_at ok_M_signIn rfl).trans (e_ild rfl),
  fun _ _ _ _ _ _ _ => (R_at ok_M_signIn rfl).trans e_bin,
  fun _ _ _ _ _ _ => (R_at ok_M_signIn rfl).trans e_iret⟩
set_option maxHeartbeats 4000000 in
theorem N_M_twoDigits (d : Nat) (Q : Qt) : ∀ (x0 : Nat) (τ : St), Cl (d + 1) m_M_twoDigits [.ref x0] τ Q = Ru M_M_twoDigits d Q 0 [some (.ref x0), none, none] [] τ := fun _ _ => propext ⟨fun h => h.2, fun h => ⟨Nat.le_of_ble_eq_true rfl, h⟩⟩
set_option maxHeartbeats 4000000 in
theorem E_M_twoDigits (d : Nat) (Q : Qt) :
    (∀ (a0 : Nat) (τ : St), Ru M_M_twoDigits d Q 0 [some (.ref a0), none, none] [] τ = Ru M_M_twoDigits d Q 1 [some (.ref a0), none, none] [.ref a0] τ) ∧
    (∀ (a0 : Nat) (x0 : Nat) (τ : St), Ru M_M_twoDigits d Q 1 [some (.ref a0), none, none] [.ref x0] τ = Ru M_M_twoDigits d Q 2 [some (.ref a0), none, none] [.int 1, .ref x0] τ) ∧
    (∀ (a0 : Nat) (x0 : Int32) (x1 : Nat) (τ : St), Ru M_M_twoDigits d Q 2 [some (.ref a0), none, none] [.int x0, .ref x1] τ = (isA 12 x1 ∧ Cl d m_M_number [.ref x1, .int x0] τ (fun v τ' => Ru M_M_twoDigits d Q 5 [some (.ref a0), none, none] (v.toList ++ []) τ'))) ∧
    (∀ (a0 : Nat) (x0 : Int32) (τ : St), Ru M_M_twoDigits d Q 5 [some (.ref a0), none, none] [.int x0] τ = Ru M_M_twoDigits d Q 6 [some (.ref a0), some (.int x0), none] [] τ) ∧
    (∀ (a0 : Nat) (a1 : Int32) (τ : St), Ru M_M_twoDigits d Q 6 [some (.ref a0), some (.int a1), none] [] τ = Ru M_M_twoDigits d Q 7 [some (.ref a0), some (.int a1), none] [.int a1] τ) ∧
    (∀ (a0 : Nat) (a1 : Int32) (x0 : Int32) (τ : St), Ru M_M_twoDigits d Q 7 [some (.ref a0), some (.int a1), none] [.int x0] τ = ((0 ≤ x0 → Ru M_M_twoDigits d Q 14 [some (.ref a0), some (.int a1), none] [] τ) ∧ (¬ 0 ≤ x0 → Ru M_M_twoDigits d Q 10 [some (.ref a0), some (.int a1), none] [] τ))) ∧
    (∀ (a0 : Nat) (a1 : Int32) (τ : St), Ru M_M_twoDigits d Q 10 [some (.ref a0), some (.int a1), none] [] τ = Ru M_M_twoDigits d Q 11 [some (.ref a0), some (.int a1), none] [.int (-1)] τ) ∧
    (∀ (a0 : Nat) (a1 : Int32) (x0 : Int32) (τ : St), Ru M_M_twoDigits d Q 11 [some (.ref a0), some (.int a1), none] [.int x0] τ = Ru M_M_twoDigits d Q 19 [some (.ref a0), some (.int a1), none] [.int x0] τ) ∧
    (∀ (a0 : Nat) (a1 : Int32) (τ : St), Ru M_M_twoDigits d Q 14 [some (.ref a0), some (.int a1), none] [] τ = Ru M_M_twoDigits d Q 15 [some (.ref a0), some (.int a1), none] [.ref a0] τ) ∧
    (∀ (a0 : Nat) (a1 : Int32) (x0 : Nat) (τ : St), Ru M_M_twoDigits d Q 15 [some (.ref a0), some (.int a1), none] [.ref x0] τ = Ru M_M_twoDigits d Q 16 [some (.ref a0), some (.int a1), none] [.int 1, .ref x0] τ) ∧
    (∀ (a0 : Nat) (a1 : Int32) (x0 : Int32) (x1 : Nat) (τ : St), Ru M_M_twoDigits d Q 16 [some (.ref a0), some (.int a1), none] [.int x0, .ref x1] τ = (isA 12 x1 ∧ Cl d m_M_number [.ref x1, .int x0] τ (fun v τ' => Ru M_M_twoDigits d Q 19 [some (.ref a0), some (.int a1), none] (v.toList ++ []) τ'))) ∧
    (∀ (a0 : Nat) (a1 : Int32) (x0 : Int32) (τ : St), Ru M_M_twoDigits d Q 19 [some (.ref a0), some (.int a1), none] [.int x0] τ = Ru M_M_twoDigits d Q 20 [some (.ref a0), some (.int a1), some (.int x0)] [] τ) ∧
    (∀ (a0 : Nat) (a1 : Int32) (a2 : Int32) (τ : St), Ru M_M_twoDigits d Q 20 [some (.ref a0), some (.int a1), some (.int a2)] [] τ = Ru M_M_twoDigits d Q 21 [some (.ref a0), some (.int a1), some (.int a2)] [.int a2] τ) ∧
    (∀ (a0 : Nat) (a1 : Int32) (a2 : Int32) (x0 : Int32) (τ : St), Ru M_M_twoDigits d Q 21 [some (.ref a0), some (.int a1), some (.int a2)] [.int x0] τ = ((0 ≤ x0 → Ru M_M_twoDigits d Q 28 [some (.ref a0), some (.int a1), some (.int a2)] [] τ) ∧ (¬ 0 ≤ x0 → Ru M_M_twoDigits d Q 24 [some (.ref a0), some (.int a1), some (.int a2)] [] τ))) ∧
    (∀ (a0 : Nat) (a1 : Int32) (a2 : Int32) (τ : St), Ru M_M_twoDigits d Q 24 [some (.ref a0), some (.int a1), some (.int a2)] [] τ = Ru M_M_twoDigits d Q 25 [some (.ref a0), some (.int a1), some (.int a2)] [.int (-1)] τ) ∧
    (∀ (a0 : Nat) (a1 : Int32) (a2 : Int32) (x0 : Int32) (τ : St), Ru M_M_twoDigits d Q 25 [some (.ref a0), some (.int a1), some (.int a2)] [.int x0] τ = Ru M_M_twoDigits d Q 34 [some (.ref a0), some (.int a1), some (.int a2)] [.int x0] τ) ∧
    (∀ (a0 : Nat) (a1 : Int32) (a2 : Int32) (τ : St), Ru M_M_twoDigits d Q 28 [some (.ref a0), some (.int a1), some (.int a2)] [] τ = Ru M_M_twoDigits d Q 30 [some (.ref a0), some (.int a1), some (.int a2)] [.int 10] τ) ∧
    (∀ (a0 : Nat) (a1 : Int32) (a2 : Int32) (x0 : Int32) (τ : St), Ru M_M_twoDigits d Q 30 [some (.ref a0), some (.int a1), some (.int a2)] [.int x0] τ = Ru M_M_twoDigits d Q 31 [some (.ref a0), some (.int a1), some (.int a2)] [.int a1, .int x0] τ) ∧
    (∀ (a0 : Nat) (a1 : Int32) (a2 : Int32) (x0 : Int32) (x1 : Int32) (τ : St), Ru M_M_twoDigits d Q 31 [some (.ref a0), some (.int a1), some (.int a2)] [.int x0, .int x1] τ = Ru M_M_twoDigits d Q 32 [some (.ref a0), some (.int a1), some (.int a2)] [.int (x1 * x0)] τ) ∧
    (∀ (a0 : Nat) (a1 : Int32) (a2 : Int32) (x0 : Int32) (τ : St), Ru M_M_twoDigits d Q 32 [some (.ref a0), some (.int a1), some (.int a2)] [.int x0] τ = Ru M_M_twoDigits d Q 33 [some (.ref a0), some (.int a1), some (.int a2)] [.int a2, .int x0] τ) ∧
    (∀ (a0 : Nat) (a1 : Int32) (a2 : Int32) (x0 : Int32) (x1 : Int32) (τ : St), Ru M_M_twoDigits d Q 33 [some (.ref a0), some (.int a1), some (.int a2)] [.int x0, .int x1] τ = Ru M_M_twoDigits d Q 34 [some (.ref a0), some (.int a1), some (.int a2)] [.int (x1 + x0)] τ) ∧
    (∀ (a0 : Nat) (a1 : Int32) (a2 : Int32) (x0 : Int32) (τ : St), Ru M_M_twoDigits d Q 34 [some (.ref a0), some (.int a1), some (.int a2)] [.int x0] τ = Q (some (.int x0)) τ) := ⟨
  fun _ _ => (R_at ok_M_twoDigits rfl).trans (e_ald rfl),
  fun _ _ _ => (R_at ok_M_twoDigits rfl).trans e_push,
  fun _ x0 _ _ => (R_at ok_M_twoDigits rfl).trans (e_cv [.int x0] rfl rfl rfl),
  fun _ _ _ => (R_at ok_M_twoDigits rfl).trans e_ist,
  fun _ _ _ => (R_at ok_M_twoDigits rfl).trans (e_ild rfl),
  fun _ _ _ _ => (R_at ok_M_twoDigits rfl).trans e_if,
  fun _ _ _ => (R_at ok_M_twoDigits rfl).trans e_push,
  fun _ _ _ _ => (R_at ok_M_twoDigits rfl).trans e_goto,
  fun _ _ _ => (R_at ok_M_twoDigits rfl).trans (e_ald rfl),
  fun _ _ _ _ => (R_at ok_M_twoDigits rfl).trans e_push,
  fun _ _ x0 _ _ => (R_at ok_M_twoDigits rfl).trans (e_cv [.int x0] rfl rfl rfl),
  fun _ _ _ _ => (R_at ok_M_twoDigits rfl).trans e_ist,
  fun _ _ _ _ => (R_at ok_M_twoDigits rfl).trans (e_ild rfl),
  fun _ _ _ _ _ => (R_at ok_M_twoDigits rfl).trans e_if,
  fun _ _ _ _ => (R_at ok_M_twoDigits rfl).trans e_push,
  fun _ _ _ _ _ => (R_at ok_M_twoDigits rfl).trans e_goto,
  fun _ _ _ _ => (R_at ok_M_twoDigits rfl).trans e_push,
  fun _ _ _ _ _ => (R_at ok_M_twoDigits rfl).trans (e_ild rfl),
  fun _ _ _ _ _ _ => (R_at ok_M_twoDigits rfl).trans e_bin,
  fun _ _ _ _ _ => (R_at ok_M_twoDigits rfl).trans (e_ild rfl),
  fun _ _ _ _ _ _ => (R_at ok_M_twoDigits rfl).trans e_bin,
  fun _ _ _ _ _ => (R_at ok_M_twoDigits rfl).trans e_iret⟩
set_option maxHeartbeats 4000000 in
theorem N_M_faultOf (d : Nat) (Q : Qt) : ∀ (x0 : Nat) (x1 : Int32) (x2 : Int32) (x3 : Int32) (τ : St), Cl (d + 1) m_M_faultOf [.ref x0, .int x1, .int x2, .int x3] τ Q = Ru M_M_faultOf d Q 0 [some (.ref x0), some (.int x1), some (.int x2), some (.int x3), none] [] τ := fun _ _ _ _ _ => propext ⟨fun h => h.2, fun h => ⟨Nat.le_of_ble_eq_true rfl, h⟩⟩
set_option maxHeartbeats 4000000 in
theorem E_M_faultOf (d : Nat) (Q : Qt) :
    (∀ (a0 : Nat) (a1 : Int32) (a2 : Int32) (a3 : Int32) (τ : St), Ru M_M_faultOf d Q 0 [some (.ref a0), some (.int a1), some (.int a2), some (.int a3), none] [] τ = Ru M_M_faultOf d Q 1 [some (.ref a0), some (.int a1), some (.int a2), some (.int a3), none] [.int a3] τ) ∧
    (∀ (a0 : Nat) (a1 : Int32) (a2 : Int32) (a3 : Int32) (x0 : Int32) (τ : St), Ru M_M_faultOf d Q 1 [some (.ref a0), some (.int a1), some (.int a2), some (.int a3), none] [.int x0] τ = ((x0 = 0 → Ru M_M_faultOf d Q 19 [some (.ref a0), some (.int a1), some (.int a2), some (.int a3), none] [] τ) ∧ (¬ x0 = 0 → Ru M_M_faultOf d Q 4 [some (.ref a0), some (.int a1), some (.int a2), some (.int a3), none] [] τ))) ∧
    (∀ (a0 : Nat) (a1 : Int32) (a2 : Int32) (a3 : Int32) (τ : St), Ru M_M_faultOf d Q 4 [some (.ref a0), some (.int a1), some (.int a2), some (.int a3), none] [] τ = Ru M_M_faultOf d Q 5 [some (.ref a0), some (.int a1), some (.int a2), some (.int a3), none] [.ref a0] τ) ∧
    (∀ (a0 : Nat) (a1 : Int32) (a2 : Int32) (a3 : Int32) (x0 : Nat) (τ : St), Ru M_M_faultOf d Q 5 [some (.ref a0), some (.int a1), some (.int a2), some (.int a3), none] [.ref x0] τ = (isA 12 x0 ∧ Ru M_M_faultOf d Q 8 [some (.ref a0), some (.int a1), some (.int a2), some (.int a3), none] [.int (τ.1 x0 15)] τ)) ∧
    (∀ (a0 : Nat) (a1 : Int32) (a2 : Int32) (a3 : Int32) (x0 : Int32) (τ : St), Ru M_M_faultOf d Q 8 [some (.ref a0), some (.int a1), some (.int a2), some (.int a3), none] [.int x0] τ = Ru M_M_faultOf d Q 9 [some (.ref a0), some (.int a1), some (.int a2), some (.int a3), none] [.ref a0, .int x0] τ) ∧
    (∀ (a0 : Nat) (a1 : Int32) (a2 : Int32) (a3 : Int32) (x0 : Nat) (x1 : Int32) (τ : St), Ru M_M_faultOf d Q 9 [some (.ref a0), some (.int a1), some (.int a2), some (.int a3), none] [.ref x0, .int x1] τ = (isA 12 x0 ∧ Ru M_M_faultOf d Q 12 [some (.ref a0), some (.int a1), some (.int a2), some (.int a3), none] [.int (τ.1 x0 16), .int x1] τ)) ∧
    (∀ (a0 : Nat) (a1 : Int32) (a2 : Int32) (a3 : Int32) (x0 : Int32) (x1 : Int32) (τ : St), Ru M_M_faultOf d Q 12 [some (.ref a0), some (.int a1), some (.int a2), some (.int a3), none] [.int x0, .int x1] τ = ((¬ x1 = x0 → Ru M_M_faultOf d Q 19 [some (.ref a0), some (.int a1), some (.int a2), some (.int a3), none] [] τ) ∧ (x1 = x0 → Ru M_M_faultOf d Q 15 [some (.ref a0), some (.int a1), some (.int a2), some (.int a3), none] [] τ))) ∧
    (∀ (a0 : Nat) (a1 : Int32) (a2 : Int32) (a3 : Int32) (τ : St), Ru M_M_faultOf d Q 15 [some (.ref a0), some (.int a1), some (.int a2), some (.int a3), none] [] τ = Ru M_M_faultOf d Q 16 [some (.ref a0), some (.int a1), some (.int a2), some (.int a3), none] [.int 1] τ) ∧
    (∀ (a0 : Nat) (a1 : Int32) (a2 : Int32) (a3 : Int32) (x0 : Int32) (τ : St), Ru M_M_faultOf d Q 16 [some (.ref a0), some (.int a1), some (.int a2), some (.int a3), none] [.int x0] τ = Ru M_M_faultOf d Q 20 [some (.ref a0), some (.int a1), some (.int a2), some (.int a3), none] [.int x0] τ) ∧
    (∀ (a0 : Nat) (a1 : Int32) (a2 : Int32) (a3 : Int32) (τ : St), Ru M_M_faultOf d Q 19 [some (.ref a0), some (.int a1), some (.int a2), some (.int a3), none] [] τ = Ru M_M_faultOf d Q 20 [some (.ref a0), some (.int a1), some (.int a2), some (.int a3), none] [.int 0] τ) ∧
    (∀ (a0 : Nat) (a1 : Int32) (a2 : Int32) (a3 : Int32) (x0 : Int32) (τ : St), Ru M_M_faultOf d Q 20 [some (.ref a0), some (.int a1), some (.int a2), some (.int a3), none] [.int x0] τ = Ru M_M_faultOf d Q 22 [some (.ref a0), some (.int a1), some (.int a2), some (.int a3), some (.int x0)] [] τ) ∧
    (∀ (a0 : Nat) (a1 : Int32) (a2 : Int32) (a3 : Int32) (a4 : Int32) (τ : St), Ru M_M_faultOf d Q 22 [some (.ref a0), some (.int a1), some (.int a2), some (.int a3), some (.int a4)] [] τ = Ru M_M_faultOf d Q 23 [some (.ref a0), some (.int a1), some (.int a2), some (.int a3), some (.int a4)] [.int a1] τ) ∧
    (∀ (a0 : Nat) (a1 : Int32) (a2 : Int32) (a3 : Int32) (a4 : Int32) (x0 : Int32) (τ : St), Ru M_M_faultOf d Q 23 [some (.ref a0), some (.int a1), some (.int a2), some (.int a3), some (.int a4)] [.int x0] τ = Ru M_M_faultOf d Q 24 [some (.ref a0), some (.int a1), some (.int a2), some (.int a3), some (.int a4)] [.int a2, .int x0] τ) ∧
    (∀ (a0 : Nat) (a1 : Int32) (a2 : Int32) (a3 : Int32) (a4 : Int32) (x0 : Int32) (x1 : Int32) (τ : St), Ru M_M_faultOf d Q 24 [some (.ref a0), some (.int a1), some (.int a2), some (.int a3), some (.int a4)] [.int x0, .int x1] τ = ((x1 ≤ x0 → Ru M_M_faultOf d Q 44 [some (.ref a0), some (.int a1), some (.int a2), some (.int a3), some (.int a4)] [] τ) ∧ (¬ x1 ≤ x0 → Ru M_M_faultOf d Q 27 [some (.ref a0), some (.int a1), some (.int a2), some (.int a3), some (.int a4)] [] τ))) ∧
    (∀ (a0 : Nat) (a1 : Int32) (a2 : Int32) (a3 : Int32) (a4 : Int32) (τ : St), Ru M_M_faultOf d Q 27 [some (.ref a0), some (.int a1), some (.int a2), some (.int a3), some (.int a4)] [] τ = Ru M_M_faultOf d Q 29 [some (.ref a0), some (.int a1), some (.int a2), some (.int a3), some (.int a4)] [.int a4] τ) ∧
    (∀ (a0 : Nat) (a1 : Int32) (a2 : Int32) (a3 : Int32) (a4 : Int32) (x0 : Int32) (τ : St), Ru M_M_faultOf d Q 29 [some (.ref a0), some (.int a1), some (.int a2), some (.int a3), some (.int a4)] [.int x0] τ = ((¬ x0 = 0 → Ru M_M_faultOf d Q 40 [some (.ref a0), some (.int a1), some (.int a2), some (.int a3), some (.int a4)] [] τ) ∧ (x0 = 0 → Ru M_M_faultOf d Q 32 [some (.ref a0), some (.int a1), some (.int a2), some (.int a3), some (.int a4)] [] τ))) ∧
    (∀ (a0 : Nat) (a1 : Int32) (a2 : Int32) (a3 : Int32) (a4 : Int32) (τ : St), Ru M_M_faultOf d Q 32 [some (.ref a0), some (.int a1), some (.int a2), some (.int a3), some (.int a4)] [] τ = Ru M_M_faultOf d Q 33 [some (.ref a0), some (.int a1), some (.int a2), some (.int a3), some (.int a4)] [.ref a0] τ) ∧
    (∀ (a0 : Nat) (a1 : Int32) (a2 : Int32) (a3 : Int32) (a4 : Int32) (x0 : Nat) (τ : St), Ru M_M_faultOf d Q 33 [some (.ref a0), some (.int a1), some (.int a2), some (.int a3), some (.int a4)] [.ref x0] τ = (isA 12 x0 ∧ Ru M_M_faultOf d Q 36 [some (.ref a0), some (.int a1), some (.int a2), some (.int a3), some (.int a4)] [.int (τ.1 x0 15)] τ)) ∧
    (∀ (a0 : Nat) (a1 : Int32) (a2 : Int32) (a3 : Int32) (a4 : Int32) (x0 : Int32) (τ : St), Ru M_M_faultOf d Q 36 [some (.ref a0), some (.int a1), some (.int a2), some (.int a3), some (.int a4)] [.int x0] τ = Ru M_M_faultOf d Q 37 [some (.ref a0), some (.int a1), some (.int a2), some (.int a3), some (.int a4)] [.int a2, .int x0] τ) ∧
    (∀ (a0 : Nat) (a1 : Int32) (a2 : Int32) (a3 : Int32) (a4 : Int32) (x0 : Int32) (x1 : Int32) (τ : St), Ru M_M_faultOf d Q 37 [some (.ref a0), some (.int a1), some (.int a2), some (.int a3), some (.int a4)] [.int x0, .int x1] τ = ((x1 < x0 → Ru M_M_faultOf d Q 44 [some (.ref a0), some (.int a1), some (.int a2), some (.int a3), some (.int a4)] [] τ) ∧ (¬ x1 < x0 → Ru M_M_faultOf d Q 40 [some (.ref a0), some (.int a1), some (.int a2), some (.int a3), some (.int a4)] [] τ))) ∧
    (∀ (a0 : Nat) (a1 : Int32) (a2 : Int32) (a3 : Int32) (a4 : Int32) (τ : St), Ru M_M_faultOf d Q 40 [some (.ref a0), some (.int a1), some (.int a2), some (.int a3), some (.int a4)] [] τ = Ru M_M_faultOf d Q 41 [some (.ref a0), some (.int a1), some (.int a2), some (.int a3), some (.int a4)] [.int (-1)] τ) ∧
    (∀ (a0 : Nat) (a1 : Int32) (a2 : Int32) (a3 : Int32) (a4 : Int32) (x0 : Int32) (τ : St), Ru M_M_faultOf d Q 41 [some (.ref a0), some (.int a1), some (.int a2), some (.int a3), some (.int a4)] [.int x0] τ = Ru M_M_faultOf d Q 42 [some (.ref a0), some (.int a1), some (.int a2), some (.int a3), some (.int a4)] [.int a2, .int x0] τ) ∧
    (∀ (a0 : Nat) (a1 : Int32) (a2 : Int32) (a3 : Int32) (a4 : Int32) (x0 : Int32) (x1 : Int32) (τ : St), Ru M_M_faultOf d Q 42 [some (.ref a0), some (.int a1), some (.int a2), some (.int a3), some (.int a4)] [.int x0, .int x1] τ = Ru M_M_faultOf d Q 43 [some (.ref a0), some (.int a1), some (.int a2), some (.int a3), some (.int a4)] [.int (x1 - x0)] τ) ∧
    (∀ (a0 : Nat) (a1 : Int32) (a2 : Int32) (a3 : Int32) (a4 : Int32) (x0 : Int32) (τ : St), Ru M_M_faultOf d Q 43 [some (.ref a0), some (.int a1), some (.int a2), some (.int a3), some (.int a4)] [.int x0] τ = Q (some (.int x0)) τ) ∧
    (∀ (a0 : Nat) (a1 : Int32) (a2 : Int32) (a3 : Int32) (a4 : Int32) (τ : St), Ru M_M_faultOf d Q 44 [some (.ref a0), some (.int a1), some (.int a2), some (.int a3), some (.int a4)] [] τ = Ru M_M_faultOf d Q 46 [some (.ref a0), some (.int a1), some (.int a2), some (.int a3), some (.int a4)] [.int a4] τ) ∧
    (∀ (a0 : Nat) (a1 : Int32) (a2 : Int32) (a3 : Int32) (a4 : Int32) (x0 : Int32) (τ : St), Ru M_M_faultOf d Q 46 [some (.ref a0), some (.int a1), some (.int a2), some (.int a3), some (.int a4)] [.int x0] τ = ((x0 = 0 → Ru M_M_faultOf d Q 53 [some (.ref a0), some (.int a1), some (.int a2), some (.int a3), some (.int a4)] [] τ) ∧ (¬ x0 = 0 → Ru M_M_faultOf d Q 49 [some (.ref a0), some (.int a1), some (.int a2), some (.int a3), some (.int a4)] [] τ))) ∧
    (∀ (a0 : Nat) (a1 : Int32) (a2 : Int32) (a3 : Int32) (a4 : Int32) (τ : St), Ru M_M_faultOf d Q 49 [some (.ref a0), some (.int a1), some (.int a2), some (.int a3), some (.int a4)] [] τ = Ru M_M_faultOf d Q 50 [some (.ref a0), some (.int a1), some (.int a2), some (.int a3), some (.int a4)] [.int 0] τ) ∧
    (∀ (a0 : Nat) (a1 : Int32) (a2 : Int32) (a3 : Int32) (a4 : Int32) (x0 : Int32) (τ : St), Ru M_M_faultOf d Q 50 [some (.ref a0), some (.int a1), some (.int a2), some (.int a3), some (.int a4)] [.int x0] τ = Ru M_M_faultOf d Q 59 [some (.ref a0), some (.int a1), some (.int a2), some (.int a3), some (.int a4)] [.int x0] τ) ∧
    (∀ (a0 : Nat) (a1 : Int32) (a2 : Int32) (a3 : Int32) (a4 : Int32) (τ : St), Ru M_M_faultOf d Q 53 [some (.ref a0), some (.int a1), some (.int a2), some (.int a3), some (.int a4)] [] τ = Ru M_M_faultOf d Q 54 [some (.ref a0), some (.int a1), some (.int a2), some (.int a3), some (.int a4)] [.int (-1)] τ) ∧
    (∀ (a0 : Nat) (a1 : Int32) (a2 : Int32) (a3 : Int32) (a4 : Int32) (x0 : Int32) (τ : St), Ru M_M_faultOf d Q 54 [some (.ref a0), some (.int a1), some (.int a2), some (.int a3), some (.int a4)] [.int x0] τ = Ru M_M_faultOf d Q 55 [some (.ref a0), some (.int a1), some (.int a2), some (.int a3), some (.int a4)] [.ref a0, .int x0] τ) ∧
    (∀ (a0 : Nat) (a1 : Int32) (a2 : Int32) (a3 : Int32) (a4 : Int32) (x0 : Nat) (x1 : Int32) (τ : St), Ru M_M_faultOf d Q 55 [some (.ref a0), some (.int a1), some (.int a2), some (.int a3), some (.int a4)] [.ref x0, .int x1] τ = (isA 12 x0 ∧ Ru M_M_faultOf d Q 58 [some (.ref a0), some (.int a1), some (.int a2), some (.int a3), some (.int a4)] [.int (τ.1 x0 15), .int x1] τ)) ∧
    (∀ (a0 : Nat) (a1 : Int32) (a2 : Int32) (a3 : Int32) (a4 : Int32) (x0 : Int32) (x1 : Int32) (τ : St), Ru M_M_faultOf d Q 58 [some (.ref a0), some (.int a1), some (.int a2), some (.int a3), some (.int a4)] [.int x0, .int x1] τ = Ru M_M_faultOf d Q 59 [some (.ref a0), some (.int a1), some (.int a2), some (.int a3), some (.int a4)] [.int (x1 - x0)] τ) ∧
    (∀ (a0 : Nat) (a1 : Int32) (a2 : Int32) (a3 : Int32) (a4 : Int32) (x0 : Int32) (τ : St), Ru M_M_faultOf d Q 59 [some (.ref a0), some (.int a1), some (.int a2), some (.int a3), some (.int a4)] [.int x0] τ = Q (some (.int x0)) τ) := ⟨
  fun _ _ _ _ _ => (R_at ok_M_faultOf rfl).trans (e_ild rfl),
  fun _ _ _ _ _ _ => (R_at ok_M_faultOf rfl).trans e_if,
  fun _ _ _ _ _ => (R_at ok_M_faultOf rfl).trans (e_ald rfl),
  fun _ _ _ _ _ _ => (R_at ok_M_faultOf rfl).trans e_gI,
  fun _ _ _ _ _ _ => (R_at ok_M_faultOf rfl).trans (e_ald rfl),
  fun _ _ _ _ _ _ _ => (R_at ok_M_faultOf rfl).trans e_gI,
  fun _ _ _ _ _ _ _ => (R_at ok_M_faultOf rfl).trans e_icn,
  fun _ _ _ _ _ => (R_at ok_M_faultOf rfl).trans e_push,
  fun _ _ _ _ _ _ => (R_at ok_M_faultOf rfl).trans e_goto,
  fun _ _ _ _ _ => (R_at ok_M_faultOf rfl).trans e_push,
  fun _ _ _ _ _ _ => (R_at ok_M_faultOf rfl).trans e_ist,
  fun _ _ _ _ _ _ => (R_at ok_M_faultOf rfl).trans (e_ild rfl),
  fun _ _ _ _ _ _ _ => (R_at ok_M_faultOf rfl).trans (e_ild rfl),
  fun _ _ _ _ _ _ _ _ => (R_at ok_M_faultOf rfl).trans e_ic,
  fun _ _ _ _ _ _ => (R_at ok_M_faultOf rfl).trans (e_ild rfl),
  fun _ _ _ _ _ _ _ => (R_at ok_M_faultOf rfl).trans e_ifn,
  fun _ _ _ _ _ _ => (R_at ok_M_faultOf rfl).trans (e_ald rfl),
  fun _ _ _ _ _ _ _ => (R_at ok_M_faultOf rfl).trans e_gI,
  fun _ _ _ _ _ _ _ => (R_at ok_M_faultOf rfl).trans (e_ild rfl),
  fun _ _ _ _ _ _ _ _ => (R_at ok_M_faultOf rfl).trans e_ic,
  fun _ _ _ _ _ _ => (R_at ok_M_faultOf rfl).trans e_push,
  fun _ _ _ _ _ _ _ => (R_at ok_M_faultOf rfl).trans (e_ild rfl),
  fun _ _ _ _ _ _ _ _ => (R_at ok_M_faultOf rfl).trans e_bin,
  fun _ _ _ _ _ _ _ => (R_at ok_M_faultOf rfl).trans e_iret,
  fun _ _ _ _ _ _ => (R_at ok_M_faultOf rfl).trans (e_ild rfl),
  fun _ _ _ _ _ _ _ => (R_at ok_M_faultOf rfl).trans e_if,
  fun _ _ _ _ _ _ => (R_at ok_M_faultOf rfl).trans e_push,
  fun _ _ _ _ _ _ _ => (R_at ok_M_faultOf rfl).trans e_goto,
  fun _ _ _ _ _ _ => (R_at ok_M_faultOf rfl).trans e_push,
  fun _ _ _ _ _ _ _ => (R_at ok_M_faultOf rfl).trans (e_ald rfl),
  fun _ _ _ _ _ _ _ _ => (R_at ok_M_faultOf rfl).trans e_gI,
  fun _ _ _ _ _ _ _ _ => (R_at ok_M_faultOf rfl).trans e_bin,
  fun _ _ _ _ _ _ _ => (R_at ok_M_faultOf rfl).trans e_iret⟩
set_option maxHeartbeats 4000000 in
theorem N_M_readsRow (d : Nat) (Q : Qt) : ∀ (x0 : Nat) (x1 : Int32) (τ : St), Cl (d + 1) m_M_readsRow [.ref x0, .int x1] τ Q = Ru M_M_readsRow d Q 0 [some (.ref x0), some (.int x1), none, none, none] [] τ := fun _ _ _ => propext ⟨fun h => h.2, fun h => ⟨Nat.le_of_ble_eq_true rfl, h⟩⟩
set_option maxHeartbeats 4000000 in
theorem E_M_readsRow (d : Nat) (Q : Qt) :
    (∀ (a0 : Nat) (a1 : Int32) (τ : St), Ru M_M_readsRow d Q 0 [some (.ref a0), some (.int a1), none, none, none] [] τ = Ru M_M_readsRow d Q 1 [some (.ref a0), some (.int a1), none, none, none] [.int a1] τ) ∧
    (∀ (a0 : Nat) (a1 : Int32) (x0 : Int32) (τ : St), Ru M_M_readsRow d Q 1 [some (.ref a0), some (.int a1), none, none, none] [.int x0] τ = ((¬ x0 = 0 → Ru M_M_readsRow d Q 9 [some (.ref a0), some (.int a1), none, none, none] [] τ) ∧ (x0 = 0 → Ru M_M_readsRow d Q 4 [some (.ref a0), some (.int a1), none, none, none] [] τ))) ∧
    (∀ (a0 : Nat) (a1 : Int32) (τ : St), Ru M_M_readsRow d Q 4 [some (.ref a0), some (.int a1), none, none, none] [] τ = Ru M_M_readsRow d Q 6 [some (.ref a0), some (.int a1), none, none, none] [.int 6] τ) ∧
    (∀ (a0 : Nat) (a1 : Int32) (x0 : Int32) (τ : St), Ru M_M_readsRow d Q 6 [some (.ref a0), some (.int a1), none, none, none] [.int x0] τ = Ru M_M_readsRow d Q 13 [some (.ref a0), some (.int a1), none, none, none] [.int x0] τ) ∧
    (∀ (a0 : Nat) (a1 : Int32) (τ : St), Ru M_M_readsRow d Q 9 [some (.ref a0), some (.int a1), none, none, none] [] τ = Ru M_M_readsRow d Q 10 [some (.ref a0), some (.int a1), none, none, none] [.ref a0] τ) ∧
    (∀ (a0 : Nat) (a1 : Int32) (x0 : Nat) (τ : St), Ru M_M_readsRow d Q 10 [some (.ref a0), some (.int a1), none, none, none] [.ref x0] τ = (isA 12 x0 ∧ Ru M_M_readsRow d Q 13 [some (.ref a0), some (.int a1), none, none, none] [.int (τ.1 x0 19)] τ)) ∧
    (∀ (a0 : Nat) (a1 : Int32) (x0 : Int32) (τ : St), Ru M_M_readsRow d Q 13 [some (.ref a0), some (.int a1), none, none, none] [.int x0] τ = Ru M_M_readsRow d Q 14 [some (.ref a0), some (.int a1), some (.int x0), none, none] [] τ) ∧
    (∀ (a0 : Nat) (a1 : Int32) (a2 : Int32) (τ : St), Ru M_M_readsRow d Q 14 [some (.ref a0), some (.int a1), some (.int a2), none, none] [] τ = Ru M_M_readsRow d Q 15 [some (.ref a0), some (.int a1), some (.int a2), none, none] [.int 0] τ) ∧
    (∀ (a0 : Nat) (a1 : Int32) (a2 : Int32) (x0 : Int32) (τ : St), Ru M_M_readsRow d Q 15 [some (.ref a0), some (.int a1), some (.int a2), none, none] [.int x0] τ = Ru M_M_readsRow d Q 16 [some (.ref a0), some (.int a1), some (.int a2), some (.int x0), none] [] τ) ∧
    (∀ (a0 : Nat) (a1 : Int32) (a2 : Int32) (a3 : Int32) (τ : St), Ru M_M_readsRow d Q 16 [some (.ref a0), some (.int a1), some (.int a2), some (.int a3), none] [] τ = Ru M_M_readsRow d Q 17 [some (.ref a0), some (.int a1), some (.int a2), some (.int a3), none] [.ref a0] τ) ∧
    (∀ (a0 : Nat) (a1 : Int32) (a2 : Int32) (a3 : Int32) (x0 : Nat) (τ : St), Ru M_M_readsRow d Q 17 [some (.ref a0), some (.int a1), some (.int a2), some (.int a3), none] [.ref x0] τ = Ru M_M_readsRow d Q 19 [some (.ref a0), some (.int a1), some (.int a2), some (.int a3), none] [.ref (1000 + 0), .ref x0] τ) ∧
    (∀ (a0 : Nat) (a1 : Int32) (a2 : Int32) (a3 : Int32) (x0 : Nat) (x1 : Nat) (τ : St), Ru M_M_readsRow d Q 19 [some (.ref a0), some (.int a1), some (.int a2), some (.int a3), none] [.ref (1000 + x0), .ref x1] τ = (isA 12 x1 ∧ Cl d m_M_among [.ref x1, .ref (1000 + x0)] τ (fun v τ' => Ru M_M_readsRow d Q 22 [some (.ref a0), some (.int a1), some (.int a2), some (.int a3), none] (v.toList ++ []) τ'))) ∧
    (∀ (a0 : Nat) (a1 : Int32) (a2 : Int32) (a3 : Int32) (x0 : Int32) (τ : St), Ru M_M_readsRow d Q 22 [some (.ref a0), some (.int a1), some (.int a2), some (.int a3), none] [.int x0] τ = Rs M_M_readsRow d Q 24 [some (.ref a0), some (.int a1), some (.int a2), some (.int a3), some (.int x0)] [] τ) ∧
    (∀ (a0 : Nat) (a1 : Int32) (a2 : Int32) (a3 : Int32) (a4 : Int32) (τ : St), Ru M_M_readsRow d Q 24 [some (.ref a0), some (.int a1), some (.int a2), some (.int a3), some (.int a4)] [] τ = Ru M_M_readsRow d Q 25 [some (.ref a0), some (.int a1), some (.int a2), some (.int a3), some (.int a4)] [.int a3] τ) ∧
    (∀ (a0 : Nat) (a1 : Int32) (a2 : Int32) (a3 : Int32) (a4 : Int32) (x0 : Int32) (τ : St), Ru M_M_readsRow d Q 25 [some (.ref a0), some (.int a1), some (.int a2), some (.int a3), some (.int a4)] [.int x0] τ = Ru M_M_readsRow d Q 26 [some (.ref a0), some (.int a1), some (.int a2), some (.int a3), some (.int a4)] [.int a2, .int x0] τ) ∧
    (∀ (a0 : Nat) (a1 : Int32) (a2 : Int32) (a3 : Int32) (a4 : Int32) (x0 : Int32) (x1 : Int32) (τ : St), Ru M_M_readsRow d Q 26 [some (.ref a0), some (.int a1), some (.int a2), some (.int a3), some (.int a4)] [.int x0, .int x1] τ = ((x0 ≤ x1 → Ru M_M_readsRow d Q 73 [some (.ref a0), some (.int a1), some (.int a2), some (.int a3), some (.int a4)] [] τ) ∧ (¬ x0 ≤ x1 → Ru M_M_readsRow d Q 29 [some (.ref a0), some (.int a1), some (.int a2), some (.int a3), some (.int a4)] [] τ))) ∧
    (∀ (a0 : Nat) (a1 : Int32) (a2 : Int32) (a3 : Int32) (a4 : Int32) (τ : St), Ru M_M_readsRow d Q 29 [some (.ref a0), some (.int a1), some (.int a2), some (.int a3), some (.int a4)] [] τ = Ru M_M_readsRow d Q 31 [some (.ref a0), some (.int a1), some (.int a2), some (.int a3), some (.int a4)] [.int a4] τ) ∧
    (∀ (a0 : Nat) (a1 : Int32) (a2 : Int32) (a3 : Int32) (a4 : Int32) (x0 : Int32) (τ : St), Ru M_M_readsRow d Q 31 [some (.ref a0), some (.int a1), some (.int a2), some (.int a3), some (.int a4)] [.int x0] τ = ((x0 < 0 → Ru M_M_readsRow d Q 73 [some (.ref a0), some (.int a1), some (.int a2), some (.int a3), some (.int a4)] [] τ) ∧ (¬ x0 < 0 → Ru M_M_readsRow d Q 34 [some (.ref a0), some (.int a1), some (.int a2), some (.int a3), some (.int a4)] [] τ))) ∧
    (∀ (a0 : Nat) (a1 : Int32) (a2 : Int32) (a3 : Int32) (a4 : Int32) (τ : St), Ru M_M_readsRow d Q 34 [some (.ref a0), some (.int a1), some (.int a2), some (.int a3), some (.int a4)] [] τ = Ru M_M_readsRow d Q 35 [some (.ref a0), some (.int a1), some (.int a2), some (.int a3), some (.int a4)] [.ref a0] τ) ∧
    (∀ (a0 : Nat) (a1 : Int32) (a2 : Int32) (a3 : Int32) (a4 : Int32) (x0 : Nat) (τ : St), Ru M_M_readsRow d Q 35 [some (.ref a0), some (.int a1), some (.int a2), some (.int a3), some (.int a4)] [.ref x0] τ = Ru M_M_readsRow d Q 36 [some (.ref a0), some (.int a1), some (.int a2), some (.int a3), some (.int a4)] [.ref x0, .ref x0] τ) ∧
    (∀ (a0 : Nat) (a1 : Int32) (a2 : Int32) (a3 : Int32) (a4 : Int32) (x0 : Nat) (x1 : Nat) (τ : St), Ru M_M_readsRow d Q 36 [some (.ref a0), some (.int a1), some (.int a2), some (.int a3), some (.int a4)] [.ref x0, .ref x1] τ = (isA 12 x0 ∧ Ru M_M_readsRow d Q 39 [some (.ref a0), some (.int a1), some (.int a2), some (.int a3), some (.int a4)] [.int (τ.1 x0 15), .ref x1] τ)) ∧
    (∀ (a0 : Nat) (a1 : Int32) (a2 : Int32) (a3 : Int32) (a4 : Int32) (x0 : Int32) (x1 : Nat) (τ : St), Ru M_M_readsRow d Q 39 [some (.ref a0), some (.int a1), some (.int a2), some (.int a3), some (.int a4)] [.int x0, .ref x1] τ = Ru M_M_readsRow d Q 40 [some (.ref a0), some (.int a1), some (.int a2), some (.int a3), some (.int a4)] [.int 1, .int x0, .ref x1] τ) ∧
    (∀ (a0 : Nat) (a1 : Int32) (a2 : Int32) (a3 : Int32) (a4 : Int32) (x0 : Int32) (x1 : Int32) (x2 : Nat) (τ : St), Ru M_M_readsRow d Q 40 [some (.ref a0), some (.int a1), some (.int a2), some (.int a3), some (.int a4)] [.int x0, .int x1, .ref x2] τ = Ru M_M_readsRow d Q 41 [some (.ref a0), some (.int a1), some (.int a2), some (.int a3), some (.int a4)] [.int (x1 + x0), .ref x2] τ) ∧
    (∀ (a0 : Nat) (a1 : Int32) (a2 : Int32) (a3 : Int32) (a4 : Int32) (x0 : Int32) (x1 : Nat) (τ : St), Ru M_M_readsRow d Q 41 [some (.ref a0), some (.int a1), some (.int a2), some (.int a3), some (.int a4)] [.int x0, .ref x1] τ = (isA 12 x1 ∧ Ru M_M_readsRow d Q 44 [some (.ref a0), some (.int a1), some (.int a2), some (.int a3), some (.int a4)] [] (sI τ x1 15 x0))) ∧
    (∀ (a0 : Nat) (a1 : Int32) (a2 : Int32) (a3 : Int32) (a4 : Int32) (τ : St), Ru M_M_readsRow d Q 44 [some (.ref a0), some (.int a1), some (.int a2), some (.int a3), some (.int a4)] [] τ = Ru M_M_readsRow d Q 45 [some (.ref a0), some (.int a1), some (.int a2), some (.int a3), some (.int a4)] [.ref a0] τ) ∧
    (∀ (a0 : Nat) (a1 : Int32) (a2 : Int32) (a3 : Int32) (a4 : Int32) (x0 : Nat) (τ : St), Ru M_M_readsRow d Q 45 [some (.ref a0), some (.int a1), some (.int a2), some (.int a3), some (.int a4)] [.ref x0] τ = (isA 12 x0 ∧ Ru M_M_readsRow d Q 48 [some (.ref a0), some (.int a1), some (.int a2), some (.int a3), some (.int a4)] [.ref (rtab x0 18)] τ)) ∧
    (∀ (a0 : Nat) (a1 : Int32) (a2 : Int32) (a3 : Int32) (a4 : Int32) (x0 : Nat) (τ : St), Ru M_M_readsRow d Q 48 [some (.ref a0), some (.int a1), some (.int a2), some (.int a3), some (.int a4)] [.ref x0] τ = Ru M_M_readsRow d Q 49 [some (.ref a0), some (.int a1), some (.int a2), some (.int a3), some (.int a4)] [.ref a0, .ref x0] τ) ∧
    (∀ (a0 : Nat) (a1 : Int32) (a2 : Int32) (a3 : Int32) (a4 : Int32) (x0 : Nat) (x1 : Nat) (τ : St), Ru M_M_readsRow d Q 49 [some (.ref a0), some (.int a1), some (.int a2), some (.int a3), some (.int a4)] [.ref x0, .ref x1] τ = (isA 12 x0 ∧ Ru M_M_readsRow d Q 52 [some (.ref a0), some (.int a1), some (.int a2), some (.int a3), some (.int a4)] [.int (τ.1 x0 19), .ref x1] τ)) ∧
    (∀ (a0 : Nat) (a1 : Int32) (a2 : Int32) (a3 : Int32) (a4 : Int32) (x0 : Int32) (x1 : Nat) (τ : St), Ru M_M_readsRow d Q 52 [some (.ref a0), some (.int a1), some (.int a2), some (.int a3), some (.int a4)] [.int x0, .ref x1] τ = Ru M_M_readsRow d Q 53 [some (.ref a0), some (.int a1), some (.int a2), some (.int a3), some (.int a4)] [.int a1, .int x0, .ref x1] τ) ∧
    (∀ (a0 : Nat) (a1 : Int32) (a2 : Int32) (a3 : Int32) (a4 : Int32) (x0 : Int32) (x1 : Int32) (x2 : Nat) (τ : St), Ru M_M_readsRow d Q 53 [some (.ref a0), some (.int a1), some (.int a2), some (.int a3), some (.int a4)] [.int x0, .int x1, .ref x2] τ = Ru M_M_readsRow d Q 54 [some (.ref a0), some (.int a1), some (.int a2), some (.int a3), some (.int a4)] [.int (x1 * x0), .ref x2] τ) ∧
    (∀ (a0 : Nat) (a1 : Int32) (a2 : Int32) (a3 : Int32) (a4 : Int32) (x0 : Int32) (x1 : Nat) (τ : St), Ru M_M_readsRow d Q 54 [some (.ref a0), some (.int a1), some (.int a2), some (.int a3), some (.int a4)] [.int x0, .ref x1] τ = Ru M_M_readsRow d Q 55 [some (.ref a0), some (.int a1), some (.int a2), some (.int a3), some (.int a4)] [.int a3, .int x0, .ref x1] τ) ∧
    (∀ (a0 : Nat) (a1 : Int32) (a2 : Int32) (a3 : Int32) (a4 : Int32) (x0 : Int32) (x1 : Int32) (x2 : Nat) (τ : St), Ru M_M_readsRow d Q 55 [some (.ref a0), some (.int a1), some (.int a2), some (.int a3), some (.int a4)] [.int x0, .int x1, .ref x2] τ = Ru M_M_readsRow d Q 56 [some (.ref a0), some (.int a1), some (.int a2), some (.int a3), some (.int a4)] [.int (x1 + x0), .ref x2] τ) ∧
    (∀ (a0 : Nat) (a1 : Int32) (a2 : Int32) (a3 : Int32) (a4 : Int32) (x0 : Int32) (x1 : Nat) (τ : St), Ru M_M_readsRow d Q 56 [some (.ref a0), some (.int a1), some (.int a2), some (.int a3), some (.int a4)] [.int x0, .ref x1] τ = Ru M_M_readsRow d Q 58 [some (.ref a0), some (.int a1), some (.int a2), some (.int a3), some (.int a4)] [.int a4, .int x0, .ref x1] τ) ∧
    (∀ (a0 : Nat) (a1 : Int32) (a2 : Int32) (a3 : Int32) (a4 : Int32) (x0 : Int32) (x1 : Int32) (x2 : Nat) (τ : St), Ru M_M_readsRow d Q 58 [some (.ref a0), some (.int a1), some (.int a2), some (.int a3), some (.int a4)] [.int x0, .int x1, .ref x2] τ = (isA 14 x2 ∧ vp_in x1 (len x2) ∧ Ru M_M_readsRow d Q 59 [some (.ref a0), some (.int a1), some (.int a2), some (.int a3), some (.int a4)] [] (sI τ x2 x1.toNatClampNeg (x0)))) ∧
    (∀ (a0 : Nat) (a1 : Int32) (a2 : Int32) (a3 : Int32) (a4 : Int32) (τ : St), Ru M_M_readsRow d Q 59 [some (.ref a0), some (.int a1), some (.int a2), some (.int a3), some (.int a4)] [] τ = Ru M_M_readsRow d Q 62 [some (.ref a0), some (.int a1), some (.int a2), some (.int (a3 + 1)), some (.int a4)] [] τ) ∧
    (∀ (a0 : Nat) (a1 : Int32) (a2 : Int32) (a3 : Int32) (a4 : Int32) (τ : St), Ru M_M_readsRow d Q 62 [some (.ref a0), some (.int a1), some (.int a2), some (.int a3), some (.int a4)] [] τ = Ru M_M_readsRow d Q 63 [some (.ref a0), some (.int a1), some (.int a2), some (.int a3), some (.int a4)] [.ref a0] τ) ∧
    (∀ (a0 : Nat) (a1 : Int32) (a2 : Int32) (a3 : Int32) (a4 : Int32) (x0 : Nat) (τ : St), Ru M_M_readsRow d Q 63 [some (.ref a0), some (.int a1), some (.int a2), some (.int a3), some (.int a4)] [.ref x0] τ = Ru M_M_readsRow d Q 65 [some (.ref a0), some (.int a1), some (.int a2), some (.int a3), some (.int a4)] [.ref (1000 + 0), .ref x0] τ) ∧
    (∀ (a0 : Nat) (a1 : Int32) (a2 : Int32) (a3 : Int32) (a4 : Int32) (x0 : Nat) (x1 : Nat) (τ : St), Ru M_M_readsRow d Q 65 [some (.ref a0), some (.int a1), some (.int a2), some (.int a3), some (.int a4)] [.ref (1000 + x0), .ref x1] τ = (isA 12 x1 ∧ Cl d m_M_among [.ref x1, .ref (1000 + x0)] τ (fun v τ' => Ru M_M_readsRow d Q 68 [some (.ref a0), some (.int a1), some (.int a2), some (.int a3), some (.int a4)] (v.toList ++ []) τ'))) ∧
    (∀ (a0 : Nat) (a1 : Int32) (a2 : Int32) (a3 : Int32) (a4 : Int32) (x0 : Int32) (τ : St), Ru M_M_readsRow d Q 68 [some (.ref a0), some (.int a1), some (.int a2), some (.int a3), some (.int a4)] [.int x0] τ = Ru M_M_readsRow d Q 70 [some (.ref a0), some (.int a1), some (.int a2), some (.int a3), some (.int x0)] [] τ) ∧
    (∀ (a0 : Nat) (a1 : Int32) (a2 : Int32) (a3 : Int32) (a4 : Int32) (τ : St), Ru M_M_readsRow d Q 70 [some (.ref a0), some (.int a1), some (.int a2), some (.int a3), some (.int a4)] [] τ = Rs M_M_readsRow d Q 24 [some (.ref a0), some (.int a1), some (.int a2), some (.int a3), some (.int a4)] [] τ) ∧
    (∀ (a0 : Nat) (a1 : Int32) (a2 : Int32) (a3 : Int32) (a4 : Int32) (τ : St), Ru M_M_readsRow d Q 73 [some (.ref a0), some (.int a1), some (.int a2), some (.int a3), some (.int a4)] [] τ = Ru M_M_readsRow d Q 74 [some (.ref a0), some (.int a1), some (.int a2), some (.int a3), some (.int a4)] [.ref a0] τ) ∧
    (∀ (a0 : Nat) (a1 : Int32) (a2 : Int32) (a3 : Int32) (a4 : Int32) (x0 : Nat) (τ : St), Ru M_M_readsRow d Q 74 [some (.ref a0), some (.int a1), some (.int a2), some (.int a3), some (.int a4)] [.ref x0] τ = Ru M_M_readsRow d Q 75 [some (.ref a0), some (.int a1), some (.int a2), some (.int a3), some (.int a4)] [.int a1, .ref x0] τ) ∧
    (∀ (a0 : Nat) (a1 : Int32) (a2 : Int32) (a3 : Int32) (a4 : Int32) (x0 : Int32) (x1 : Nat) (τ : St), Ru M_M_readsRow d Q 75 [some (.ref a0), some (.int a1), some (.int a2), some (.int a3), some (.int a4)] [.int x0, .ref x1] τ = ((¬ x0 = 0 → Ru M_M_readsRow d Q 82 [some (.ref a0), some (.int a1), some (.int a2), some (.int a3), some (.int a4)] [.ref x1] τ) ∧ (x0 = 0 → Ru M_M_readsRow d Q 78 [some (.ref a0), some (.int a1), some (.int a2), some (.int a3), some (.int a4)] [.ref x1] τ))) ∧
    (∀ (a0 : Nat) (a1 : Int32) (a2 : Int32) (a3 : Int32) (a4 : Int32) (x0 : Nat) (τ : St), Ru M_M_readsRow d Q 78 [some (.ref a0), some (.int a1), some (.int a2), some (.int a3), some (.int a4)] [.ref x0] τ = Ru M_M_readsRow d Q 79 [some (.ref a0), some (.int a1), some (.int a2), some (.int a3), some (.int a4)] [.int a3, .ref x0] τ) ∧
    (∀ (a0 : Nat) (a1 : Int32) (a2 : Int32) (a3 : Int32) (a4 : Int32) (x0 : Int32) (x1 : Nat) (τ : St), Ru M_M_readsRow d Q 79 [some (.ref a0), some (.int a1), some (.int a2), some (.int a3), some (.int a4)] [.int x0, .ref x1] τ = Ru M_M_readsRow d Q 86 [some (.ref a0), some (.int a1), some (.int a2), some (.int a3), some (.int a4)] [.int x0, .ref x1] τ) ∧
    (∀ (a0 : Nat) (a1 : Int32) (a2 : Int32) (a3 : Int32) (a4 : Int32) (x0 : Nat) (τ : St), Ru M_M_readsRow d Q 82 [some (.ref a0), some (.int a1), some (.int a2), some (.int a3), some (.int a4)] [.ref x0] τ = Ru M_M_readsRow d Q 83 [some (.ref a0), some (.int a1), some (.int a2), some (.int a3), some (.int a4)] [.ref a0, .ref x0] τ) ∧
    (∀ (a0 : Nat) (a1 : Int32) (a2 : Int32) (a3 : Int32) (a4 : Int32) (x0 : Nat) (x1 : Nat) (τ : St), Ru M_M_readsRow d Q 83 [some (.ref a0), some (.int a1), some (.int a2), some (.int a3), some (.int a4)] [.ref x0, .ref x1] τ = (isA 12 x0 ∧ Ru M_M_readsRow d Q 86 [some (.ref a0), some (.int a1), some (.int a2), some (.int a3), some (.int a4)] [.int (τ.1 x0 19), .ref x1] τ)) ∧
    (∀ (a0 : Nat) (a1 : Int32) (a2 : Int32) (a3 : Int32) (a4 : Int32) (x0 : Int32) (x1 : Nat) (τ : St), Ru M_M_readsRow d Q 86 [some (.ref a0), some (.int a1), some (.int a2), some (.int a3), some (.int a4)] [.int x0, .ref x1] τ = (isA 12 x1 ∧ Ru M_M_readsRow d Q 89 [some (.ref a0), some (.int a1), some (.int a2), some (.int a3), some (.int a4)] [] (sI τ x1 19 x0))) ∧
    (∀ (a0 : Nat) (a1 : Int32) (a2 : Int32) (a3 : Int32) (a4 : Int32) (τ : St), Ru M_M_readsRow d Q 89 [some (.ref a0), some (.int a1), some (.int a2), some (.int a3), some (.int a4)] [] τ = Ru M_M_readsRow d Q 90 [some (.ref a0), some (.int a1), some (.int a2), some (.int a3), some (.int a4)] [.int a3] τ) ∧
    (∀ (a0 : Nat) (a1 : Int32) (a2 : Int32) (a3 : Int32) (a4 : Int32) (x0 : Int32) (τ : St), Ru M_M_readsRow d Q 90 [some (.ref a0), some (.int a1), some (.int a2), some (.int a3), some (.int a4)] [.int x0] τ = ((x0 ≤ 0 → Ru M_M_readsRow d Q 105 [some (.ref a0), some (.int a1), some (.int a2), some (.int a3), some (.int a4)] [] τ) ∧ (¬ x0 ≤ 0 → Ru M_M_readsRow d Q 93 [some (.ref a0), some (.int a1), some (.int a2), some (.int a3), some (.int a4)] [] τ))) ∧
    (∀ (a0 : Nat) (a1 : Int32) (a2 : Int32) (a3 : Int32) (a4 : Int32) (τ : St), Ru M_M_readsRow d Q 93 [some (.ref a0), some (.int a1), some (.int a2), some (.int a3), some (.int a4)] [] τ = Ru M_M_readsRow d Q 94 [some (.ref a0), some (.int a1), some (.int a2), some (.int a3), some (.int a4)] [.int a3] τ) ∧
    (∀ (a0 : Nat) (a1 : Int32) (a2 : Int32) (a3 : Int32) (a4 : Int32) (x0 : Int32) (τ : St), Ru M_M_readsRow d Q 94 [some (.ref a0), some (.int a1), some (.int a2), some (.int a3), some (.int a4)] [.int x0] τ = Ru M_M_readsRow d Q 95 [some (.ref a0), some (.int a1), some (.int a2), some (.int a3), some (.int a4)] [.ref a0, .int x0] τ) ∧
    (∀ (a0 : Nat) (a1 : Int32) (a2 : Int32) (a3 : Int32) (a4 : Int32) (x0 : Nat) (x1 : Int32) (τ : St), Ru M_M_readsRow d Q 95 [some (.ref a0), some (.int a1), some (.int a2), some (.int a3), some (.int a4)] [.ref x0, .int x1] τ = (isA 12 x0 ∧ Ru M_M_readsRow d Q 98 [some (.ref a0), some (.int a1), some (.int a2), some (.int a3), some (.int a4)] [.int (τ.1 x0 19), .int x1] τ)) ∧
    (∀ (a0 : Nat) (a1 : Int32) (a2 : Int32) (a3 : Int32) (a4 : Int32) (x0 : Int32) (x1 : Int32) (τ : St), Ru M_M_readsRow d Q 98 [some (.ref a0), some (.int a1), some (.int a2), some (.int a3), some (.int a4)] [.int x0, .int x1] τ = ((¬ x1 = x0 → Ru M_M_readsRow d Q 105 [some (.ref a0), some (.int a1), some (.int a2), some (.int a3), some (.int a4)] [] τ) ∧ (x1 = x0 → Ru M_M_readsRow d Q 101 [some (.ref a0), some (.int a1), some (.int a2), some (.int a3), some (.int a4)] [] τ))) ∧
    (∀ (a0 : Nat) (a1 : Int32) (a2 : Int32) (a3 : Int32) (a4 : Int32) (τ : St), Ru M_M_readsRow d Q 101 [some (.ref a0), some (.int a1), some (.int a2), some (.int a3), some (.int a4)] [] τ = Ru M_M_readsRow d Q 102 [some (.ref a0), some (.int a1), some (.int a2), some (.int a3), some (.int a4)] [.int 1] τ) ∧
    (∀ (a0 : Nat) (a1 : Int32) (a2 : Int32) (a3 : Int32) (a4 : Int32) (x0 : Int32) (τ : St), Ru M_M_readsRow d Q 102 [some (.ref a0), some (.int a1), some (.int a2), some (.int a3), some (.int a4)] [.int x0] τ = Ru M_M_readsRow d Q 106 [some (.ref a0), some (.int a1), some (.int a2), some (.int a3), some (.int a4)] [.int x0] τ) ∧
    (∀ (a0 : Nat) (a1 : Int32) (a2 : Int32) (a3 : Int32) (a4 : Int32) (τ : St), Ru M_M_readsRow d Q 105 [some (.ref a0), some (.int a1), some (.int a2), some (.int a3), some (.int a4)] [] τ = Ru M_M_readsRow d Q 106 [some (.ref a0), some (.int a1), some (.int a2), some (.int a3), some (.int a4)] [.int 0] τ) ∧
    (∀ (a0 : Nat) (a1 : Int32) (a2 : Int32) (a3 : Int32) (a4 : Int32) (x0 : Int32) (τ : St), Ru M_M_readsRow d Q 106 [some (.ref a0), some (.int a1), some (.int a2), some (.int a3), some (.int a4)] [.int x0] τ = ((x0 = 0 ∨ x0 = 1) ∧ Q (some (.int x0)) τ)) := ⟨
  fun _ _ _ => (R_at ok_M_readsRow rfl).trans (e_ild rfl),
  fun _ _ _ _ => (R_at ok_M_readsRow rfl).trans e_ifn,
  fun _ _ _ => (R_at ok_M_readsRow rfl).trans e_push,
  fun _ _ _ _ => (R_at ok_M_readsRow rfl).trans e_goto,
  fun _ _ _ => (R_at ok_M_readsRow rfl).trans (e_ald rfl),
  fun _ _ _ _ => (R_at ok_M_readsRow rfl).trans e_gI,
  fun _ _ _ _ => (R_at ok_M_readsRow rfl).trans e_ist,
  fun _ _ _ _ => (R_at ok_M_readsRow rfl).trans e_push,
  fun _ _ _ _ _ => (R_at ok_M_readsRow rfl).trans e_ist,
  fun _ _ _ _ _ => (R_at ok_M_readsRow rfl).trans (e_ald rfl),
  fun _ _ _ _ _ _ => (R_at ok_M_readsRow rfl).trans e_push,
  fun _ _ _ _ x0 _ _ => (R_at ok_M_readsRow rfl).trans (e_cv [.ref (1000 + x0)] rfl rfl rfl),
  fun _ _ _ _ _ _ => (R_at ok_M_readsRow rfl).trans e_ist,
  fun _ _ _ _ _ _ => (R_at ok_M_readsRow rfl).trans (e_ild rfl),
  fun _ _ _ _ _ _ _ => (R_at ok_M_readsRow rfl).trans (e_ild rfl),
  fun _ _ _ _ _ _ _ _ => (R_at ok_M_readsRow rfl).trans e_ic,
  fun _ _ _ _ _ _ => (R_at ok_M_readsRow rfl).trans (e_ild rfl),
  fun _ _ _ _ _ _ _ => (R_at ok_M_readsRow rfl).trans e_if,
  fun _ _ _ _ _ _ => (R_at ok_M_readsRow rfl).trans (e_ald rfl),
  fun _ _ _ _ _ _ _ => (R_at ok_M_readsRow rfl).trans (e_dup rfl),
  fun _ _ _ _ _ _ _ _ => (R_at ok_M_readsRow rfl).trans e_gI,
  fun _ _ _ _ _ _ _ _ => (R_at ok_M_readsRow rfl).trans e_push,
  fun _ _ _ _ _ _ _ _ _ => (R_at ok_M_readsRow rfl).trans e_bin,
  fun _ _ _ _ _ _ _ _ => (R_at ok_M_readsRow rfl).trans e_pI,
  fun _ _ _ _ _ _ => (R_at ok_M_readsRow rfl).trans (e_ald rfl),
  fun _ _ _ _ _ _ _ => (R_at ok_M_readsRow rfl).trans e_gR,
  fun _ _ _ _ _ _ _ => (R_at ok_M_readsRow rfl).trans (e_ald rfl),
  fun _ _ _ _ _ _ _ _ => (R_at ok_M_readsRow rfl).trans e_gI,
  fun _ _ _ _ _ _ _ _ => (R_at ok_M_readsRow rfl).trans (e_ild rfl),
  fun _ _ _ _ _ _ _ _ _ => (R_at ok_M_readsRow rfl).trans e_bin,
  fun _ _ _ _ _ _ _ _ => (R_at ok_M_readsRow rfl).trans (e_ild rfl),
  fun _ _ _ _ _ _ _ _ _ => (R_at ok_M_readsRow rfl).trans e_bin,
  fun _ _ _ _ _ _ _ _ => (R_at ok_M_readsRow rfl).trans (e_ild rfl),
  fun _ _ _ _ _ _ _ _ _ => (R_at ok_M_readsRow rfl).trans e_as,
  fun _ _ _ _ _ _ => (R_at ok_M_readsRow rfl).trans (e_iinc rfl),
  fun _ _ _ _ _ _ => (R_at ok_M_readsRow rfl).trans (e_ald rfl),
  fun _ _ _ _ _ _ _ => (R_at ok_M_readsRow rfl).trans e_push,
  fun _ _ _ _ _ x0 _ _ => (R_at ok_M_readsRow rfl).trans (e_cv [.ref (1000 + x0)] rfl rfl rfl),
  fun _ _ _ _ _ _ _ => (R_at ok_M_readsRow rfl).trans e_ist,
  fun _ _ _ _ _ _ => (R_at ok_M_readsRow rfl).trans e_goto,
  fun _ _ _ _ _ _ => (R_at ok_M_readsRow rfl).trans (e_ald rfl),
  fun _ _ _ _ _ _ _ => (R_at ok_M_readsRow rfl).trans (e_ild rfl),
  fun _ _ _ _ _ _ _ _ => (R_at ok_M_readsRow rfl).trans e_ifn,
  fun _ _ _ _ _ _ _ => (R_at ok_M_readsRow rfl).trans (e_ild rfl),
  fun _ _ _ _ _ _ _ _ => (R_at ok_M_readsRow rfl).trans e_goto,
  fun _ _ _ _ _ _ _ => (R_at ok_M_readsRow rfl).trans (e_ald rfl),
  fun _ _ _ _ _ _ _ _ => (R_at ok_M_readsRow rfl).trans e_gI,
  fun _ _ _ _ _ _ _ _ => (R_at ok_M_readsRow rfl).trans e_pI,
  fun _ _ _ _ _ _ => (R_at ok_M_readsRow rfl).trans (e_ild rfl),
  fun _ _ _ _ _ _ _ => (R_at ok_M_readsRow rfl).trans e_if,
  fun _ _ _ _ _ _ => (R_at ok_M_readsRow rfl).trans (e_ild rfl),
  fun _ _ _ _ _ _ _ => (R_at ok_M_readsRow rfl).trans (e_ald rfl),
  fun _ _ _ _ _ _ _ _ => (R_at ok_M_readsRow rfl).trans e_gI,
  fun _ _ _ _ _ _ _ _ => (R_at ok_M_readsRow rfl).trans e_icn,
  fun _ _ _ _ _ _ => (R_at ok_M_readsRow rfl).trans e_push,
  fun _ _ _ _ _ _ _ => (R_at ok_M_readsRow rfl).trans e_goto,
  fun _ _ _ _ _ _ => (R_at ok_M_readsRow rfl).trans e_push,
  fun _ _ _ _ _ _ _ => (R_at ok_M_readsRow rfl).trans e_zret⟩
set_option maxHeartbeats 4000000 in
theorem N_M_land (d : Nat) (Q : Qt) : ∀ (x0 : Nat) (τ : St), Cl (d + 1) m_M_land [.ref x0] τ Q = Ru M_M_land d Q 0 [some (.ref x0), none, none, none, none] [] τ := fun _ _ => propext ⟨fun h => h.2, fun h => ⟨Nat.le_of_ble_eq_true rfl, h⟩⟩
set_option maxHeartbeats 4000000 in
theorem E_M_land (d : Nat) (Q : Qt) :
    (∀ (a0 : Nat) (τ : St), Ru M_M_land d Q 0 [some (.ref a0), none, none, none, none] [] τ = Ru M_M_land d Q 1 [some (.ref a0), none, none, none, none] [.ref a0] τ) ∧
    (∀ (a0 : Nat) (x0 : Nat) (τ : St), Ru M_M_land d Q 1 [some (.ref a0), none, none, none, none] [.ref x0] τ = Ru M_M_land d Q 2 [some (.ref a0), none, none, none, none] [.int 0, .ref x0] τ) ∧
    (∀ (a0 : Nat) (x0 : Int32) (x1 : Nat) (τ : St), Ru M_M_land d Q 2 [some (.ref a0), none, none, none, none] [.int x0, .ref x1] τ = (isA 12 x1 ∧ Ru M_M_land d Q 5 [some (.ref a0), none, none, none, none] [] (sI τ x1 0 x0))) ∧
    (∀ (a0 : Nat) (τ : St), Ru M_M_land d Q 5 [some (.ref a0), none, none, none, none] [] τ = Ru M_M_land d Q 6 [some (.ref a0), none, none, none, none] [.ref a0] τ) ∧
    (∀ (a0 : Nat) (x0 : Nat) (τ : St), Ru M_M_land d Q 6 [some (.ref a0), none, none, none, none] [.ref x0] τ = Ru M_M_land d Q 8 [some (.ref a0), none, none, none, none] [.int 80, .ref x0] τ) ∧
    (∀ (a0 : Nat) (x0 : Int32) (x1 : Nat) (τ : St), Ru M_M_land d Q 8 [some (.ref a0), none, none, none, none] [.int x0, .ref x1] τ = (isA 12 x1 ∧ Cl d m_M_begins [.ref x1, .int x0] τ (fun v τ' => Ru M_M_land d Q 11 [some (.ref a0), none, none, none, none] (v.toList ++ []) τ'))) ∧
    (∀ (a0 : Nat) (x0 : Int32) (τ : St), Ru M_M_land d Q 11 [some (.ref a0), none, none, none, none] [.int x0] τ = Ru M_M_land d Q 12 [some (.ref a0), none, none, none, none] [] τ) ∧
    (∀ (a0 : Nat) (τ : St), Ru M_M_land d Q 12 [some (.ref a0), none, none, none, none] [] τ = Ru M_M_land d Q 13 [some (.ref a0), none, none, none, none] [.ref a0] τ) ∧
    (∀ (a0 : Nat) (x0 : Nat) (τ : St), Ru M_M_land d Q 13 [some (.ref a0), none, none, none, none] [.ref x0] τ = Ru M_M_land d Q 14 [some (.ref a0), none, none, none, none] [.int 0, .ref x0] τ) ∧
    (∀ (a0 : Nat) (x0 : Int32) (x1 : Nat) (τ : St), Ru M_M_land d Q 14 [some (.ref a0), none, none, none, none] [.int x0, .ref x1] τ = (isA 12 x1 ∧ Ru M_M_land d Q 17 [some (.ref a0), none, none, none, none] [] (sI τ x1 19 x0))) ∧
    (∀ (a0 : Nat) (τ : St), Ru M_M_land d Q 17 [some (.ref a0), none, none, none, none] [] τ = Ru M_M_land d Q 18 [some (.ref a0), none, none, none, none] [.ref a0] τ) ∧
    (∀ (a0 : Nat) (x0 : Nat) (τ : St), Ru M_M_land d Q 18 [some (.ref a0), none, none, none, none] [.ref x0] τ = Ru M_M_land d Q 19 [some (.ref a0), none, none, none, none] [.int 0, .ref x0] τ) ∧
    (∀ (a0 : Nat) (x0 : Int32) (x1 : Nat) (τ : St), Ru M_M_land d Q 19 [some (.ref a0), none, none, none, none] [.int x0, .ref x1] τ = (isA 12 x1 ∧ Cl d m_M_readsRow [.ref x1, .int x0] τ (fun v τ' => Ru M_M_land d Q 22 [some (.ref a0), none, none, none, none] (v.toList ++ []) τ'))) ∧
    (∀ (a0 : Nat) (x0 : Int32) (τ : St), Ru M_M_land d Q 22 [some (.ref a0), none, none, none, none] [.int x0] τ = Ru M_M_land d Q 23 [some (.ref a0), some (.int x0), none, none, none] [] τ) ∧
    (∀ (a0 : Nat) (a1 : Int32) (τ : St), Ru M_M_land d Q 23 [some (.ref a0), some (.int a1), none, none, none] [] τ = Ru M_M_land d Q 24 [some (.ref a0), some (.int a1), none, none, none] [.int 1] τ) ∧
    (∀ (a0 : Nat) (a1 : Int32) (x0 : Int32) (τ : St), Ru M_M_land d Q 24 [some (.ref a0), some (.int a1), none, none, none] [.int x0] τ = Rs M_M_land d Q 25 [some (.ref a0), some (.int a1), some (.int x0), none, none] [] τ) ∧
    (∀ (a0 : Nat) (a1 : Int32) (a2 : Int32) (τ : St), Ru M_M_land d Q 25 [some (.ref a0), some (.int a1), some (.int a2), none, none] [] τ = Ru M_M_land d Q 26 [some (.ref a0), some (.int a1), some (.int a2), none, none] [.int a1] τ) ∧
    (∀ (a0 : Nat) (a1 : Int32) (a2 : Int32) (x0 : Int32) (τ : St), Ru M_M_land d Q 26 [some (.ref a0), some (.int a1), some (.int a2), none, none] [.int x0] τ = ((x0 = 0 → Ru M_M_land d Q 56 [some (.ref a0), some (.int a1), some (.int a2), none, none] [] τ) ∧ (¬ x0 = 0 → Ru M_M_land d Q 29 [some (.ref a0), some (.int a1), some (.int a2), none, none] [] τ))) ∧
    (∀ (a0 : Nat) (a1 : Int32) (a2 : Int32) (τ : St), Ru M_M_land d Q 29 [some (.ref a0), some (.int a1), some (.int a2), none, none] [] τ = Ru M_M_land d Q 30 [some (.ref a0), some (.int a1), some (.int a2), none, none] [.int a2] τ) ∧
    (∀ (a0 : Nat) (a1 : Int32) (a2 : Int32) (x0 : Int32) (τ : St), Ru M_M_land d Q 30 [some (.ref a0), some (.int a1), some (.int a2), none, none] [.int x0] τ = Ru M_M_land d Q 32 [some (.ref a0), some (.int a1), some (.int a2), none, none] [.int 6, .int x0] τ) ∧
    (∀ (a0 : Nat) (a1 : Int32) (a2 : Int32) (x0 : Int32) (x1 : Int32) (τ : St), Ru M_M_land d Q 32 [some (.ref a0), some (.int a1), some (.int a2), none, none] [.int x0, .int x1] τ = ((x0 ≤ x1 → Ru M_M_land d Q 56 [some (.ref a0), some (.int a1), some (.int a2), none, none] [] τ) ∧ (¬ x0 ≤ x1 → Ru M_M_land d Q 35 [some (.ref a0), some (.int a1), some (.int a2), none, none] [] τ))) ∧
    (∀ (a0 : Nat) (a1 : Int32) (a2 : Int32) (τ : St), Ru M_M_land d Q 35 [some (.ref a0), some (.int a1), some (.int a2), none, none] [] τ = Ru M_M_land d Q 36 [some (.ref a0), some (.int a1), some (.int a2), none, none] [.ref a0] τ) ∧
    (∀ (a0 : Nat) (a1 : Int32) (a2 : Int32) (x0 : Nat) (τ : St), Ru M_M_land d Q 36 [some (.ref a0), some (.int a1), some (.int a2), none, none] [.ref x0] τ = Ru M_M_land d Q 38 [some (.ref a0), some (.int a1), some (.int a2), none, none] [.int 47, .ref x0] τ) ∧
    (∀ (a0 : Nat) (a1 : Int32) (a2 : Int32) (x0 : Int32) (x1 : Nat) (τ : St), Ru M_M_land d Q 38 [some (.ref a0), some (.int a1), some (.int a2), none, none] [.int x0, .ref x1] τ = (isA 12 x1 ∧ Cl d m_M_takes [.ref x1, .int x0] τ (fun v τ' => Ru M_M_land d Q 41 [some (.ref a0), some (.int a1), some (.int a2), none, none] (v.toList ++ []) τ'))) ∧
    (∀ (a0 : Nat) (a1 : Int32) (a2 : Int32) (x0 : Int32) (τ : St), Ru M_M_land d Q 41 [some (.ref a0), some (.int a1), some (.int a2), none, none] [.int x0] τ = ((x0 = 0 → Ru M_M_land d Q 56 [some (.ref a0), some (.int a1), some (.int a2), none, none] [] τ) ∧ (¬ x0 = 0 → Ru M_M_land d Q 44 [some (.ref a0), some (.int a1), some (.int a2), none, none] [] τ))) ∧
    (∀ (a0 : Nat) (a1 : Int32) (a2 : Int32) (τ : St), Ru M_M_land d Q 44 [some (.ref a0), some (.int a1), some (.int a2), none, none] [] τ = Ru M_M_land d Q 45 [some (.ref a0), some (.int a1), some (.int a2), none, none] [.ref a0] τ) ∧
    (∀ (a0 : Nat) (a1 : Int32) (a2 : Int32) (x0 : Nat) (τ : St), Ru M_M_land d Q 45 [some (.ref a0), some (.int a1), some (.int a2), none, none] [.ref x0] τ = Ru M_M_land d Q 46 [some (.ref a0), some (.int a1), some (.int a2), none, none] [.int a2, .ref x0] τ) ∧
    (∀ (a0 : Nat) (a1 : Int32) (a2 : Int32) (x0 : Int32) (x1 : Nat) (τ : St), Ru M_M_land d Q 46 [some (.ref a0), some (.int a1), some (.int a2), none, none] [.int x0, .ref x1] τ = (isA 12 x1 ∧ Cl d m_M_readsRow [.ref x1, .int x0] τ (fun v τ' => Ru M_M_land d Q 49 [some (.ref a0), some (.int a1), some (.int a2), none, none] (v.toList ++ []) τ'))) ∧
    (∀ (a0 : Nat) (a1 : Int32) (a2 : Int32) (x0 : Int32) (τ : St), Ru M_M_land d Q 49 [some (.ref a0), some (.int a1), some (.int a2), none, none] [.int x0] τ = Ru M_M_land d Q 50 [some (.ref a0), some (.int x0), some (.int a2), none, none] [] τ) ∧
    (∀ (a0 : Nat) (a1 : Int32) (a2 : Int32) (τ : St), Ru M_M_land d Q 50 [some (.ref a0), some (.int a1), some (.int a2), none, none] [] τ = Ru M_M_land d Q 53 [some (.ref a0), some (.int a1), some (.int (a2 + 1)), none, none] [] τ) ∧
    (∀ (a0 : Nat) (a1 : Int32) (a2 : Int32) (τ : St), Ru M_M_land d Q 53 [some (.ref a0), some (.int a1), some (.int a2), none, none] [] τ = Rs M_M_land d Q 25 [some (.ref a0), some (.int a1), some (.int a2), none, none] [] τ) ∧
    (∀ (a0 : Nat) (a1 : Int32) (a2 : Int32) (τ : St), Ru M_M_land d Q 56 [some (.ref a0), some (.int a1), some (.int a2), none, none] [] τ = Ru M_M_land d Q 57 [some (.ref a0), some (.int a1), some (.int a2), none, none] [.int a1] τ) ∧
    (∀ (a0 : Nat) (a1 : Int32) (a2 : Int32) (x0 : Int32) (τ : St), Ru M_M_land d Q 57 [some (.ref a0), some (.int a1), some (.int a2), none, none] [.int x0] τ = ((x0 = 0 → Ru M_M_land d Q 71 [some (.ref a0), some (.int a1), some (.int a2), none, none] [] τ) ∧ (¬ x0 = 0 → Ru M_M_land d Q 60 [some (.ref a0), some (.int a1), some (.int a2), none, none] [] τ))) ∧
    (∀ (a0 : Nat) (a1 : Int32) (a2 : Int32) (τ : St), Ru M_M_land d Q 60 [some (.ref a0), some (.int a1), some (.int a2), none, none] [] τ = Ru M_M_land d Q 61 [some (.ref a0), some (.int a1), some (.int a2), none, none] [.ref a0] τ) ∧
    (∀ (a0 : Nat) (a1 : Int32) (a2 : Int32) (x0 : Nat) (τ : St), Ru M_M_land d Q 61 [some (.ref a0), some (.int a1), some (.int a2), none, none] [.ref x0] τ = (isA 12 x0 ∧ Ru M_M_land d Q 64 [some (.ref a0), some (.int a1), some (.int a2), none, none] [.int (τ.1 x0 15)] τ)) ∧
    (∀ (a0 : Nat) (a1 : Int32) (a2 : Int32) (x0 : Int32) (τ : St), Ru M_M_land d Q 64 [some (.ref a0), some (.int a1), some (.int a2), none, none] [.int x0] τ = Ru M_M_land d Q 65 [some (.ref a0), some (.int a1), some (.int a2), none, none] [.ref a0, .int x0] τ) ∧
    (∀ (a0 : Nat) (a1 : Int32) (a2 : Int32) (x0 : Nat) (x1 : Int32) (τ : St), Ru M_M_land d Q 65 [some (.ref a0), some (.int a1), some (.int a2), none, none] [.ref x0, .int x1] τ = (isA 12 x0 ∧ Ru M_M_land d Q 68 [some (.ref a0), some (.int a1), some (.int a2), none, none] [.int (τ.1 x0 16), .int x1] τ)) ∧
    (∀ (a0 : Nat) (a1 : Int32) (a2 : Int32) (x0 : Int32) (x1 : Int32) (τ : St), Ru M_M_land d Q 68 [some (.ref a0), some (.int a1), some (.int a2), none, none] [.int x0, .int x1] τ = ((x0 ≤ x1 → Ru M_M_land d Q 78 [some (.ref a0), some (.int a1), some (.int a2), none, none] [] τ) ∧ (¬ x0 ≤ x1 → Ru M_M_land d Q 71 [some (.ref a0), some (.int a1), some (.int a2), none, none] [] τ))) ∧
    (∀ (a0 : Nat) (a1 : Int32) (a2 : Int32) (τ : St), Ru M_M_land d Q 71 [some (.ref a0), some (.int a1), some (.int a2), none, none] [] τ = Ru M_M_land d Q 72 [some (.ref a0), some (.int a1), some (.int a2), none, none] [.int (-1)] τ) ∧
    (∀ (a0 : Nat) (a1 : Int32) (a2 : Int32) (x0 : Int32) (τ : St), Ru M_M_land d Q 72 [some (.ref a0), some (.int a1), some (.int a2), none, none] [.int x0] τ = Ru M_M_land d Q 73 [some (.ref a0), some (.int a1), some (.int a2), none, none] [.ref a0, .int x0] τ) ∧
    (∀ (a0 : Nat) (a1 : Int32) (a2 : Int32) (x0 : Nat) (x1 : Int32) (τ : St), Ru M_M_land d Q 73 [some (.ref a0), some (.int a1), some (.int a2), none, none] [.ref x0, .int x1] τ = (isA 12 x0 ∧ Ru M_M_land d Q 76 [some (.ref a0), some (.int a1), some (.int a2), none, none] [.int (τ.1 x0 15), .int x1] τ)) ∧
    (∀ (a0 : Nat) (a1 : Int32) (a2 : Int32) (x0 : Int32) (x1 : Int32) (τ : St), Ru M_M_land d Q 76 [some (.ref a0), some (.int a1), some (.int a2), none, none] [.int x0, .int x1] τ = Ru M_M_land d Q 77 [some (.ref a0), some (.int a1), some (.int a2), none, none] [.int (x1 - x0)] τ) ∧
    (∀ (a0 : Nat) (a1 : Int32) (a2 : Int32) (x0 : Int32) (τ : St), Ru M_M_land d Q 77 [some (.ref a0), some (.int a1), some (.int a2), none, none] [.int x0] τ = Q (some (.int x0)) τ) ∧
    (∀ (a0 : Nat) (a1 : Int32) (a2 : Int32) (τ : St), Ru M_M_land d Q 78 [some (.ref a0), some (.int a1), some (.int a2), none, none] [] τ = Ru M_M_land d Q 79 [some (.ref a0), some (.int a1), some (.int a2), none, none] [.ref a0] τ) ∧
    (∀ (a0 : Nat) (a1 : Int32) (a2 : Int32) (x0 : Nat) (τ : St), Ru M_M_land d Q 79 [some (.ref a0), some (.int a1), some (.int a2), none, none] [.ref x0] τ = Ru M_M_land d Q 80 [some (.ref a0), some (.int a1), some (.int a2), none, none] [.int a2, .ref x0] τ) ∧
    (∀ (a0 : Nat) (a1 : Int32) (a2 : Int32) (x0 : Int32) (x1 : Nat) (τ : St), Ru M_M_land d Q 80 [some (.ref a0), some (.int a1), some (.int a2), none, none] [.int x0, .ref x1] τ = (isA 12 x1 ∧ Ru M_M_land d Q 83 [some (.ref a0), some (.int a1), some (.int a2), none, none] [] (sI τ x1 3 x0))) ∧
    (∀ (a0 : Nat) (a1 : Int32) (a2 : Int32) (τ : St), Ru M_M_land d Q 83 [some (.ref a0), some (.int a1), some (.int a2), none, none] [] τ = Ru M_M_land d Q 84 [some (.ref a0), some (.int a1), some (.int a2), none, none] [.ref a0] τ) ∧
    (∀ (a0 : Nat) (a1 : Int32) (a2 : Int32) (x0 : Nat) (τ : St), Ru M_M_land d Q 84 [some (.ref a0), some (.int a1), some (.int a2), none, none] [.ref x0] τ = Ru M_M_land d Q 85 [some (.ref a0), some (.int a1), some (.int a2), none, none] [.ref a0, .ref x0] τ) ∧
    (∀ (a0 : Nat) (a1 : Int32) (a2 : Int32) (x0 : Nat) (x1 : Nat) (τ : St), Ru M_M_land d Q 85 [some (.ref a0), some (.int a1), some (.int a2), none, none] [.ref x0, .ref x1] τ = (isA 12 x0 ∧ Ru M_M_land d Q 88 [some (.ref a0), some (.int a1), some (.int a2), none, none] [.int (τ.1 x0 19), .ref x1] τ)) ∧
    (∀ (a0 : Nat) (a1 : Int32) (a2 : Int32) (x0 : Int32) (x1 : Nat) (τ : St), Ru M_M_land d Q 88 [some (.ref a0), some (.int a1), some (.int a2), none, none] [.int x0, .ref x1] τ = (isA 12 x1 ∧ Ru M_M_land d Q 91 [some (.ref a0), some (.int a1), some (.int a2), none, none] [] (sI τ x1 4 x0))) ∧
    (∀ (a0 : Nat) (a1 : Int32) (a2 : Int32) (τ : St), Ru M_M_land d Q 91 [some (.ref a0), some (.int a1), some (.int a2), none, none] [] τ = Ru M_M_land d Q 92 [some (.ref a0), some (.int a1), some (.int a2), none, none] [.int 0] τ) ∧
    (∀ (a0 : Nat) (a1 : Int32) (a2 : Int32) (x0 : Int32) (τ : St), Ru M_M_land d Q 92 [some (.ref a0), some (.int a1), some (.int a2), none, none] [.int x0] τ = Rs M_M_land d Q 93 [some (.ref a0), some (.int a1), some (.int a2), some (.int x0), none] [] τ) ∧
    (∀ (a0 : Nat) (a1 : Int32) (a2 : Int32) (a3 : Int32) (a4 : Option Value) (τ : St), Ru M_M_land d Q 93 [some (.ref a0), some (.int a1), some (.int a2), some (.int a3), a4] [] τ = Ru M_M_land d Q 94 [some (.ref a0), some (.int a1), some (.int a2), some (.int a3), a4] [.int a3] τ) ∧
    (∀ (a0 : Nat) (a1 : Int32) (a2 : Int32) (a3 : Int32) (a4 : Option Value) (x0 : Int32) (τ : St), Ru M_M_land d Q 94 [some (.ref a0), some (.int a1), some (.int a2), some (.int a3), a4] [.int x0] τ = Ru M_M_land d Q 96 [some (.ref a0), some (.int a1), some (.int a2), some (.int a3), a4] [.int 36, .int x0] τ) ∧
    (∀ (a0 : Nat) (a1 : Int32) (a2 : Int32) (a3 : Int32) (a4 : Option Value) (x0 : Int32) (x1 : Int32) (τ : St), Ru M_M_land d Q 96 [some (.ref a0), some (.int a1), some (.int a2), some (.int a3), a4] [.int x0, .int x1] τ = ((x0 ≤ x1 → Ru M_M_land d Q 167 [some (.ref a0), some (.int a1), some (.int a2), some (.int a3), a4] [] τ) ∧ (¬ x0 ≤ x1 → Ru M_M_land d Q 99 [some (.ref a0), some (.int a1), some (.int a2), some (.int a3), a4] [] τ))) ∧
    (∀ (a0 : Nat) (a1 : Int32) (a2 : Int32) (a3 : Int32) (a4 : Option Value) (τ : St), Ru M_M_land d Q 99 [some (.ref a0), some (.int a1), some (.int a2), some (.int a3), a4] [] τ = Ru M_M_land d Q 100 [some (.ref a0), some (.int a1), some (.int a2), some (.int a3), a4] [.int a3] τ) ∧
    (∀ (a0 : Nat) (a1 : Int32) (a2 : Int32) (a3 : Int32) (a4 : Option Value) (x0 : Int32) (τ : St), Ru M_M_land d Q 100 [some (.ref a0), some (.int a1), some (.int a2), some (.int a3), a4] [.int x0] τ = Ru M_M_land d Q 101 [some (.ref a0), some (.int a1), some (.int a2), some (.int a3), a4] [.ref a0, .int x0] τ) ∧
    (∀ (a0 : Nat) (a1 : Int32) (a2 : Int32) (a3 : Int32) (a4 : Option Value) (x0 : Nat) (x1 : Int32) (τ : St), Ru M_M_land d Q 101 [some (.ref a0), some (.int a1), some (.int a2), some (.int a3), a4] [.ref x0, .int x1] τ = (isA 12 x0 ∧ Cl d m_M_fields [.ref x0] τ (fun v τ' => Ru M_M_land d Q 104 [some (.ref a0), some (.int a1), some (.int a2), some (.int a3), a4] (v.toList ++ [.int x1]) τ'))) ∧
    (∀ (a0 : Nat) (a1 : Int32) (a2 : Int32) (a3 : Int32) (a4 : Option Value) (x0 : Int32) (x1 : Int32) (τ : St), Ru M_M_land d Q 104 [some (.ref a0), some (.int a1), some (.int a2), some (.int a3), a4] [.int x0, .int x1] τ = ((x0 ≤ x1 → Ru M_M_land d Q 116 [some (.ref a0), some (.int a1), some (.int a2), some (.int a3), a4] [] τ) ∧ (¬ x0 ≤ x1 → Ru M_M_land d Q 107 [some (.ref a0), some (.int a1), some (.int a2), some (.int a3), a4] [] τ))) ∧
    (∀ (a0 : Nat) (a1 : Int32) (a2 : Int32) (a3 : Int32) (a4 : Option Value) (τ : St), Ru M_M_land d Q 107 [some (.ref a0), some (.int a1), some (.int a2), some (.int a3), a4] [] τ = Ru M_M_land d Q 108 [some (.ref a0), some (.int a1), some (.int a2), some (.int a3), a4] [.ref a0] τ) ∧
    (∀ (a0 : Nat) (a1 : Int32) (a2 : Int32) (a3 : Int32) (a4 : Option Value) (x0 : Nat) (τ : St), Ru M_M_land d Q 108 [some (.ref a0), some (.int a1), some (.int a2), some (.int a3), a4] [.ref x0] τ = (isA 12 x0 ∧ Ru M_M_land d Q 111 [some (.ref a0), some (.int a1), some (.int a2), some (.int a3), a4] [.ref (rtab x0 18)] τ)) ∧
    (∀ (a0 : Nat) (a1 : Int32) (a2 : Int32) (a3 : Int32) (a4 : Option Value) (x0 : Nat) (τ : St), Ru M_M_land d Q 111 [some (.ref a0), some (.int a1), some (.int a2), some (.int a3), a4] [.ref x0] τ = Ru M_M_land d Q 112 [some (.ref a0), some (.int a1), some (.int a2), some (.int a3), a4] [.int a3, .ref x0] τ) ∧
    (∀ (a0 : Nat) (a1 : Int32) (a2 : Int32) (a3 : Int32) (a4 : Option Value) (x0 : Int32) (x1 : Nat) (τ : St), Ru M_M_land d Q 112 [some (.ref a0), some (.int a1), some (.int a2), some (.int a3), a4] [.int x0, .ref x1] τ = (isA 14 x1 ∧ vp_in x0 (len x1) ∧ Ru M_M_land d Q 113 [some (.ref a0), some (.int a1), some (.int a2), some (.int a3), a4] [.int (τ.1 x1 x0.toNatClampNeg)] τ)) ∧
    (∀ (a0 : Nat) (a1 : Int32) (a2 : Int32) (a3 : Int32) (a4 : Option Value) (x0 : Int32) (τ : St), Ru M_M_land d Q 113 [some (.ref a0), some (.int a1), some (.int a2), some (.int a3), a4] [.int x0] τ = Rs M_M_land d Q 118 [some (.ref a0), some (.int a1), some (.int a2), some (.int a3), a4] [.int x0] τ) ∧
    (∀ (a0 : Nat) (a1 : Int32) (a2 : Int32) (a3 : Int32) (a4 : Option Value) (τ : St), Ru M_M_land d Q 116 [some (.ref a0), some (.int a1), some (.int a2), some (.int a3), a4] [] τ = Rs M_M_land d Q 118 [some (.ref a0), some (.int a1), some (.int a2), some (.int a3), a4] [.int 12] τ) ∧
    (∀ (a0 : Nat) (a1 : Int32) (a2 : Int32) (a3 : Int32) (a4 : Option Value) (x0 : Int32) (τ : St), Ru M_M_land d Q 118 [some (.ref a0), some (.int a1), some (.int a2), some (.int a3), a4] [.int x0] τ = Ru M_M_land d Q 120 [some (.ref a0), some (.int a1), some (.int a2), some (.int a3), some (.int x0)] [] τ) ∧
    (∀ (a0 : Nat) (a1 : Int32) (a2 : Int32) (a3 : Int32) (a4 : Int32) (τ : St), Ru M_M_land d Q 120 [some (.ref a0), some (.int a1), some (.int a2), some (.int a3), some (.int a4)] [] τ = Ru M_M_land d Q 121 [some (.ref a0), some (.int a1), some (.int a2), some (.int a3), some (.int a4)] [.ref a0] τ) ∧
    (∀ (a0 : Nat) (a1 : Int32) (a2 : Int32) (a3 : Int32) (a4 : Int32) (x0 : Nat) (τ : St), Ru M_M_land d Q 121 [some (.ref a0), some (.int a1), some (.int a2), some (.int a3), some (.int a4)] [.ref x0] τ = (isA 12 x0 ∧ Ru M_M_land d Q 124 [some (.ref a0), some (.int a1), some (.int a2), some (.int a3), some (.int a4)] [.ref (rtab x0 7)] τ)) ∧
    (∀ (a0 : Nat) (a1 : Int32) (a2 : Int32) (a3 : Int32) (a4 : Int32) (x0 : Nat) (τ : St), Ru M_M_land d Q 124 [some (.ref a0), some (.int a1), some (.int a2), some (.int a3), some (.int a4)] [.ref x0] τ = Ru M_M_land d Q 125 [some (.ref a0), some (.int a1), some (.int a2), some (.int a3), some (.int a4)] [.int a3, .ref x0] τ) ∧
    (∀ (a0 : Nat) (a1 : Int32) (a2 : Int32) (a3 : Int32) (a4 : Int32) (x0 : Int32) (x1 : Nat) (τ : St), Ru M_M_land d Q 125 [some (.ref a0), some (.int a1), some (.int a2), some (.int a3), some (.int a4)] [.int x0, .ref x1] τ = Ru M_M_land d Q 127 [some (.ref a0), some (.int a1), some (.int a2), some (.int a3), some (.int a4)] [.int a4, .int x0, .ref x1] τ) ∧
    (∀ (a0 : Nat) (a1 : Int32) (a2 : Int32) (a3 : Int32) (a4 : Int32) (x0 : Int32) (x1 : Int32) (x2 : Nat) (τ : St), Ru M_M_land d Q 127 [some (.ref a0), some (.int a1), some (.int a2), some (.int a3), some (.int a4)] [.int x0, .int x1, .ref x2] τ = Ru M_M_land d Q 129 [some (.ref a0), some (.int a1), some (.int a2), some (.int a3), some (.int a4)] [.int 10, .int x0, .int x1, .ref x2] τ) ∧
    (∀ (a0 : Nat) (a1 : Int32) (a2 : Int32) (a3 : Int32) (a4 : Int32) (x0 : Int32) (x1 : Int32) (x2 : Int32) (x3 : Nat) (τ : St), Ru M_M_land d Q 129 [some (.ref a0), some (.int a1), some (.int a2), some (.int a3), some (.int a4)] [.int x0, .int x1, .int x2, .ref x3] τ = ((x0 ≤ x1 → Ru M_M_land d Q 136 [some (.ref a0), some (.int a1), some (.int a2), some (.int a3), some (.int a4)] [.int x2, .ref x3] τ) ∧ (¬ x0 ≤ x1 → Ru M_M_land d Q 132 [some (.ref a0), some (.int a1), some (.int a2), some (.int a3), some (.int a4)] [.int x2, .ref x3] τ))) ∧
    (∀ (a0 : Nat) (a1 : Int32) (a2 : Int32) (a3 : Int32) (a4 : Int32) (x0 : Int32) (x1 : Nat) (τ : St), Ru M_M_land d Q 132 [some (.ref a0), some (.int a1), some (.int a2), some (.int a3), some (.int a4)] [.int x0, .ref x1] τ = Ru M_M_land d Q 133 [some (.ref a0), some (.int a1), some (.int a2), some (.int a3), some (.int a4)] [.int 0, .int x0, .ref x1] τ) ∧
    (∀ (a0 : Nat) (a1 : Int32) (a2 : Int32) (a3 : Int32) (a4 : Int32) (x0 : Int32) (x1 : Int32) (x2 : Nat) (τ : St), Ru M_M_land d Q 133 [some (.ref a0), some (.int a1), some (.int a2), some (.int a3), some (.int a4)] [.int x0, .int x1, .ref x2] τ = Ru M_M_land d Q 141 [some (.ref a0), some (.int a1), some (.int a2), some (.int a3), some (.int a4)] [.int x0, .int x1, .ref x2] τ) ∧
    (∀ (a0 : Nat) (a1 : Int32) (a2 : Int32) (a3 : Int32) (a4 : Int32) (x0 : Int32) (x1 : Nat) (τ : St), Ru M_M_land d Q 136 [some (.ref a0), some (.int a1), some (.int a2), some (.int a3), some (.int a4)] [.int x0, .ref x1] τ = Ru M_M_land d Q 138 [some (.ref a0), some (.int a1), some (.int a2), some (.int a3), some (.int a4)] [.int a4, .int x0, .ref x1] τ) ∧
    (∀ (a0 : Nat) (a1 : Int32) (a2 : Int32) (a3 : Int32) (a4 : Int32) (x0 : Int32) (x1 : Int32) (x2 : Nat) (τ : St), Ru M_M_land d Q 138 [some (.ref a0), some (.int a1), some (.int a2), some (.int a3), some (.int a4)] [.int x0, .int x1, .ref x2] τ = Ru M_M_land d Q 140 [some (.ref a0), some (.int a1), some (.int a2), some (.int a3), some (.int a4)] [.int 9, .int x0, .int x1, .ref x2] τ) ∧
    (∀ (a0 : Nat) (a1 : Int32) (a2 : Int32) (a3 : Int32) (a4 : Int32) (x0 : Int32) (x1 : Int32) (x2 : Int32) (x3 : Nat) (τ : St), Ru M_M_land d Q 140 [some (.ref a0), some (.int a1), some (.int a2), some (.int a3), some (.int a4)] [.int x0, .int x1, .int x2, .ref x3] τ = Ru M_M_land d Q 141 [some (.ref a0), some (.int a1), some (.int a2), some (.int a3), some (.int a4)] [.int (x1 - x0), .int x2, .ref x3] τ) ∧
    (∀ (a0 : Nat) (a1 : Int32) (a2 : Int32) (a3 : Int32) (a4 : Int32) (x0 : Int32) (x1 : Int32) (x2 : Nat) (τ : St), Ru M_M_land d Q 141 [some (.ref a0), some (.int a1), some (.int a2), some (.int a3), some (.int a4)] [.int x0, .int x1, .ref x2] τ = (isA 14 x2 ∧ vp_in x1 (len x2) ∧ Ru M_M_land d Q 142 [some (.ref a0), some (.int a1), some (.int a2), some (.int a3), some (.int a4)] [] (sI τ x2 x1.toNatClampNeg (x0)))) ∧
    (∀ (a0 : Nat) (a1 : Int32) (a2 : Int32) (a3 : Int32) (a4 : Int32) (τ : St), Ru M_M_land d Q 142 [some (.ref a0), some (.int a1), some (.int a2), some (.int a3), some (.int a4)] [] τ = Ru M_M_land d Q 143 [some (.ref a0), some (.int a1), some (.int a2), some (.int a3), some (.int a4)] [.ref a0] τ) ∧
    (∀ (a0 : Nat) (a1 : Int32) (a2 : Int32) (a3 : Int32) (a4 : Int32) (x0 : Nat) (τ : St), Ru M_M_land d Q 143 [some (.ref a0), some (.int a1), some (.int a2), some (.int a3), some (.int a4)] [.ref x0] τ = (isA 12 x0 ∧ Ru M_M_land d Q 146 [some (.ref a0), some (.int a1), some (.int a2), some (.int a3), some (.int a4)] [.ref (rtab x0 8)] τ)) ∧
    (∀ (a0 : Nat) (a1 : Int32) (a2 : Int32) (a3 : Int32) (a4 : Int32) (x0 : Nat) (τ : St), Ru M_M_land d Q 146 [some (.ref a0), some (.int a1), some (.int a2), some (.int a3), some (.int a4)] [.ref x0] τ = Ru M_M_land d Q 147 [some (.ref a0), some (.int a1), some (.int a2), some (.int a3), some (.int a4)] [.int a3, .ref x0] τ) ∧
    (∀ (a0 : Nat) (a1 : Int32) (a2 : Int32) (a3 : Int32) (a4 : Int32) (x0 : Int32) (x1 : Nat) (τ : St), Ru M_M_land d Q 147 [some (.ref a0), some (.int a1), some (.int a2), some (.int a3), some (.int a4)] [.int x0, .ref x1] τ = Ru M_M_land d Q 149 [some (.ref a0), some (.int a1), some (.int a2), some (.int a3), some (.int a4)] [.int a4, .int x0, .ref x1] τ) ∧
    (∀ (a0 : Nat) (a1 : Int32) (a2 : Int32) (a3 : Int32) (a4 : Int32) (x0 : Int32) (x1 : Int32) (x2 : Nat) (τ : St), Ru M_M_land d Q 149 [some (.ref a0), some (.int a1), some (.int a2), some (.int a3), some (.int a4)] [.int x0, .int x1, .ref x2] τ = Ru M_M_land d Q 151 [some (.ref a0), some (.int a1), some (.int a2), some (.int a3), some (.int a4)] [.int 10, .int x0, .int x1, .ref x2] τ) ∧
    (∀ (a0 : Nat) (a1 : Int32) (a2 : Int32) (a3 : Int32) (a4 : Int32) (x0 : Int32) (x1 : Int32) (x2 : Int32) (x3 : Nat) (τ : St), Ru M_M_land d Q 151 [some (.ref a0), some (.int a1), some (.int a2), some (.int a3), some (.int a4)] [.int x0, .int x1, .int x2, .ref x3] τ = ((x0 ≤ x1 → Ru M_M_land d Q 159 [some (.ref a0), some (.int a1), some (.int a2), some (.int a3), some (.int a4)] [.int x2, .ref x3] τ) ∧ (¬ x0 ≤ x1 → Ru M_M_land d Q 154 [some (.ref a0), some (.int a1), some (.int a2), some (.int a3), some (.int a4)] [.int x2, .ref x3] τ))) ∧
    (∀ (a0 : Nat) (a1 : Int32) (a2 : Int32) (a3 : Int32) (a4 : Int32) (x0 : Int32) (x1 : Nat) (τ : St), Ru M_M_land d Q 154 [some (.ref a0), some (.int a1), some (.int a2), some (.int a3), some (.int a4)] [.int x0, .ref x1] τ = Ru M_M_land d Q 156 [some (.ref a0), some (.int a1), some (.int a2), some (.int a3), some (.int a4)] [.int a4, .int x0, .ref x1] τ) ∧
    (∀ (a0 : Nat) (a1 : Int32) (a2 : Int32) (a3 : Int32) (a4 : Int32) (x0 : Int32) (x1 : Int32) (x2 : Nat) (τ : St), Ru M_M_land d Q 156 [some (.ref a0), some (.int a1), some (.int a2), some (.int a3), some (.int a4)] [.int x0, .int x1, .ref x2] τ = Ru M_M_land d Q 160 [some (.ref a0), some (.int a1), some (.int a2), some (.int a3), some (.int a4)] [.int x0, .int x1, .ref x2] τ) ∧
    (∀ (a0 : Nat) (a1 : Int32) (a2 : Int32) (a3 : Int32) (a4 : Int32) (x0 : Int32) (x1 : Nat) (τ : St), Ru M_M_land d Q 159 [some (.ref a0), some (.int a1), some (.int a2), some (.int a3), some (.int a4)] [.int x0, .ref x1] τ = Ru M_M_land d Q 160 [some (.ref a0), some (.int a1), some (.int a2), some (.int a3), some (.int a4)] [.int 0, .int x0, .ref x1] τ) ∧
    (∀ (a0 : Nat) (a1 : Int32) (a2 : Int32) (a3 : Int32) (a4 : Int32) (x0 : Int32) (x1 : Int32) (x2 : Nat) (τ : St), Ru M_M_land d Q 160 [some (.ref a0), some (.int a1), some (.int a2), some (.int a3), some (.int a4)] [.int x0, .int x1, .ref x2] τ = (isA 14 x2 ∧ vp_in x1 (len x2) ∧ Ru M_M_land d Q 161 [some (.ref a0), some (.int a1), some (.int a2), some (.int a3), some (.int a4)] [] (sI τ x2 x1.toNatClampNeg (x0)))) ∧
    (∀ (a0 : Nat) (a1 : Int32) (a2 : Int32) (a3 : Int32) (a4 : Int32) (τ : St), Ru M_M_land d Q 161 [some (.ref a0), some (.int a1), some (.int a2), some (.int a3), some (.int a4)] [] τ = Ru M_M_land d Q 164 [some (.ref a0), some (.int a1), some (.int a2), some (.int (a3 + 1)), some (.int a4)] [] τ) ∧
    (∀ (a0 : Nat) (a1 : Int32) (a2 : Int32) (a3 : Int32) (a4 : Int32) (τ : St), Ru M_M_land d Q 164 [some (.ref a0), some (.int a1), some (.int a2), some (.int a3), some (.int a4)] [] τ = Rs M_M_land d Q 93 [some (.ref a0), some (.int a1), some (.int a2), some (.int a3), some (.int a4)] [] τ) ∧
    (∀ (a0 : Nat) (a1 : Int32) (a2 : Int32) (a3 : Int32) (a4 : Option Value) (τ : St), Ru M_M_land d Q 167 [some (.ref a0), some (.int a1), some (.int a2), some (.int a3), a4] [] τ = Ru M_M_land d Q 168 [some (.ref a0), some (.int a1), some (.int a2), some (.int a3), a4] [.int 0] τ) ∧
    (∀ (a0 : Nat) (a1 : Int32) (a2 : Int32) (a3 : Int32) (a4 : Option Value) (x0 : Int32) (τ : St), Ru M_M_land d Q 168 [some (.ref a0), some (.int a1), some (.int a2), some (.int a3), a4] [.int x0] τ = Rs M_M_land d Q 169 [some (.ref a0), some (.int a1), some (.int a2), some (.int x0), a4] [] τ) ∧
    (∀ (a0 : Nat) (a1 : Int32) (a2 : Int32) (a3 : Int32) (a4 : Option Value) (τ : St), Ru M_M_land d Q 169 [some (.ref a0), some (.int a1), some (.int a2), some (.int a3), a4] [] τ = Ru M_M_land d Q 170 [some (.ref a0), some (.int a1), some (.int a2), some (.int a3), a4] [.int a3] τ) ∧
    (∀ (a0 : Nat) (a1 : Int32) (a2 : Int32) (a3 : Int32) (a4 : Option Value) (x0 : Int32) (τ : St), Ru M_M_land d Q 170 [some (.ref a0), some (.int a1), some (.int a2), some (.int a3), a4] [.int x0] τ = Ru M_M_land d Q 172 [some (.ref a0), some (.int a1), some (.int a2), some (.int a3), a4] [.int 50, .int x0] τ) ∧
    (∀ (a0 : Nat) (a1 : Int32) (a2 : Int32) (a3 : Int32) (a4 : Option Value) (x0 : Int32) (x1 : Int32) (τ : St), Ru M_M_land d Q 172 [some (.ref a0), some (.int a1), some (.int a2), some (.int a3), a4] [.int x0, .int x1] τ = ((x0 ≤ x1 → Ru M_M_land d Q 188 [some (.ref a0), some (.int a1), some (.int a2), some (.int a3), a4] [] τ) ∧ (¬ x0 ≤ x1 → Ru M_M_land d Q 175 [some (.ref a0), some (.int a1), some (.int a2), some (.int a3), a4] [] τ))) ∧
    (∀ (a0 : Nat) (a1 : Int32) (a2 : Int32) (a3 : Int32) (a4 : Option Value) (τ : St), Ru M_M_land d Q 175 [some (.ref a0), some (.int a1), some (.int a2), some (.int a3), a4] [] τ = Ru M_M_land d Q 176 [some (.ref a0), some (.int a1), some (.int a2), some (.int a3), a4] [.ref a0] τ) ∧
    (∀ (a0 : Nat) (a1 : Int32) (a2 : Int32) (a3 : Int32) (a4 : Option Value) (x0 : Nat) (τ : St), Ru M_M_land d Q 176 [some (.ref a0), some (.int a1), some (.int a2), some (.int a3), a4] [.ref x0] τ = (isA 12 x0 ∧ Ru M_M_land d Q 179 [some (.ref a0), some (.int a1), some (.int a2), some (.int a3), a4] [.ref (rtab x0 11)] τ)) ∧
    (∀ (a0 : Nat) (a1 : Int32) (a2 : Int32) (a3 : Int32) (a4 : Option Value) (x0 : Nat) (τ : St), Ru M_M_land d Q 179 [some (.ref a0), some (.int a1), some (.int a2), some (.int a3), a4] [.ref x0] τ = Ru M_M_land d Q 180 [some (.ref a0), some (.int a1), some (.int a2), some (.int a3), a4] [.int a3, .ref x0] τ) ∧
    (∀ (a0 : Nat) (a1 : Int32) (a2 : Int32) (a3 : Int32) (a4 : Option Value) (x0 : Int32) (x1 : Nat) (τ : St), Ru M_M_land d Q 180 [some (.ref a0), some (.int a1), some (.int a2), some (.int a3), a4] [.int x0, .ref x1] τ = Ru M_M_land d Q 181 [some (.ref a0), some (.int a1), some (.int a2), some (.int a3), a4] [.int 0, .int x0, .ref x1] τ) ∧
    (∀ (a0 : Nat) (a1 : Int32) (a2 : Int32) (a3 : Int32) (a4 : Option Value) (x0 : Int32) (x1 : Int32) (x2 : Nat) (τ : St), Ru M_M_land d Q 181 [some (.ref a0), some (.int a1), some (.int a2), some (.int a3), a4] [.int x0, .int x1, .ref x2] τ = (isA 14 x2 ∧ vp_in x1 (len x2) ∧ Ru M_M_land d Q 182 [some (.ref a0), some (.int a1), some (.int a2), some (.int a3), a4] [] (sI τ x2 x1.toNatClampNeg (x0)))) ∧
    (∀ (a0 : Nat) (a1 : Int32) (a2 : Int32) (a3 : Int32) (a4 : Option Value) (τ : St), Ru M_M_land d Q 182 [some (.ref a0), some (.int a1), some (.int a2), some (.int a3), a4] [] τ = Ru M_M_land d Q 185 [some (.ref a0), some (.int a1), some (.int a2), some (.int (a3 + 1)), a4] [] τ) ∧
    (∀ (a0 : Nat) (a1 : Int32) (a2 : Int32) (a3 : Int32) (a4 : Option Value) (τ : St), Ru M_M_land d Q 185 [some (.ref a0), some (.int a1), some (.int a2), some (.int a3), a4] [] τ = Rs M_M_land d Q 169 [some (.ref a0), some (.int a1), some (.int a2), some (.int a3), a4] [] τ) ∧
    (∀ (a0 : Nat) (a1 : Int32) (a2 : Int32) (a3 : Int32) (a4 : Option Value) (τ : St), Ru M_M_land d Q 188 [some (.ref a0), some (.int a1), some (.int a2), some (.int a3), a4] [] τ = Ru M_M_land d Q 189 [some (.ref a0), some (.int a1), some (.int a2), some (.int a3), a4] [.ref a0] τ) ∧
    (∀ (a0 : Nat) (a1 : Int32) (a2 : Int32) (a3 : Int32) (a4 : Option Value) (x0 : Nat) (τ : St), Ru M_M_land d Q 189 [some (.ref a0), some (.int a1), some (.int a2), some (.int a3), a4] [.ref x0] τ = Ru M_M_land d Q 190 [some (.ref a0), some (.int a1), some (.int a2), some (.int a3), a4] [.int 0, .ref x0] τ) ∧
    (∀ (a0 : Nat) (a1 : Int32) (a2 : Int32) (a3 : Int32) (a4 : Option Value) (x0 : Int32) (x1 : Nat) (τ : St), Ru M_M_land d Q 190 [some (.ref a0), some (.int a1), some (.int a2), some (.int a3), a4] [.int x0, .ref x1] τ = (isA 12 x1 ∧ Ru M_M_land d Q 193 [some (.ref a0), some (.int a1), some (.int a2), some (.int a3), a4] [] (sI τ x1 5 x0))) ∧
    (∀ (a0 : Nat) (a1 : Int32) (a2 : Int32) (a3 : Int32) (a4 : Option Value) (τ : St), Ru M_M_land d Q 193 [some (.ref a0), some (.int a1), some (.int a2), some (.int a3), a4] [] τ = Ru M_M_land d Q 194 [some (.ref a0), some (.int a1), some (.int a2), some (.int a3), a4] [.ref a0] τ) ∧
    (∀ (a0 : Nat) (a1 : Int32) (a2 : Int32) (a3 : Int32) (a4 : Option Value) (x0 : Nat) (τ : St), Ru M_M_land d Q 194 [some (.ref a0), some (.int a1), some (.int a2), some (.int a3), a4] [.ref x0] τ = Ru M_M_land d Q 195 [some (.ref a0), some (.int a1), some (.int a2), some (.int a3), a4] [.int 0, .ref x0] τ) ∧
    (∀ (a0 : Nat) (a1 : Int32) (a2 : Int32) (a3 : Int32) (a4 : Option Value) (x0 : Int32) (x1 : Nat) (τ : St), Ru M_M_land d Q 195 [some (.ref a0), some (.int a1), some (.int a2), some (.int a3), a4] [.int x0, .ref x1] τ = (isA 12 x1 ∧ Ru M_M_land d Q 198 [some (.ref a0), some (.int a1), some (.int a2), some (.int a3), a4] [] (sI τ x1 45 x0))) ∧
    (∀ (a0 : Nat) (a1 : Int32) (a2 : Int32) (a3 : Int32) (a4 : Option Value) (τ : St), Ru M_M_land d Q 198 [some (.ref a0), some (.int a1), some (.int a2), some (.int a3), a4] [] τ = Ru M_M_land d Q 199 [some (.ref a0), some (.int a1), some (.int a2), some (.int a3), a4] [.ref a0] τ) ∧
    (∀ (a0 : Nat) (a1 : Int32) (a2 : Int32) (a3 : Int32) (a4 : Option Value) (x0 : Nat) (τ : St), Ru M_M_land d Q 199 [some (.ref a0), some (.int a1), some (.int a2), some (.int a3), a4] [.ref x0] τ = Ru M_M_land d Q 200 [some (.ref a0), some (.int a1), some (.int a2), some (.int a3), a4] [.int 0, .ref x0] τ) ∧
    (∀ (a0 : Nat) (a1 : Int32) (a2 : Int32) (a3 : Int32) (a4 : Option Value) (x0 : Int32) (x1 : Nat) (τ : St), Ru M_M_land d Q 200 [some (.ref a0), some (.int a1), some (.int a2), some (.int a3), a4] [.int x0, .ref x1] τ = (isA 12 x1 ∧ Ru M_M_land d Q 203 [some (.ref a0), some (.int a1), some (.int a2), some (.int a3), a4] [] (sI τ x1 28 x0))) ∧
    (∀ (a0 : Nat) (a1 : Int32) (a2 : Int32) (a3 : Int32) (a4 : Option Value) (τ : St), Ru M_M_land d Q 203 [some (.ref a0), some (.int a1), some (.int a2), some (.int a3), a4] [] τ = Ru M_M_land d Q 204 [some (.ref a0), some (.int a1), some (.int a2), some (.int a3), a4] [.ref a0] τ) ∧
    (∀ (a0 : Nat) (a1 : Int32) (a2 : Int32) (a3 : Int32) (a4 : Option Value) (x0 : Nat) (τ : St), Ru M_M_land d Q 204 [some (.ref a0), some (.int a1), some (.int a2), some (.int a3), a4] [.ref x0] τ = Ru M_M_land d Q 205 [some (.ref a0), some (.int a1), some (.int a2), some (.int a3), a4] [.ref x0, .ref x0] τ) ∧
    (∀ (a0 : Nat) (a1 : Int32) (a2 : Int32) (a3 : Int32) (a4 : Option Value) (x0 : Nat) (x1 : Nat) (τ : St), Ru M_M_land d Q 205 [some (.ref a0), some (.int a1), some (.int a2), some (.int a3), a4] [.ref x0, .ref x1] τ = (isA 12 x0 ∧ Ru M_M_land d Q 208 [some (.ref a0), some (.int a1), some (.int a2), some (.int a3), a4] [.int (τ.1 x0 6), .ref x1] τ)) ∧
    (∀ (a0 : Nat) (a1 : Int32) (a2 : Int32) (a3 : Int32) (a4 : Option Value) (x0 : Int32) (x1 : Nat) (τ : St), Ru M_M_land d Q 208 [some (.ref a0), some (.int a1), some (.int a2), some (.int a3), a4] [.int x0, .ref x1] τ = Ru M_M_land d Q 209 [some (.ref a0), some (.int a1), some (.int a2), some (.int a3), a4] [.int 1, .int x0, .ref x1] τ) ∧
    (∀ (a0 : Nat) (a1 : Int32) (a2 : Int32) (a3 : Int32) (a4 : Option Value) (x0 : Int32) (x1 : Int32) (x2 : Nat) (τ : St), Ru M_M_land d Q 209 [some (.ref a0), some (.int a1), some (.int a2), some (.int a3), a4] [.int x0, .int x1, .ref x2] τ = Ru M_M_land d Q 210 [some (.ref a0), some (.int a1), some (.int a2), some (.int a3), a4] [.int (x1 + x0), .ref x2] τ) ∧
    (∀ (a0 : Nat) (a1 : Int32) (a2 : Int32) (a3 : Int32) (a4 : Option Value) (x0 : Int32) (x1 : Nat) (τ : St), Ru M_M_land d Q 210 [some (.ref a0), some (.int a1), some (.int a2), some (.int a3), a4] [.int x0, .ref x1] τ = (isA 12 x1 ∧ Ru M_M_land d Q 213 [some (.ref a0), some (.int a1), some (.int a2), some (.int a3), a4] [] (sI τ x1 6 x0))) ∧
    (∀ (a0 : Nat) (a1 : Int32) (a2 : Int32) (a3 : Int32) (a4 : Option Value) (τ : St), Ru M_M_land d Q 213 [some (.ref a0), some (.int a1), some (.int a2), some (.int a3), a4] [] τ = Ru M_M_land d Q 214 [some (.ref a0), some (.int a1), some (.int a2), some (.int a3), a4] [.ref a0] τ) ∧
    (∀ (a0 : Nat) (a1 : Int32) (a2 : Int32) (a3 : Int32) (a4 : Option Value) (x0 : Nat) (τ : St), Ru M_M_land d Q 214 [some (.ref a0), some (.int a1), some (.int a2), some (.int a3), a4] [.ref x0] τ = (isA 12 x0 ∧ Cl d m_M_fields [.ref x0] τ (fun v τ' => Ru M_M_land d Q 217 [some (.ref a0), some (.int a1), some (.int a2), some (.int a3), a4] (v.toList ++ []) τ'))) ∧
    (∀ (a0 : Nat) (a1 : Int32) (a2 : Int32) (a3 : Int32) (a4 : Option Value) (x0 : Int32) (τ : St), Ru M_M_land d Q 217 [some (.ref a0), some (.int a1), some (.int a2), some (.int a3), a4] [.int x0] τ = Q (some (.int x0)) τ) := ⟨
  fun _ _ => (R_at ok_M_land rfl).trans (e_ald rfl),
  fun _ _ _ => (R_at ok_M_land rfl).trans e_push,
  fun _ _ _ _ => (R_at ok_M_land rfl).trans e_pI,
  fun _ _ => (R_at ok_M_land rfl).trans (e_ald rfl),
  fun _ _ _ => (R_at ok_M_land rfl).trans e_push,
  fun _ x0 _ _ => (R_at ok_M_land rfl).trans (e_cv [.int x0] rfl rfl rfl),
  fun _ _ _ => (R_at ok_M_land rfl).trans (e_pop rfl),
  fun _ _ => (R_at ok_M_land rfl).trans (e_ald rfl),
  fun _ _ _ => (R_at ok_M_land rfl).trans e_push,
  fun _ _ _ _ => (R_at ok_M_land rfl).trans e_pI,
  fun _ _ => (R_at ok_M_land rfl).trans (e_ald rfl),
  fun _ _ _ => (R_at ok_M_land rfl).trans e_push,
  fun _ x0 _ _ => (R_at ok_M_land rfl).trans (e_cv [.int x0] rfl rfl rfl),
  fun _ _ _ => (R_at ok_M_land rfl).trans e_ist,
  fun _ _ _ => (R_at ok_M_land rfl).trans e_push,
  fun _ _ _ _ => (R_at ok_M_land rfl).trans e_ist,
  fun _ _ _ _ => (R_at ok_M_land rfl).trans (e_ild rfl),
  fun _ _ _ _ _ => (R_at ok_M_land rfl).trans e_if,
  fun _ _ _ _ => (R_at ok_M_land rfl).trans (e_ild rfl),
  fun _ _ _ _ _ => (R_at ok_M_land rfl).trans e_push,
  fun _ _ _ _ _ _ => (R_at ok_M_land rfl).trans e_ic,
  fun _ _ _ _ => (R_at ok_M_land rfl).trans (e_ald rfl),
  fun _ _ _ _ _ => (R_at ok_M_land rfl).trans e_push,
  fun _ _ _ x0 _ _ => (R_at ok_M_land rfl).trans (e_cv [.int x0] rfl rfl rfl),
  fun _ _ _ _ _ => (R_at ok_M_land rfl).trans e_if,
  fun _ _ _ _ => (R_at ok_M_land rfl).trans (e_ald rfl),
  fun _ _ _ _ _ => (R_at ok_M_land rfl).trans (e_ild rfl),
  fun _ _ _ x0 _ _ => (R_at ok_M_land rfl).trans (e_cv [.int x0] rfl rfl rfl),
  fun _ _ _ _ _ => (R_at ok_M_land rfl).trans e_ist,
  fun _ _ _ _ => (R_at ok_M_land rfl).trans (e_iinc rfl),
  fun _ _ _ _ => (R_at ok_M_land rfl).trans e_goto,
  fun _ _ _ _ => (R_at ok_M_land rfl).trans (e_ild rfl),
  fun _ _ _ _ _ => (R_at ok_M_land rfl).trans e_if,
  fun _ _ _ _ => (R_at ok_M_land rfl).trans (e_ald rfl),
  fun _ _ _ _ _ => (R_at ok_M_land rfl).trans e_gI,
  fun _ _ _ _ _ => (R_at ok_M_land rfl).trans (e_ald rfl),
  fun _ _ _ _ _ _ => (R_at ok_M_land rfl).trans e_gI,
  fun _ _ _ _ _ _ => (R_at ok_M_land rfl).trans e_ic,
  fun _ _ _ _ => (R_at ok_M_land rfl).trans e_push,
  fun _ _ _ _ _ => (R_at ok_M_land rfl).trans (e_ald rfl),
  fun _ _ _ _ _ _ => (R_at ok_M_land rfl).trans e_gI,
  fun _ _ _ _ _ _ => (R_at ok_M_land rfl).trans e_bin,
  fun _ _ _ _ _ => (R_at ok_M_land rfl).trans e_iret,
  fun _ _ _ _ => (R_at ok_M_land rfl).trans (e_ald rfl),
  fun _ _ _ _ _ => (R_at ok_M_land rfl).trans (e_ild rfl),
  fun _ _ _ _ _ _ => (R_at ok_M_land rfl).trans e_pI,
  fun _ _ _ _ => (R_at ok_M_land rfl).trans (e_ald rfl),
  fun _ _ _ _ _ => (R_at ok_M_land rfl).trans (e_ald rfl),
  fun _ _ _ _ _ _ => (R_at ok_M_land rfl).trans e_gI,
  fun _ _ _ _ _ _ => (R_at ok_M_land rfl).trans e_pI,
  fun _ _ _ _ => (R_at ok_M_land rfl).trans e_push,
  fun _ _ _ _ _ => (R_at ok_M_land rfl).trans e_ist,
  fun _ _ _ _ _ _ => (R_at ok_M_land rfl).trans (e_ild rfl),
  fun _ _ _ _ _ _ _ => (R_at ok_M_land rfl).trans e_push,
  fun _ _ _ _ _ _ _ _ => (R_at ok_M_land rfl).trans e_ic,
  fun _ _ _ _ _ _ => (R_at ok_M_land rfl).trans (e_ild rfl),
  fun _ _ _ _ _ _ _ => (R_at ok_M_land rfl).trans (e_ald rfl),
  fun _ _ _ _ _ _ _ _ => (R_at ok_M_land rfl).trans (e_cv [] rfl rfl rfl),
  fun _ _ _ _ _ _ _ _ => (R_at ok_M_land rfl).trans e_ic,
  fun _ _ _ _ _ _ => (R_at ok_M_land rfl).trans (e_ald rfl),
  fun _ _ _ _ _ _ _ => (R_at ok_M_land rfl).trans e_gR,
  fun _ _ _ _ _ _ _ => (R_at ok_M_land rfl).trans (e_ild rfl),
  fun _ _ _ _ _ _ _ _ => (R_at ok_M_land rfl).trans e_al,
  fun _ _ _ _ _ _ _ => (R_at ok_M_land rfl).trans e_goto,
  fun _ _ _ _ _ _ => (R_at ok_M_land rfl).trans e_push,
  fun _ _ _ _ _ _ _ => (R_at ok_M_land rfl).trans e_ist,
  fun _ _ _ _ _ _ => (R_at ok_M_land rfl).trans (e_ald rfl),
  fun _ _ _ _ _ _ _ => (R_at ok_M_land rfl).trans e_gR,
  fun _ _ _ _ _ _ _ => (R_at ok_M_land rfl).trans (e_ild rfl),
  fun _ _ _ _ _ _ _ _ => (R_at ok_M_land rfl).trans (e_ild rfl),
  fun _ _ _ _ _ _ _ _ _ => (R_at ok_M_land rfl).trans e_push,
  fun _ _ _ _ _ _ _ _ _ _ => (R_at ok_M_land rfl).trans e_ic,
  fun _ _ _ _ _ _ _ _ => (R_at ok_M_land rfl).trans e_push,
  fun _ _ _ _ _ _ _ _ _ => (R_at ok_M_land rfl).trans e_goto,
  fun _ _ _ _ _ _ _ _ => (R_at ok_M_land rfl).trans (e_ild rfl),
  fun _ _ _ _ _ _ _ _ _ => (R_at ok_M_land rfl).trans e_push,
  fun _ _ _ _ _ _ _ _ _ _ => (R_at ok_M_land rfl).trans e_bin,
  fun _ _ _ _ _ _ _ _ _ => (R_at ok_M_land rfl).trans e_as,
  fun _ _ _ _ _ _ => (R_at ok_M_land rfl).trans (e_ald rfl),
  fun _ _ _ _ _ _ _ => (R_at ok_M_land rfl).trans e_gR,
  fun _ _ _ _ _ _ _ => (R_at ok_M_land rfl).trans (e_ild rfl),
  fun _ _ _ _ _ _ _ _ => (R_at ok_M_land rfl).trans (e_ild rfl),
  fun _ _ _ _ _ _ _ _ _ => (R_at ok_M_land rfl).trans e_push,
  fun _ _ _ _ _ _ _ _ _ _ => (R_at ok_M_land rfl).trans e_ic,
  fun _ _ _ _ _ _ _ _ => (R_at ok_M_land rfl).trans (e_ild rfl),
  fun _ _ _ _ _ _ _ _ _ => (R_at ok_M_land rfl).trans e_goto,
  fun _ _ _ _ _ _ _ _ => (R_at ok_M_land rfl).trans e_push,
  fun _ _ _ _ _ _ _ _ _ => (R_at ok_M_land rfl).trans e_as,
  fun _ _ _ _ _ _ => (R_at ok_M_land rfl).trans (e_iinc rfl),
  fun _ _ _ _ _ _ => (R_at ok_M_land rfl).trans e_goto,
  fun _ _ _ _ _ _ => (R_at ok_M_land rfl).trans e_push,
  fun _ _ _ _ _ _ _ => (R_at ok_M_land rfl).trans e_ist,
  fun _ _ _ _ _ _ => (R_at ok_M_land rfl).trans (e_ild rfl),
  fun _ _ _ _ _ _ _ => (R_at ok_M_land rfl).trans e_push,
  fun _ _ _ _ _ _ _ _ => (R_at ok_M_land rfl).trans e_ic,
  fun _ _ _ _ _ _ => (R_at ok_M_land rfl).trans (e_ald rfl),
  fun _ _ _ _ _ _ _ => (R_at ok_M_land rfl).trans e_gR,
  fun _ _ _ _ _ _ _ => (R_at ok_M_land rfl).trans (e_ild rfl),
  fun _ _ _ _ _ _ _ _ => (R_at ok_M_land rfl).trans e_push,
  fun _ _ _ _ _ _ _ _ _ => (R_at ok_M_land rfl).trans e_as,
  fun _ _ _ _ _ _ => (R_at ok_M_land rfl).trans (e_iinc rfl),
  fun _ _ _ _ _ _ => (R_at ok_M_land rfl).trans e_goto,
  fun _ _ _ _ _ _ => (R_at ok_M_land rfl).trans (e_ald rfl),
  fun _ _ _ _ _ _ _ => (R_at ok_M_land rfl).trans e_push,
  fun _ _ _ _ _ _ _ _ => (R_at ok_M_land rfl).trans e_pI,
  fun _ _ _ _ _ _ => (R_at ok_M_land rfl).trans (e_ald rfl),
  fun _ _ _ _ _ _ _ => (R_at ok_M_land rfl).trans e_push,
  fun _ _ _ _ _ _ _ _ => (R_at ok_M_land rfl).trans e_pI,
  fun _ _ _ _ _ _ => (R_at ok_M_land rfl).trans (e_ald rfl),
  fun _ _ _ _ _ _ _ => (R_at ok_M_land rfl).trans e_push,
  fun _ _ _ _ _ _ _ _ => (R_at ok_M_land rfl).trans e_pI,
  fun _ _ _ _ _ _ => (R_at ok_M_land rfl).trans (e_ald rfl),
  fun _ _ _ _ _ _ _ => (R_at ok_M_land rfl).trans (e_dup rfl),
  fun _ _ _ _ _ _ _ _ => (R_at ok_M_land rfl).trans e_gI,
  fun _ _ _ _ _ _ _ _ => (R_at ok_M_land rfl).trans e_push,
  fun _ _ _ _ _ _ _ _ _ => (R_at ok_M_land rfl).trans e_bin,
  fun _ _ _ _ _ _ _ _ => (R_at ok_M_land rfl).trans e_pI,
  fun _ _ _ _ _ _ => (R_at ok_M_land rfl).trans (e_ald rfl),
  fun _ _ _ _ _ _ _ => (R_at ok_M_land rfl).trans (e_cv [] rfl rfl rfl),
  fun _ _ _ _ _ _ _ => (R_at ok_M_land rfl).trans e_iret⟩
set_option maxHeartbeats 4000000 in
theorem N_M_readsShip (d : Nat) (Q : Qt) : ∀ (x0 : Nat) (τ : St), Cl (d + 1) m_M_readsShip [.ref x0] τ Q = Ru M_M_readsShip d Q 0 [some (.ref x0), none] [] τ := fun _ _ => propext ⟨fun h => h.2, fun h => ⟨Nat.le_of_ble_eq_true rfl, h⟩⟩
set_option maxHeartbeats 4000000 in
theorem E_M_readsShip (d : Nat) (Q : Qt) :
    (∀ (a0 : Nat) (τ : St), Ru M_M_readsShip d Q 0 [some (.ref a0), none] [] τ = Ru M_M_readsShip d Q 1 [some (.ref a0), none] [.ref a0] τ) ∧
    (∀ (a0 : Nat) (x0 : Nat) (τ : St), Ru M_M_readsShip d Q 1 [some (.ref a0), none] [.ref x0] τ = (isA 12 x0 ∧ Ru M_M_readsShip d Q 4 [some (.ref a0), none] [.int (τ.1 x0 5)] τ)) ∧
    (∀ (a0 : Nat) (x0 : Int32) (τ : St), Ru M_M_readsShip d Q 4 [some (.ref a0), none] [.int x0] τ = Ru M_M_readsShip d Q 5 [some (.ref a0), none] [.ref a0, .int x0] τ) ∧
    (∀ (a0 : Nat) (x0 : Nat) (x1 : Int32) (τ : St), Ru M_M_readsShip d Q 5 [some (.ref a0), none] [.ref x0, .int x1] τ = (isA 12 x0 ∧ Ru M_M_readsShip d Q 8 [some (.ref a0), none] [.int (τ.1 x0 21), .int x1] τ)) ∧
    (∀ (a0 : Nat) (x0 : Int32) (x1 : Int32) (τ : St), Ru M_M_readsShip d Q 8 [some (.ref a0), none] [.int x0, .int x1] τ = Ru M_M_readsShip d Q 9 [some (.ref a0), none] [.int (x1 + x0)] τ) ∧
    (∀ (a0 : Nat) (x0 : Int32) (τ : St), Ru M_M_readsShip d Q 9 [some (.ref a0), none] [.int x0] τ = Ru M_M_readsShip d Q 11 [some (.ref a0), none] [.int 8, .int x0] τ) ∧
    (∀ (a0 : Nat) (x0 : Int32) (x1 : Int32) (τ : St), Ru M_M_readsShip d Q 11 [some (.ref a0), none] [.int x0, .int x1] τ = ((¬ x1 = x0 → Ru M_M_readsShip d Q 16 [some (.ref a0), none] [] τ) ∧ (x1 = x0 → Ru M_M_readsShip d Q 14 [some (.ref a0), none] [] τ))) ∧
    (∀ (a0 : Nat) (τ : St), Ru M_M_readsShip d Q 14 [some (.ref a0), none] [] τ = Ru M_M_readsShip d Q 15 [some (.ref a0), none] [.int 0] τ) ∧
    (∀ (a0 : Nat) (x0 : Int32) (τ : St), Ru M_M_readsShip d Q 15 [some (.ref a0), none] [.int x0] τ = ((x0 = 0 ∨ x0 = 1) ∧ Q (some (.int x0)) τ)) ∧
    (∀ (a0 : Nat) (τ : St), Ru M_M_readsShip d Q 16 [some (.ref a0), none] [] τ = Ru M_M_readsShip d Q 17 [some (.ref a0), none] [.int 2] τ) ∧
    (∀ (a0 : Nat) (x0 : Int32) (τ : St), Ru M_M_readsShip d Q 17 [some (.ref a0), none] [.int x0] τ = Ru M_M_readsShip d Q 18 [some (.ref a0), none] [.ref a0, .int x0] τ) ∧
    (∀ (a0 : Nat) (x0 : Nat) (x1 : Int32) (τ : St), Ru M_M_readsShip d Q 18 [some (.ref a0), none] [.ref x0, .int x1] τ = (isA 12 x0 ∧ Ru M_M_readsShip d Q 21 [some (.ref a0), none] [.int (τ.1 x0 21), .int x1] τ)) ∧
    (∀ (a0 : Nat) (x0 : Int32) (x1 : Int32) (τ : St), Ru M_M_readsShip d Q 21 [some (.ref a0), none] [.int x0, .int x1] τ = Ru M_M_readsShip d Q 22 [some (.ref a0), none] [.int (x1 * x0)] τ) ∧
    (∀ (a0 : Nat) (x0 : Int32) (τ : St), Ru M_M_readsShip d Q 22 [some (.ref a0), none] [.int x0] τ = Ru M_M_readsShip d Q 23 [some (.ref a0), some (.int x0)] [] τ) ∧
    (∀ (a0 : Nat) (a1 : Int32) (τ : St), Ru M_M_readsShip d Q 23 [some (.ref a0), some (.int a1)] [] τ = Ru M_M_readsShip d Q 24 [some (.ref a0), some (.int a1)] [.ref a0] τ) ∧
    (∀ (a0 : Nat) (a1 : Int32) (x0 : Nat) (τ : St), Ru M_M_readsShip d Q 24 [some (.ref a0), some (.int a1)] [.ref x0] τ = (isA 12 x0 ∧ Ru M_M_readsShip d Q 27 [some (.ref a0), some (.int a1)] [.ref (rtab x0 20)] τ)) ∧
    (∀ (a0 : Nat) (a1 : Int32) (x0 : Nat) (τ : St), Ru M_M_readsShip d Q 27 [some (.ref a0), some (.int a1)] [.ref x0] τ = Ru M_M_readsShip d Q 28 [some (.ref a0), some (.int a1)] [.int a1, .ref x0] τ) ∧
    (∀ (a0 : Nat) (a1 : Int32) (x0 : Int32) (x1 : Nat) (τ : St), Ru M_M_readsShip d Q 28 [some (.ref a0), some (.int a1)] [.int x0, .ref x1] τ = Ru M_M_readsShip d Q 29 [some (.ref a0), some (.int a1)] [.ref a0, .int x0, .ref x1] τ) ∧
    (∀ (a0 : Nat) (a1 : Int32) (x0 : Nat) (x1 : Int32) (x2 : Nat) (τ : St), Ru M_M_readsShip d Q 29 [some (.ref a0), some (.int a1)] [.ref x0, .int x1, .ref x2] τ = Ru M_M_readsShip d Q 30 [some (.ref a0), some (.int a1)] [.int 2, .ref x0, .int x1, .ref x2] τ) ∧
    (∀ (a0 : Nat) (a1 : Int32) (x0 : Int32) (x1 : Nat) (x2 : Int32) (x3 : Nat) (τ : St), Ru M_M_readsShip d Q 30 [some (.ref a0), some (.int a1)] [.int x0, .ref x1, .int x2, .ref x3] τ = (isA 12 x1 ∧ Cl d m_M_number [.ref x1, .int x0] τ (fun v τ' => Ru M_M_readsShip d Q 33 [some (.ref a0), some (.int a1)] (v.toList ++ [.int x2, .ref x3]) τ'))) ∧
    (∀ (a0 : Nat) (a1 : Int32) (x0 : Int32) (x1 : Int32) (x2 : Nat) (τ : St), Ru M_M_readsShip d Q 33 [some (.ref a0), some (.int a1)] [.int x0, .int x1, .ref x2] τ = (isA 14 x2 ∧ vp_in x1 (len x2) ∧ Ru M_M_readsShip d Q 34 [some (.ref a0), some (.int a1)] [] (sI τ x2 x1.toNatClampNeg (x0)))) ∧
    (∀ (a0 : Nat) (a1 : Int32) (τ : St), Ru M_M_readsShip d Q 34 [some (.ref a0), some (.int a1)] [] τ = Ru M_M_readsShip d Q 35 [some (.ref a0), some (.int a1)] [.ref a0] τ) ∧
    (∀ (a0 : Nat) (a1 : Int32) (x0 : Nat) (τ : St), Ru M_M_readsShip d Q 35 [some (.ref a0), some (.int a1)] [.ref x0] τ = (isA 12 x0 ∧ Ru M_M_readsShip d Q 38 [some (.ref a0), some (.int a1)] [.ref (rtab x0 20)] τ)) ∧
    (∀ (a0 : Nat) (a1 : Int32) (x0 : Nat) (τ : St), Ru M_M_readsShip d Q 38 [some (.ref a0), some (.int a1)] [.ref x0] τ = Ru M_M_readsShip d Q 39 [some (.ref a0), some (.int a1)] [.int a1, .ref x0] τ) ∧
    (∀ (a0 : Nat) (a1 : Int32) (x0 : Int32) (x1 : Nat) (τ : St), Ru M_M_readsShip d Q 39 [some (.ref a0), some (.int a1)] [.int x0, .ref x1] τ = (isA 14 x1 ∧ vp_in x0 (len x1) ∧ Ru M_M_readsShip d Q 40 [some (.ref a0), some (.int a1)] [.int (τ.1 x1 x0.toNatClampNeg)] τ)) ∧
    (∀ (a0 : Nat) (a1 : Int32) (x0 : Int32) (τ : St), Ru M_M_readsShip d Q 40 [some (.ref a0), some (.int a1)] [.int x0] τ = ((¬ x0 = 0 → Ru M_M_readsShip d Q 55 [some (.ref a0), some (.int a1)] [] τ) ∧ (x0 = 0 → Ru M_M_readsShip d Q 43 [some (.ref a0), some (.int a1)] [] τ))) ∧
    (∀ (a0 : Nat) (a1 : Int32) (τ : St), Ru M_M_readsShip d Q 43 [some (.ref a0), some (.int a1)] [] τ = Ru M_M_readsShip d Q 44 [some (.ref a0), some (.int a1)] [.ref a0] τ) ∧
    (∀ (a0 : Nat) (a1 : Int32) (x0 : Nat) (τ : St), Ru M_M_readsShip d Q 44 [some (.ref a0), some (.int a1)] [.ref x0] τ = Ru M_M_readsShip d Q 45 [some (.ref a0), some (.int a1)] [.ref x0, .ref x0] τ) ∧
    (∀ (a0 : Nat) (a1 : Int32) (x0 : Nat) (x1 : Nat) (τ : St), Ru M_M_readsShip d Q 45 [some (.ref a0), some (.int a1)] [.ref x0, .ref x1] τ = (isA 12 x0 ∧ Ru M_M_readsShip d Q 48 [some (.ref a0), some (.int a1)] [.int (τ.1 x0 15), .ref x1] τ)) ∧
    (∀ (a0 : Nat) (a1 : Int32) (x0 : Int32) (x1 : Nat) (τ : St), Ru M_M_readsShip d Q 48 [some (.ref a0), some (.int a1)] [.int x0, .ref x1] τ = Ru M_M_readsShip d Q 49 [some (.ref a0), some (.int a1)] [.int 1, .int x0, .ref x1] τ) ∧
    (∀ (a0 : Nat) (a1 : Int32) (x0 : Int32) (x1 : Int32) (x2 : Nat) (τ : St), Ru M_M_readsShip d Q 49 [some (.ref a0), some (.int a1)] [.int x0, .int x1, .ref x2] τ = Ru M_M_readsShip d Q 50 [some (.ref a0), some (.int a1)] [.int (x1 - x0), .ref x2] τ) ∧
    (∀ (a0 : Nat) (a1 : Int32) (x0 : Int32) (x1 : Nat) (τ : St), Ru M_M_readsShip d Q 50 [some (.ref a0), some (.int a1)] [.int x0, .ref x1] τ = (isA 12 x1 ∧ Ru M_M_readsShip d Q 53 [some (.ref a0), some (.int a1)] [] (sI τ x1 15 x0))) ∧
    (∀ (a0 : Nat) (a1 : Int32) (τ : St), Ru M_M_readsShip d Q 53 [some (.ref a0), some (.int a1)] [] τ = Ru M_M_readsShip d Q 54 [some (.ref a0), some (.int a1)] [.int 0] τ) ∧
    (∀ (a0 : Nat) (a1 : Int32) (x0 : Int32) (τ : St), Ru M_M_readsShip d Q 54 [some (.ref a0), some (.int a1)] [.int x0] τ = ((x0 = 0 ∨ x0 = 1) ∧ Q (some (.int x0)) τ)) ∧
    (∀ (a0 : Nat) (a1 : Int32) (τ : St), Ru M_M_readsShip d Q 55 [some (.ref a0), some (.int a1)] [] τ = Ru M_M_readsShip d Q 56 [some (.ref a0), some (.int a1)] [.ref a0] τ) ∧
    (∀ (a0 : Nat) (a1 : Int32) (x0 : Nat) (τ : St), Ru M_M_readsShip d Q 56 [some (.ref a0), some (.int a1)] [.ref x0] τ = (isA 12 x0 ∧ Ru M_M_readsShip d Q 59 [some (.ref a0), some (.int a1)] [.ref (rtab x0 20)] τ)) ∧
    (∀ (a0 : Nat) (a1 : Int32) (x0 : Nat) (τ : St), Ru M_M_readsShip d Q 59 [some (.ref a0), some (.int a1)] [.ref x0] τ = Ru M_M_readsShip d Q 60 [some (.ref a0), some (.int a1)] [.int a1, .ref x0] τ) ∧
    (∀ (a0 : Nat) (a1 : Int32) (x0 : Int32) (x1 : Nat) (τ : St), Ru M_M_readsShip d Q 60 [some (.ref a0), some (.int a1)] [.int x0, .ref x1] τ = (isA 14 x1 ∧ vp_in x0 (len x1) ∧ Ru M_M_readsShip d Q 61 [some (.ref a0), some (.int a1)] [.int (τ.1 x1 x0.toNatClampNeg)] τ)) ∧
    (∀ (a0 : Nat) (a1 : Int32) (x0 : Int32) (τ : St), Ru M_M_readsShip d Q 61 [some (.ref a0), some (.int a1)] [.int x0] τ = ((x0 < 0 → Ru M_M_readsShip d Q 73 [some (.ref a0), some (.int a1)] [] τ) ∧ (¬ x0 < 0 → Ru M_M_readsShip d Q 64 [some (.ref a0), some (.int a1)] [] τ))) ∧
    (∀ (a0 : Nat) (a1 : Int32) (τ : St), Ru M_M_readsShip d Q 64 [some (.ref a0), some (.int a1)] [] τ = Ru M_M_readsShip d Q 65 [some (.ref a0), some (.int a1)] [.ref a0] τ) ∧
    (∀ (a0 : Nat) (a1 : Int32) (x0 : Nat) (τ : St), Ru M_M_readsShip d Q 65 [some (.ref a0), some (.int a1)] [.ref x0] τ = Ru M_M_readsShip d Q 67 [some (.ref a0), some (.int a1)] [.int 44, .ref x0] τ) ∧
    (∀ (a0 : Nat) (a1 : Int32) (x0 : Int32) (x1 : Nat) (τ : St), Ru M_M_readsShip d Q 67 [some (.ref a0), some (.int a1)] [.int x0, .ref x1] τ = (isA 12 x1 ∧ Cl d m_M_takes [.ref x1, .int x0] τ (fun v τ' => Ru M_M_readsShip d Q 70 [some (.ref a0), some (.int a1)] (v.toList ++ []) τ'))) ∧
    (∀ (a0 : Nat) (a1 : Int32) (x0 : Int32) (τ : St), Ru M_M_readsShip d Q 70 [some (.ref a0), some (.int a1)] [.int x0] τ = ((¬ x0 = 0 → Ru M_M_readsShip d Q 75 [some (.ref a0), some (.int a1)] [] τ) ∧ (x0 = 0 → Ru M_M_readsShip d Q 73 [some (.ref a0), some (.int a1)] [] τ))) ∧
    (∀ (a0 : Nat) (a1 : Int32) (τ : St), Ru M_M_readsShip d Q 73 [some (.ref a0), some (.int a1)] [] τ = Ru M_M_readsShip d Q 74 [some (.ref a0), some (.int a1)] [.int 0] τ) ∧
    (∀ (a0 : Nat) (a1 : Int32) (x0 : Int32) (τ : St), Ru M_M_readsShip d Q 74 [some (.ref a0), some (.int a1)] [.int x0] τ = ((x0 = 0 ∨ x0 = 1) ∧ Q (some (.int x0)) τ)) ∧
    (∀ (a0 : Nat) (a1 : Int32) (τ : St), Ru M_M_readsShip d Q 75 [some (.ref a0), some (.int a1)] [] τ = Ru M_M_readsShip d Q 76 [some (.ref a0), some (.int a1)] [.ref a0] τ) ∧
    (∀ (a0 : Nat) (a1 : Int32) (x0 : Nat) (τ : St), Ru M_M_readsShip d Q 76 [some (.ref a0), some (.int a1)] [.ref x0] τ = (isA 12 x0 ∧ Ru M_M_readsShip d Q 79 [some (.ref a0), some (.int a1)] [.ref (rtab x0 20)] τ)) ∧
    (∀ (a0 : Nat) (a1 : Int32) (x0 : Nat) (τ : St), Ru M_M_readsShip d Q 79 [some (.ref a0), some (.int a1)] [.ref x0] τ = Ru M_M_readsShip d Q 80 [some (.ref a0), some (.int a1)] [.int a1, .ref x0] τ) ∧
    (∀ (a0 : Nat) (a1 : Int32) (x0 : Int32) (x1 : Nat) (τ : St), Ru M_M_readsShip d Q 80 [some (.ref a0), some (.int a1)] [.int x0, .ref x1] τ = Ru M_M_readsShip d Q 81 [some (.ref a0), some (.int a1)] [.int 1, .int x0, .ref x1] τ) ∧
    (∀ (a0 : Nat) (a1 : Int32) (x0 : Int32) (x1 : Int32) (x2 : Nat) (τ : St), Ru M_M_readsShip d Q 81 [some (.ref a0), some (.int a1)] [.int x0, .int x1, .ref x2] τ = Ru M_M_readsShip d Q 82 [some (.ref a0), some (.int a1)] [.int (x1 + x0), .ref x2] τ) ∧
    (∀ (a0 : Nat) (a1 : Int32) (x0 : Int32) (x1 : Nat) (τ : St), Ru M_M_readsShip d Q 82 [some (.ref a0), some (.int a1)] [.int x0, .ref x1] τ = Ru M_M_readsShip d Q 83 [some (.ref a0), some (.int a1)] [.ref a0, .int x0, .ref x1] τ) ∧
    (∀ (a0 : Nat) (a1 : Int32) (x0 : Nat) (x1 : Int32) (x2 : Nat) (τ : St), Ru M_M_readsShip d Q 83 [some (.ref a0), some (.int a1)] [.ref x0, .int x1, .ref x2] τ = (isA 12 x0 ∧ Cl d m_M_twoDigits [.ref x0] τ (fun v τ' => Ru M_M_readsShip d Q 86 [some (.ref a0), some (.int a1)] (v.toList ++ [.int x1, .ref x2]) τ'))) ∧
    (∀ (a0 : Nat) (a1 : Int32) (x0 : Int32) (x1 : Int32) (x2 : Nat) (τ : St), Ru M_M_readsShip d Q 86 [some (.ref a0), some (.int a1)] [.int x0, .int x1, .ref x2] τ = (isA 14 x2 ∧ vp_in x1 (len x2) ∧ Ru M_M_readsShip d Q 87 [some (.ref a0), some (.int a1)] [] (sI τ x2 x1.toNatClampNeg (x0)))) ∧
    (∀ (a0 : Nat) (a1 : Int32) (τ : St), Ru M_M_readsShip d Q 87 [some (.ref a0), some (.int a1)] [] τ = Ru M_M_readsShip d Q 88 [some (.ref a0), some (.int a1)] [.ref a0] τ) ∧
    (∀ (a0 : Nat) (a1 : Int32) (x0 : Nat) (τ : St), Ru M_M_readsShip d Q 88 [some (.ref a0), some (.int a1)] [.ref x0] τ = (isA 12 x0 ∧ Ru M_M_readsShip d Q 91 [some (.ref a0), some (.int a1)] [.ref (rtab x0 20)] τ)) ∧
    (∀ (a0 : Nat) (a1 : Int32) (x0 : Nat) (τ : St), Ru M_M_readsShip d Q 91 [some (.ref a0), some (.int a1)] [.ref x0] τ = Ru M_M_readsShip d Q 92 [some (.ref a0), some (.int a1)] [.int a1, .ref x0] τ) ∧
    (∀ (a0 : Nat) (a1 : Int32) (x0 : Int32) (x1 : Nat) (τ : St), Ru M_M_readsShip d Q 92 [some (.ref a0), some (.int a1)] [.int x0, .ref x1] τ = Ru M_M_readsShip d Q 93 [some (.ref a0), some (.int a1)] [.int 1, .int x0, .ref x1] τ) ∧
    (∀ (a0 : Nat) (a1 : Int32) (x0 : Int32) (x1 : Int32) (x2 : Nat) (τ : St), Ru M_M_readsShip d Q 93 [some (.ref a0), some (.int a1)] [.int x0, .int x1, .ref x2] τ = Ru M_M_readsShip d Q 94 [some (.ref a0), some (.int a1)] [.int (x1 + x0), .ref x2] τ) ∧
    (∀ (a0 : Nat) (a1 : Int32) (x0 : Int32) (x1 : Nat) (τ : St), Ru M_M_readsShip d Q 94 [some (.ref a0), some (.int a1)] [.int x0, .ref x1] τ = (isA 14 x1 ∧ vp_in x0 (len x1) ∧ Ru M_M_readsShip d Q 95 [some (.ref a0), some (.int a1)] [.int (τ.1 x1 x0.toNatClampNeg)] τ)) ∧
    (∀ (a0 : Nat) (a1 : Int32) (x0 : Int32) (τ : St), Ru M_M_readsShip d Q 95 [some (.ref a0), some (.int a1)] [.int x0] τ = ((0 ≤ x0 → Ru M_M_readsShip d Q 100 [some (.ref a0), some (.int a1)] [] τ) ∧ (¬ 0 ≤ x0 → Ru M_M_readsShip d Q 98 [some (.ref a0), some (.int a1)] [] τ))) ∧
    (∀ (a0 : Nat) (a1 : Int32) (τ : St), Ru M_M_readsShip d Q 98 [some (.ref a0), some (.int a1)] [] τ = Ru M_M_readsShip d Q 99 [some (.ref a0), some (.int a1)] [.int 0] τ) ∧
    (∀ (a0 : Nat) (a1 : Int32) (x0 : Int32) (τ : St), Ru M_M_readsShip d Q 99 [some (.ref a0), some (.int a1)] [.int x0] τ = ((x0 = 0 ∨ x0 = 1) ∧ Q (some (.int x0)) τ)) ∧
    (∀ (a0 : Nat) (a1 : Int32) (τ : St), Ru M_M_readsShip d Q 100 [some (.ref a0), some (.int a1)] [] τ = Ru M_M_readsShip d Q 101 [some (.ref a0), some (.int a1)] [.ref a0] τ) ∧
    (∀ (a0 : Nat) (a1 : Int32) (x0 : Nat) (τ : St), Ru M_M_readsShip d Q 101 [some (.ref a0), some (.int a1)] [.ref x0] τ = Ru M_M_readsShip d Q 102 [some (.ref a0), some (.int a1)] [.ref a0, .ref x0] τ) ∧
    (∀ (a0 : Nat) (a1 : Int32) (x0 : Nat) (x1 : Nat) (τ : St), Ru M_M_readsShip d Q 102 [some (.ref a0), some (.int a1)] [.ref x0, .ref x1] τ = (isA 12 x0 ∧ Ru M_M_readsShip d Q 105 [some (.ref a0), some (.int a1)] [.ref (rtab x0 20), .ref x1] τ)) ∧
    (∀ (a0 : Nat) (a1 : Int32) (x0 : Nat) (x1 : Nat) (τ : St), Ru M_M_readsShip d Q 105 [some (.ref a0), some (.int a1)] [.ref x0, .ref x1] τ = Ru M_M_readsShip d Q 106 [some (.ref a0), some (.int a1)] [.int a1, .ref x0, .ref x1] τ) ∧
    (∀ (a0 : Nat) (a1 : Int32) (x0 : Int32) (x1 : Nat) (x2 : Nat) (τ : St), Ru M_M_readsShip d Q 106 [some (.ref a0), some (.int a1)] [.int x0, .ref x1, .ref x2] τ = Ru M_M_readsShip d Q 107 [some (.ref a0), some (.int a1)] [.int 1, .int x0, .ref x1, .ref x2] τ) ∧
    (∀ (a0 : Nat) (a1 : Int32) (x0 : Int32) (x1 : Int32) (x2 : Nat) (x3 : Nat) (τ : St), Ru M_M_readsShip d Q 107 [some (.ref a0), some (.int a1)] [.int x0, .int x1, .ref x2, .ref x3] τ = Ru M_M_readsShip d Q 108 [some (.ref a0), some (.int a1)] [.int (x1 + x0), .ref x2, .ref x3] τ) ∧
    (∀ (a0 : Nat) (a1 : Int32) (x0 : Int32) (x1 : Nat) (x2 : Nat) (τ : St), Ru M_M_readsShip d Q 108 [some (.ref a0), some (.int a1)] [.int x0, .ref x1, .ref x2] τ = (isA 14 x1 ∧ vp_in x0 (len x1) ∧ Ru M_M_readsShip d Q 109 [some (.ref a0), some (.int a1)] [.int (τ.1 x1 x0.toNatClampNeg), .ref x2] τ)) ∧
    (∀ (a0 : Nat) (a1 : Int32) (x0 : Int32) (x1 : Nat) (τ : St), Ru M_M_readsShip d Q 109 [some (.ref a0), some (.int a1)] [.int x0, .ref x1] τ = (isA 12 x1 ∧ Cl d m_M_isField [.ref x1, .int x0] τ (fun v τ' => Ru M_M_readsShip d Q 112 [some (.ref a0), some (.int a1)] (v.toList ++ []) τ'))) ∧
    (∀ (a0 : Nat) (a1 : Int32) (x0 : Int32) (τ : St), Ru M_M_readsShip d Q 112 [some (.ref a0), some (.int a1)] [.int x0] τ = ((x0 = 0 → Ru M_M_readsShip d Q 132 [some (.ref a0), some (.int a1)] [] τ) ∧ (¬ x0 = 0 → Ru M_M_readsShip d Q 115 [some (.ref a0), some (.int a1)] [] τ))) ∧
    (∀ (a0 : Nat) (a1 : Int32) (τ : St), Ru M_M_readsShip d Q 115 [some (.ref a0), some (.int a1)] [] τ = Ru M_M_readsShip d Q 116 [some (.ref a0), some (.int a1)] [.ref a0] τ) ∧
    (∀ (a0 : Nat) (a1 : Int32) (x0 : Nat) (τ : St), Ru M_M_readsShip d Q 116 [some (.ref a0), some (.int a1)] [.ref x0] τ = (isA 12 x0 ∧ Ru M_M_readsShip d Q 119 [some (.ref a0), some (.int a1)] [.ref (rtab x0 7)] τ)) ∧
    (∀ (a0 : Nat) (a1 : Int32) (x0 : Nat) (τ : St), Ru M_M_readsShip d Q 119 [some (.ref a0), some (.int a1)] [.ref x0] τ = Ru M_M_readsShip d Q 120 [some (.ref a0), some (.int a1)] [.ref a0, .ref x0] τ) ∧
    (∀ (a0 : Nat) (a1 : Int32) (x0 : Nat) (x1 : Nat) (τ : St), Ru M_M_readsShip d Q 120 [some (.ref a0), some (.int a1)] [.ref x0, .ref x1] τ = (isA 12 x0 ∧ Ru M_M_readsShip d Q 123 [some (.ref a0), some (.int a1)] [.ref (rtab x0 20), .ref x1] τ)) ∧
    (∀ (a0 : Nat) (a1 : Int32) (x0 : Nat) (x1 : Nat) (τ : St), Ru M_M_readsShip d Q 123 [some (.ref a0), some (.int a1)] [.ref x0, .ref x1] τ = Ru M_M_readsShip d Q 124 [some (.ref a0), some (.int a1)] [.int a1, .ref x0, .ref x1] τ) ∧
    (∀ (a0 : Nat) (a1 : Int32) (x0 : Int32) (x1 : Nat) (x2 : Nat) (τ : St), Ru M_M_readsShip d Q 124 [some (.ref a0), some (.int a1)] [.int x0, .ref x1, .ref x2] τ = Ru M_M_readsShip d Q 125 [some (.ref a0), some (.int a1)] [.int 1, .int x0, .ref x1, .ref x2] τ) ∧
    (∀ (a0 : Nat) (a1 : Int32) (x0 : Int32) (x1 : Int32) (x2 : Nat) (x3 : Nat) (τ : St), Ru M_M_readsShip d Q 125 [some (.ref a0), some (.int a1)] [.int x0, .int x1, .ref x2, .ref x3] τ = Ru M_M_readsShip d Q 126 [some (.ref a0), some (.int a1)] [.int (x1 + x0), .ref x2, .ref x3] τ) ∧
    (∀ (a0 : Nat) (a1 : Int32) (x0 : Int32) (x1 : Nat) (x2 : Nat) (τ : St), Ru M_M_readsShip d Q 126 [some (.ref a0), some (.int a1)] [.int x0, .ref x1, .ref x2] τ = (isA 14 x1 ∧ vp_in x0 (len x1) ∧ Ru M_M_readsShip d Q 127 [some (.ref a0), some (.int a1)] [.int (τ.1 x1 x0.toNatClampNeg), .ref x2] τ)) ∧
    (∀ (a0 : Nat) (a1 : Int32) (x0 : Int32) (x1 : Nat) (τ : St), Ru M_M_readsShip d Q 127 [some (.ref a0), some (.int a1)] [.int x0, .ref x1] τ = (isA 14 x1 ∧ vp_in x0 (len x1) ∧ Ru M_M_readsShip d Q 128 [some (.ref a0), some (.int a1)] [.int (τ.1 x1 x0.toNatClampNeg)] τ)) ∧
    (∀ (a0 : Nat) (a1 : Int32) (x0 : Int32) (τ : St), Ru M_M_readsShip d Q 128 [some (.ref a0), some (.int a1)] [.int x0] τ = Ru M_M_readsShip d Q 129 [some (.ref a0), some (.int a1)] [.int 1, .int x0] τ) ∧
    (∀ (a0 : Nat) (a1 : Int32) (x0 : Int32) (x1 : Int32) (τ : St), Ru M_M_readsShip d Q 129 [some (.ref a0), some (.int a1)] [.int x0, .int x1] τ = ((x1 = x0 → Ru M_M_readsShip d Q 144 [some (.ref a0), some (.int a1)] [] τ) ∧ (¬ x1 = x0 → Ru M_M_readsShip d Q 132 [some (.ref a0), some (.int a1)] [] τ))) ∧
    (∀ (a0 : Nat) (a1 : Int32) (τ : St), Ru M_M_readsShip d Q 132 [some (.ref a0), some (.int a1)] [] τ = Ru M_M_readsShip d Q 133 [some (.ref a0), some (.int a1)] [.ref a0] τ) ∧
    (∀ (a0 : Nat) (a1 : Int32) (x0 : Nat) (τ : St), Ru M_M_readsShip d Q 133 [some (.ref a0), some (.int a1)] [.ref x0] τ = Ru M_M_readsShip d Q 134 [some (.ref a0), some (.int a1)] [.ref x0, .ref x0] τ) ∧
    (∀ (a0 : Nat) (a1 : Int32) (x0 : Nat) (x1 : Nat) (τ : St), Ru M_M_readsShip d Q 134 [some (.ref a0), some (.int a1)] [.ref x0, .ref x1] τ = (isA 12 x0 ∧ Ru M_M_readsShip d Q 137 [some (.ref a0), some (.int a1)] [.int (τ.1 x0 15), .ref x1] τ)) ∧
    (∀ (a0 : Nat) (a1 : Int32) (x0 : Int32) (x1 : Nat) (τ : St), Ru M_M_readsShip d Q 137 [some (.ref a0), some (.int a1)] [.int x0, .ref x1] τ = Ru M_M_readsShip d Q 138 [some (.ref a0), some (.int a1)] [.int 1, .int x0, .ref x1] τ) ∧
    (∀ (a0 : Nat) (a1 : Int32) (x0 : Int32) (x1 : Int32) (x2 : Nat) (τ : St), Ru M_M_readsShip d Q 138 [some (.ref a0), some (.int a1)] [.int x0, .int x1, .ref x2] τ = Ru M_M_readsShip d Q 139 [some (.ref a0), some (.int a1)] [.int (x1 - x0), .ref x2] τ) ∧
    (∀ (a0 : Nat) (a1 : Int32) (x0 : Int32) (x1 : Nat) (τ : St), Ru M_M_readsShip d Q 139 [some (.ref a0), some (.int a1)] [.int x0, .ref x1] τ = (isA 12 x1 ∧ Ru M_M_readsShip d Q 142 [some (.ref a0), some (.int a1)] [] (sI τ x1 15 x0))) ∧
    (∀ (a0 : Nat) (a1 : Int32) (τ : St), Ru M_M_readsShip d Q 142 [some (.ref a0), some (.int a1)] [] τ = Ru M_M_readsShip d Q 143 [some (.ref a0), some (.int a1)] [.int 0] τ) ∧
    (∀ (a0 : Nat) (a1 : Int32) (x0 : Int32) (τ : St), Ru M_M_readsShip d Q 143 [some (.ref a0), some (.int a1)] [.int x0] τ = ((x0 = 0 ∨ x0 = 1) ∧ Q (some (.int x0)) τ)) ∧
    (∀ (a0 : Nat) (a1 : Int32) (τ : St), Ru M_M_readsShip d Q 144 [some (.ref a0), some (.int a1)] [] τ = Ru M_M_readsShip d Q 145 [some (.ref a0), some (.int a1)] [.ref a0] τ) ∧
    (∀ (a0 : Nat) (a1 : Int32) (x0 : Nat) (τ : St), Ru M_M_readsShip d Q 145 [some (.ref a0), some (.int a1)] [.ref x0] τ = Ru M_M_readsShip d Q 146 [some (.ref a0), some (.int a1)] [.ref x0, .ref x0] τ) ∧
    (∀ (a0 : Nat) (a1 : Int32) (x0 : Nat) (x1 : Nat) (τ : St), Ru M_M_readsShip d Q 146 [some (.ref a0), some (.int a1)] [.ref x0, .ref x1] τ = (isA 12 x0 ∧ Ru M_M_readsShip d Q 149 [some (.ref a0), some (.int a1)] [.int (τ.1 x0 21), .ref x1] τ)) ∧
    (∀ (a0 : Nat) (a1 : Int32) (x0 : Int32) (x1 : Nat) (τ : St), Ru M_M_readsShip d Q 149 [some (.ref a0), some (.int a1)] [.int x0, .ref x1] τ = Ru M_M_readsShip d Q 150 [some (.ref a0), some (.int a1)] [.int 1, .int x0, .ref x1] τ) ∧
    (∀ (a0 : Nat) (a1 : Int32) (x0 : Int32) (x1 : Int32) (x2 : Nat) (τ : St), Ru M_M_readsShip d Q 150 [some (.ref a0), some (.int a1)] [.int x0, .int x1, .ref x2] τ = Ru M_M_readsShip d Q 151 [some (.ref a0), some (.int a1)] [.int (x1 + x0), .ref x2] τ) ∧
    (∀ (a0 : Nat) (a1 : Int32) (x0 : Int32) (x1 : Nat) (τ : St), Ru M_M_readsShip d Q 151 [some (.ref a0), some (.int a1)] [.int x0, .ref x1] τ = (isA 12 x1 ∧ Ru M_M_readsShip d Q 154 [some (.ref a0), some (.int a1)] [] (sI τ x1 21 x0))) ∧
    (∀ (a0 : Nat) (a1 : Int32) (τ : St), Ru M_M_readsShip d Q 154 [some (.ref a0), some (.int a1)] [] τ = Ru M_M_readsShip d Q 155 [some (.ref a0), some (.int a1)] [.int 1] τ) ∧
    (∀ (a0 : Nat) (a1 : Int32) (x0 : Int32) (τ : St), Ru M_M_readsShip d Q 155 [some (.ref a0), some (.int a1)] [.int x0] τ = ((x0 = 0 ∨ x0 = 1) ∧ Q (some (.int x0)) τ)) := ⟨
  fun _ _ => (R_at ok_M_readsShip rfl).trans (e_ald rfl),
  fun _ _ _ => (R_at ok_M_readsShip rfl).trans e_gI,
  fun _ _ _ => (R_at ok_M_readsShip rfl).trans (e_ald rfl),
  fun _ _ _ _ => (R_at ok_M_readsShip rfl).trans e_gI,
  fun _ _ _ _ => (R_at ok_M_readsShip rfl).trans e_bin,
  fun _ _ _ => (R_at ok_M_readsShip rfl).trans e_push,
  fun _ _ _ _ => (R_at ok_M_readsShip rfl).trans e_icn,
  fun _ _ => (R_at ok_M_readsShip rfl).trans e_push,
  fun _ _ _ => (R_at ok_M_readsShip rfl).trans e_zret,
  fun _ _ => (R_at ok_M_readsShip rfl).trans e_push,
  fun _ _ _ => (R_at ok_M_readsShip rfl).trans (e_ald rfl),
  fun _ _ _ _ => (R_at ok_M_readsShip rfl).trans e_gI,
  fun _ _ _ _ => (R_at ok_M_readsShip rfl).trans e_bin,
  fun _ _ _ => (R_at ok_M_readsShip rfl).trans e_ist,
  fun _ _ _ => (R_at ok_M_readsShip rfl).trans (e_ald rfl),
  fun _ _ _ _ => (R_at ok_M_readsShip rfl).trans e_gR,
  fun _ _ _ _ => (R_at ok_M_readsShip rfl).trans (e_ild rfl),
  fun _ _ _ _ _ => (R_at ok_M_readsShip rfl).trans (e_ald rfl),
  fun _ _ _ _ _ _ => (R_at ok_M_readsShip rfl).trans e_push,
  fun _ _ x0 _ _ _ _ => (R_at ok_M_readsShip rfl).trans (e_cv [.int x0] rfl rfl rfl),
  fun _ _ _ _ _ _ => (R_at ok_M_readsShip rfl).trans e_as,
  fun _ _ _ => (R_at ok_M_readsShip rfl).trans (e_ald rfl),
  fun _ _ _ _ => (R_at ok_M_readsShip rfl).trans e_gR,
  fun _ _ _ _ => (R_at ok_M_readsShip rfl).trans (e_ild rfl),
  fun _ _ _ _ _ => (R_at ok_M_readsShip rfl).trans e_al,
  fun _ _ _ _ => (R_at ok_M_readsShip rfl).trans e_ifn,
  fun _ _ _ => (R_at ok_M_readsShip rfl).trans (e_ald rfl),
  fun _ _ _ _ => (R_at ok_M_readsShip rfl).trans (e_dup rfl),
  fun _ _ _ _ _ => (R_at ok_M_readsShip rfl).trans e_gI,
  fun _ _ _ _ _ => (R_at ok_M_readsShip rfl).trans e_push,
  fun _ _ _ _ _ _ => (R_at ok_M_readsShip rfl).trans e_bin,
  fun _ _ _ _ _ => (R_at ok_M_readsShip rfl).trans e_pI,
  fun _ _ _ => (R_at ok_M_readsShip rfl).trans e_push,
  fun _ _ _ _ => (R_at ok_M_readsShip rfl).trans e_zret,
  fun _ _ _ => (R_at ok_M_readsShip rfl).trans (e_ald rfl),
  fun _ _ _ _ => (R_at ok_M_readsShip rfl).trans e_gR,
  fun _ _ _ _ => (R_at ok_M_readsShip rfl).trans (e_ild rfl),
  fun _ _ _ _ _ => (R_at ok_M_readsShip rfl).trans e_al,
  fun _ _ _ _ => (R_at ok_M_readsShip rfl).trans e_if,
  fun _ _ _ => (R_at ok_M_readsShip rfl).trans (e_ald rfl),
  fun _ _ _ _ => (R_at ok_M_readsShip rfl).trans e_push,
  fun _ _ x0 _ _ => (R_at ok_M_readsShip rfl).trans (e_cv [.int x0] rfl rfl rfl),
  fun _ _ _ _ => (R_at ok_M_readsShip rfl).trans e_ifn,
  fun _ _ _ => (R_at ok_M_readsShip rfl).trans e_push,
  fun _ _ _ _ => (R_at ok_M_readsShip rfl).trans e_zret,
  fun _ _ _ => (R_at ok_M_readsShip rfl).trans (e_ald rfl),
  fun _ _ _ _ => (R_at ok_M_readsShip rfl).trans e_gR,
  fun _ _ _ _ => (R_at ok_M_readsShip rfl).trans (e_ild rfl),
  fun _ _ _ _ _ => (R_at ok_M_readsShip rfl).trans e_push,
  fun _ _ _ _ _ _ => (R_at ok_M_readsShip rfl).trans e_bin,
  fun _ _ _ _ _ => (R_at ok_M_readsShip rfl).trans (e_ald rfl),
  fun _ _ _ _ _ _ => (R_at ok_M_readsShip rfl).trans (e_cv [] rfl rfl rfl),
  fun _ _ _ _ _ _ => (R_at ok_M_readsShip rfl).trans e_as,
  fun _ _ _ => (R_at ok_M_readsShip rfl).trans (e_ald rfl),
  fun _ _ _ _ => (R_at ok_M_readsShip rfl).trans e_gR,
  fun _ _ _ _ => (R_at ok_M_readsShip rfl).trans (e_ild rfl),
  fun _ _ _ _ _ => (R_at ok_M_readsShip rfl).trans e_push,
  fun _ _ _ _ _ _ => (R_at ok_M_readsShip rfl).trans e_bin,
  fun _ _ _ _ _ => (R_at ok_M_readsShip rfl).trans e_al,
  fun _ _ _ _ => (R_at ok_M_readsShip rfl).trans e_if,
  fun _ _ _ => (R_at ok_M_readsShip rfl).trans e_push,
  fun _ _ _ _ => (R_at ok_M_readsShip rfl).trans e_zret,
  fun _ _ _ => (R_at ok_M_readsShip rfl).trans (e_ald rfl),
  fun _ _ _ _ => (R_at ok_M_readsShip rfl).trans (e_ald rfl),
  fun _ _ _ _ _ => (R_at ok_M_readsShip rfl).trans e_gR,
  fun _ _ _ _ _ => (R_at ok_M_readsShip rfl).trans (e_ild rfl),
  fun _ _ _ _ _ _ => (R_at ok_M_readsShip rfl).trans e_push,
  fun _ _ _ _ _ _ _ => (R_at ok_M_readsShip rfl).trans e_bin,
  fun _ _ _ _ _ _ => (R_at ok_M_readsShip rfl).trans e_al,
  fun _ _ x0 _ _ => (R_at ok_M_readsShip rfl).trans (e_cv [.int x0] rfl rfl rfl),
  fun _ _ _ _ => (R_at ok_M_readsShip rfl).trans e_if,
  fun _ _ _ => (R_at ok_M_readsShip rfl).trans (e_ald rfl),
  fun _ _ _ _ => (R_at ok_M_readsShip rfl).trans e_gR,
  fun _ _ _ _ => (R_at ok_M_readsShip rfl).trans (e_ald rfl),
  fun _ _ _ _ _ => (R_at ok_M_readsShip rfl).trans e_gR,
  fun _ _ _ _ _ => (R_at ok_M_readsShip rfl).trans (e_ild rfl),
  fun _ _ _ _ _ _ => (R_at ok_M_readsShip rfl).trans e_push,
  fun _ _ _ _ _ _ _ => (R_at ok_M_readsShip rfl).trans e_bin,
  fun _ _ _ _ _ _ => (R_at ok_M_readsShip rfl).trans e_al,
  fun _ _ _ _ _ => (R_at ok_M_readsShip rfl).trans e_al,
  fun _ _ _ _ => (R_at ok_M_readsShip rfl).trans e_push,
  fun _ _ _ _ _ => (R_at ok_M_readsShip rfl).trans e_ic,
  fun _ _ _ => (R_at ok_M_readsShip rfl).trans (e_ald rfl),
  fun _ _ _ _ => (R_at ok_M_readsShip rfl).trans (e_dup rfl),
  fun _ _ _ _ _ => (R_at ok_M_readsShip rfl).trans e_gI,
  fun _ _ _ _ _ => (R_at ok_M_readsShip rfl).trans e_push,
  fun _ _ _ _ _ _ => (R_at ok_M_readsShip rfl).trans e_bin,
  fun _ _ _ _ _ => (R_at ok_M_readsShip rfl).trans e_pI,
  fun _ _ _ => (R_at ok_M_readsShip rfl).trans e_push,
  fun _ _ _ _ => (R_at ok_M_readsShip rfl).trans e_zret,
  fun _ _ _ => (R_at ok_M_readsShip rfl).trans (e_ald rfl),
  fun _ _ _ _ => (R_at ok_M_readsShip rfl).trans (e_dup rfl),
  fun _ _ _ _ _ => (R_at ok_M_readsShip rfl).trans e_gI,
  fun _ _ _ _ _ => (R_at ok_M_readsShip rfl).trans e_push,
  fun _ _ _ _ _ _ => (R_at ok_M_readsShip rfl).trans e_bin,
  fun _ _ _ _ _ => (R_at ok_M_readsShip rfl).trans e_pI,
  fun _ _ _ => (R_at ok_M_readsShip rfl).trans e_push,
  fun _ _ _ _ => (R_at ok_M_readsShip rfl).trans e_zret⟩
set_option maxHeartbeats 4000000 in
theorem N_M_ships (d : Nat) (Q : Qt) : ∀ (x0 : Nat) (τ : St), Cl (d + 1) m_M_ships [.ref x0] τ Q = Ru M_M_ships d Q 0 [some (.ref x0), none, none, none, none, none] [] τ := fun _ _ => propext ⟨fun h => h.2, fun h => ⟨Nat.le_of_ble_eq_true rfl, h⟩⟩
set_option maxHeartbeats 4000000 in
theorem E_M_ships (d : Nat) (Q : Qt) :
    (∀ (a0 : Nat) (τ : St), Ru M_M_ships d Q 0 [some (.ref a0), none, none, none, none, none] [] τ = Ru M_M_ships d Q 1 [some (.ref a0), none, none, none, none, none] [.ref a0] τ) ∧
    (∀ (a0 : Nat) (x0 : Nat) (τ : St), Ru M_M_ships d Q 1 [some (.ref a0), none, none, none, none, none] [.ref x0] τ = Ru M_M_ships d Q 2 [some (.ref a0), none, none, none, none, none] [.int 0, .ref x0] τ) ∧
    (∀ (a0 : Nat) (x0 : Int32) (x1 : Nat) (τ : St), Ru M_M_ships d Q 2 [some (.ref a0), none, none, none, none, none] [.int x0, .ref x1] τ = (isA 12 x1 ∧ Ru M_M_ships d Q 5 [some (.ref a0), none, none, none, none, none] [] (sI τ x1 0 x0))) ∧
    (∀ (a0 : Nat) (τ : St), Ru M_M_ships d Q 5 [some (.ref a0), none, none, none, none, none] [] τ = Ru M_M_ships d Q 6 [some (.ref a0), none, none, none, none, none] [.ref a0] τ) ∧
    (∀ (a0 : Nat) (x0 : Nat) (τ : St), Ru M_M_ships d Q 6 [some (.ref a0), none, none, none, none, none] [.ref x0] τ = Ru M_M_ships d Q 8 [some (.ref a0), none, none, none, none, none] [.int 55, .ref x0] τ) ∧
    (∀ (a0 : Nat) (x0 : Int32) (x1 : Nat) (τ : St), Ru M_M_ships d Q 8 [some (.ref a0), none, none, none, none, none] [.int x0, .ref x1] τ = (isA 12 x1 ∧ Cl d m_M_begins [.ref x1, .int x0] τ (fun v τ' => Ru M_M_ships d Q 11 [some (.ref a0), none, none, none, none, none] (v.toList ++ []) τ'))) ∧
    (∀ (a0 : Nat) (x0 : Int32) (τ : St), Ru M_M_ships d Q 11 [some (.ref a0), none, none, none, none, none] [.int x0] τ = Ru M_M_ships d Q 12 [some (.ref a0), some (.int x0), none, none, none, none] [] τ) ∧
    (∀ (a0 : Nat) (a1 : Int32) (τ : St), Ru M_M_ships d Q 12 [some (.ref a0), some (.int a1), none, none, none, none] [] τ = Ru M_M_ships d Q 13 [some (.ref a0), some (.int a1), none, none, none, none] [.ref a0] τ) ∧
    (∀ (a0 : Nat) (a1 : Int32) (x0 : Nat) (τ : St), Ru M_M_ships d Q 13 [some (.ref a0), some (.int a1), none, none, none, none] [.ref x0] τ = Ru M_M_ships d Q 14 [some (.ref a0), some (.int a1), none, none, none, none] [.int 0, .ref x0] τ) ∧
    (∀ (a0 : Nat) (a1 : Int32) (x0 : Int32) (x1 : Nat) (τ : St), Ru M_M_ships d Q 14 [some (.ref a0), some (.int a1), none, none, none, none] [.int x0, .ref x1] τ = (isA 12 x1 ∧ Ru M_M_ships d Q 17 [some (.ref a0), some (.int a1), none, none, none, none] [] (sI τ x1 21 x0))) ∧
    (∀ (a0 : Nat) (a1 : Int32) (τ : St), Ru M_M_ships d Q 17 [some (.ref a0), some (.int a1), none, none, none, none] [] τ = Ru M_M_ships d Q 18 [some (.ref a0), some (.int a1), none, none, none, none] [.int 1] τ) ∧
    (∀ (a0 : Nat) (a1 : Int32) (x0 : Int32) (τ : St), Ru M_M_ships d Q 18 [some (.ref a0), some (.int a1), none, none, none, none] [.int x0] τ = Ru M_M_ships d Q 19 [some (.ref a0), some (.int a1), some (.int x0), none, none, none] [] τ) ∧
    (∀ (a0 : Nat) (a1 : Int32) (a2 : Int32) (τ : St), Ru M_M_ships d Q 19 [some (.ref a0), some (.int a1), some (.int a2), none, none, none] [] τ = Ru M_M_ships d Q 20 [some (.ref a0), some (.int a1), some (.int a2), none, none, none] [.int a1] τ) ∧
    (∀ (a0 : Nat) (a1 : Int32) (a2 : Int32) (x0 : Int32) (τ : St), Ru M_M_ships d Q 20 [some (.ref a0), some (.int a1), some (.int a2), none, none, none] [.int x0] τ = ((x0 ≤ 0 → Ru M_M_ships d Q 27 [some (.ref a0), some (.int a1), some (.int a2), none, none, none] [] τ) ∧ (¬ x0 ≤ 0 → Ru M_M_ships d Q 23 [some (.ref a0), some (.int a1), some (.int a2), none, none, none] [] τ))) ∧
    (∀ (a0 : Nat) (a1 : Int32) (a2 : Int32) (τ : St), Ru M_M_ships d Q 23 [some (.ref a0), some (.int a1), some (.int a2), none, none, none] [] τ = Ru M_M_ships d Q 24 [some (.ref a0), some (.int a1), some (.int a2), none, none, none] [.int 1] τ) ∧
    (∀ (a0 : Nat) (a1 : Int32) (a2 : Int32) (x0 : Int32) (τ : St), Ru M_M_ships d Q 24 [some (.ref a0), some (.int a1), some (.int a2), none, none, none] [.int x0] τ = Ru M_M_ships d Q 28 [some (.ref a0), some (.int a1), some (.int a2), none, none, none] [.int x0] τ) ∧
    (∀ (a0 : Nat) (a1 : Int32) (a2 : Int32) (τ : St), Ru M_M_ships d Q 27 [some (.ref a0), some (.int a1), some (.int a2), none, none, none] [] τ = Ru M_M_ships d Q 28 [some (.ref a0), some (.int a1), some (.int a2), none, none, none] [.int 0] τ) ∧
    (∀ (a0 : Nat) (a1 : Int32) (a2 : Int32) (x0 : Int32) (τ : St), Ru M_M_ships d Q 28 [some (.ref a0), some (.int a1), some (.int a2), none, none, none] [.int x0] τ = Rs M_M_ships d Q 29 [some (.ref a0), some (.int a1), some (.int a2), some (.int x0), none, none] [] τ) ∧
    (∀ (a0 : Nat) (a1 : Int32) (a2 : Int32) (a3 : Int32) (τ : St), Ru M_M_ships d Q 29 [some (.ref a0), some (.int a1), some (.int a2), some (.int a3), none, none] [] τ = Ru M_M_ships d Q 30 [some (.ref a0), some (.int a1), some (.int a2), some (.int a3), none, none] [.int a3] τ) ∧
    (∀ (a0 : Nat) (a1 : Int32) (a2 : Int32) (a3 : Int32) (x0 : Int32) (τ : St), Ru M_M_ships d Q 30 [some (.ref a0), some (.int a1), some (.int a2), some (.int a3), none, none] [.int x0] τ = ((x0 = 0 → Ru M_M_ships d Q 60 [some (.ref a0), some (.int a1), some (.int a2), some (.int a3), none, none] [] τ) ∧ (¬ x0 = 0 → Ru M_M_ships d Q 33 [some (.ref a0), some (.int a1), some (.int a2), some (.int a3), none, none] [] τ))) ∧
    (∀ (a0 : Nat) (a1 : Int32) (a2 : Int32) (a3 : Int32) (τ : St), Ru M_M_ships d Q 33 [some (.ref a0), some (.int a1), some (.int a2), some (.int a3), none, none] [] τ = Ru M_M_ships d Q 34 [some (.ref a0), some (.int a1), some (.int a2), some (.int a3), none, none] [.ref a0] τ) ∧
    (∀ (a0 : Nat) (a1 : Int32) (a2 : Int32) (a3 : Int32) (x0 : Nat) (τ : St), Ru M_M_ships d Q 34 [some (.ref a0), some (.int a1), some (.int a2), some (.int a3), none, none] [.ref x0] τ = (isA 12 x0 ∧ Cl d m_M_readsShip [.ref x0] τ (fun v τ' => Ru M_M_ships d Q 37 [some (.ref a0), some (.int a1), some (.int a2), some (.int a3), none, none] (v.toList ++ []) τ'))) ∧
    (∀ (a0 : Nat) (a1 : Int32) (a2 : Int32) (a3 : Int32) (x0 : Int32) (τ : St), Ru M_M_ships d Q 37 [some (.ref a0), some (.int a1), some (.int a2), some (.int a3), none, none] [.int x0] τ = Ru M_M_ships d Q 38 [some (.ref a0), some (.int a1), some (.int x0), some (.int a3), none, none] [] τ) ∧
    (∀ (a0 : Nat) (a1 : Int32) (a2 : Int32) (a3 : Int32) (τ : St), Ru M_M_ships d Q 38 [some (.ref a0), some (.int a1), some (.int a2), some (.int a3), none, none] [] τ = Ru M_M_ships d Q 39 [some (.ref a0), some (.int a1), some (.int a2), some (.int a3), none, none] [.int a2] τ) ∧
    (∀ (a0 : Nat) (a1 : Int32) (a2 : Int32) (a3 : Int32) (x0 : Int32) (τ : St), Ru M_M_ships d Q 39 [some (.ref a0), some (.int a1), some (.int a2), some (.int a3), none, none] [.int x0] τ = ((x0 = 0 → Ru M_M_ships d Q 55 [some (.ref a0), some (.int a1), some (.int a2), some (.int a3), none, none] [] τ) ∧ (¬ x0 = 0 → Ru M_M_ships d Q 42 [some (.ref a0), some (.int a1), some (.int a2), some (.int a3), none, none] [] τ))) ∧
    (∀ (a0 : Nat) (a1 : Int32) (a2 : Int32) (a3 : Int32) (τ : St), Ru M_M_ships d Q 42 [some (.ref a0), some (.int a1), some (.int a2), some (.int a3), none, none] [] τ = Ru M_M_ships d Q 43 [some (.ref a0), some (.int a1), some (.int a2), some (.int a3), none, none] [.ref a0] τ) ∧
    (∀ (a0 : Nat) (a1 : Int32) (a2 : Int32) (a3 : Int32) (x0 : Nat) (τ : St), Ru M_M_ships d Q 43 [some (.ref a0), some (.int a1), some (.int a2), some (.int a3), none, none] [.ref x0] τ = Ru M_M_ships d Q 45 [some (.ref a0), some (.int a1), some (.int a2), some (.int a3), none, none] [.int 59, .ref x0] τ) ∧
    (∀ (a0 : Nat) (a1 : Int32) (a2 : Int32) (a3 : Int32) (x0 : Int32) (x1 : Nat) (τ : St), Ru M_M_ships d Q 45 [some (.ref a0), some (.int a1), some (.int a2), some (.int a3), none, none] [.int x0, .ref x1] τ = (isA 12 x1 ∧ Cl d m_M_takes [.ref x1, .int x0] τ (fun v τ' => Ru M_M_ships d Q 48 [some (.ref a0), some (.int a1), some (.int a2), some (.int a3), none, none] (v.toList ++ []) τ'))) ∧
    (∀ (a0 : Nat) (a1 : Int32) (a2 : Int32) (a3 : Int32) (x0 : Int32) (τ : St), Ru M_M_ships d Q 48 [some (.ref a0), some (.int a1), some (.int a2), some (.int a3), none, none] [.int x0] τ = ((x0 = 0 → Ru M_M_ships d Q 55 [some (.ref a0), some (.int a1), some (.int a2), some (.int a3), none, none] [] τ) ∧ (¬ x0 = 0 → Ru M_M_ships d Q 51 [some (.ref a0), some (.int a1), some (.int a2), some (.int a3), none, none] [] τ))) ∧
    (∀ (a0 : Nat) (a1 : Int32) (a2 : Int32) (a3 : Int32) (τ : St), Ru M_M_ships d Q 51 [some (.ref a0), some (.int a1), some (.int a2), some (.int a3), none, none] [] τ = Ru M_M_ships d Q 52 [some (.ref a0), some (.int a1), some (.int a2), some (.int a3), none, none] [.int 1] τ) ∧
    (∀ (a0 : Nat) (a1 : Int32) (a2 : Int32) (a3 : Int32) (x0 : Int32) (τ : St), Ru M_M_ships d Q 52 [some (.ref a0), some (.int a1), some (.int a2), some (.int a3), none, none] [.int x0] τ = Ru M_M_ships d Q 56 [some (.ref a0), some (.int a1), some (.int a2), some (.int a3), none, none] [.int x0] τ) ∧
    (∀ (a0 : Nat) (a1 : Int32) (a2 : Int32) (a3 : Int32) (τ : St), Ru M_M_ships d Q 55 [some (.ref a0), some (.int a1), some (.int a2), some (.int a3), none, none] [] τ = Ru M_M_ships d Q 56 [some (.ref a0), some (.int a1), some (.int a2), some (.int a3), none, none] [.int 0] τ) ∧
    (∀ (a0 : Nat) (a1 : Int32) (a2 : Int32) (a3 : Int32) (x0 : Int32) (τ : St), Ru M_M_ships d Q 56 [some (.ref a0), some (.int a1), some (.int a2), some (.int a3), none, none] [.int x0] τ = Ru M_M_ships d Q 57 [some (.ref a0), some (.int a1), some (.int a2), some (.int x0), none, none] [] τ) ∧
    (∀ (a0 : Nat) (a1 : Int32) (a2 : Int32) (a3 : Int32) (τ : St), Ru M_M_ships d Q 57 [some (.ref a0), some (.int a1), some (.int a2), some (.int a3), none, none] [] τ = Rs M_M_ships d Q 29 [some (.ref a0), some (.int a1), some (.int a2), some (.int a3), none, none] [] τ) ∧
    (∀ (a0 : Nat) (a1 : Int32) (a2 : Int32) (a3 : Int32) (τ : St), Ru M_M_ships d Q 60 [some (.ref a0), some (.int a1), some (.int a2), some (.int a3), none, none] [] τ = Ru M_M_ships d Q 61 [some (.ref a0), some (.int a1), some (.int a2), some (.int a3), none, none] [.ref a0] τ) ∧
    (∀ (a0 : Nat) (a1 : Int32) (a2 : Int32) (a3 : Int32) (x0 : Nat) (τ : St), Ru M_M_ships d Q 61 [some (.ref a0), some (.int a1), some (.int a2), some (.int a3), none, none] [.ref x0] τ = Ru M_M_ships d Q 62 [some (.ref a0), some (.int a1), some (.int a2), some (.int a3), none, none] [.int a1, .ref x0] τ) ∧
    (∀ (a0 : Nat) (a1 : Int32) (a2 : Int32) (a3 : Int32) (x0 : Int32) (x1 : Nat) (τ : St), Ru M_M_ships d Q 62 [some (.ref a0), some (.int a1), some (.int a2), some (.int a3), none, none] [.int x0, .ref x1] τ = Ru M_M_ships d Q 64 [some (.ref a0), some (.int a1), some (.int a2), some (.int a3), none, none] [.int 55, .int x0, .ref x1] τ) ∧
    (∀ (a0 : Nat) (a1 : Int32) (a2 : Int32) (a3 : Int32) (x0 : Int32) (x1 : Int32) (x2 : Nat) (τ : St), Ru M_M_ships d Q 64 [some (.ref a0), some (.int a1), some (.int a2), some (.int a3), none, none] [.int x0, .int x1, .ref x2] τ = Ru M_M_ships d Q 65 [some (.ref a0), some (.int a1), some (.int a2), some (.int a3), none, none] [.int a2, .int x0, .int x1, .ref x2] τ) ∧
    (∀ (a0 : Nat) (a1 : Int32) (a2 : Int32) (a3 : Int32) (x0 : Int32) (x1 : Int32) (x2 : Int32) (x3 : Nat) (τ : St), Ru M_M_ships d Q 65 [some (.ref a0), some (.int a1), some (.int a2), some (.int a3), none, none] [.int x0, .int x1, .int x2, .ref x3] τ = (isA 12 x3 ∧ Cl d m_M_faultOf [.ref x3, .int x2, .int x1, .int x0] τ (fun v τ' => Ru M_M_ships d Q 68 [some (.ref a0), some (.int a1), some (.int a2), some (.int a3), none, none] (v.toList ++ []) τ'))) ∧
    (∀ (a0 : Nat) (a1 : Int32) (a2 : Int32) (a3 : Int32) (x0 : Int32) (τ : St), Ru M_M_ships d Q 68 [some (.ref a0), some (.int a1), some (.int a2), some (.int a3), none, none] [.int x0] τ = Ru M_M_ships d Q 70 [some (.ref a0), some (.int a1), some (.int a2), some (.int a3), some (.int x0), none] [] τ) ∧
    (∀ (a0 : Nat) (a1 : Int32) (a2 : Int32) (a3 : Int32) (a4 : Int32) (τ : St), Ru M_M_ships d Q 70 [some (.ref a0), some (.int a1), some (.int a2), some (.int a3), some (.int a4), none] [] τ = Ru M_M_ships d Q 72 [some (.ref a0), some (.int a1), some (.int a2), some (.int a3), some (.int a4), none] [.int a4] τ) ∧
    (∀ (a0 : Nat) (a1 : Int32) (a2 : Int32) (a3 : Int32) (a4 : Int32) (x0 : Int32) (τ : St), Ru M_M_ships d Q 72 [some (.ref a0), some (.int a1), some (.int a2), some (.int a3), some (.int a4), none] [.int x0] τ = ((0 ≤ x0 → Ru M_M_ships d Q 78 [some (.ref a0), some (.int a1), some (.int a2), some (.int a3), some (.int a4), none] [] τ) ∧ (¬ 0 ≤ x0 → Ru M_M_ships d Q 75 [some (.ref a0), some (.int a1), some (.int a2), some (.int a3), some (.int a4), none] [] τ))) ∧
    (∀ (a0 : Nat) (a1 : Int32) (a2 : Int32) (a3 : Int32) (a4 : Int32) (τ : St), Ru M_M_ships d Q 75 [some (.ref a0), some (.int a1), some (.int a2), some (.int a3), some (.int a4), none] [] τ = Ru M_M_ships d Q 77 [some (.ref a0), some (.int a1), some (.int a2), some (.int a3), some (.int a4), none] [.int a4] τ) ∧
    (∀ (a0 : Nat) (a1 : Int32) (a2 : Int32) (a3 : Int32) (a4 : Int32) (x0 : Int32) (τ : St), Ru M_M_ships d Q 77 [some (.ref a0), some (.int a1), some (.int a2), some (.int a3), some (.int a4), none] [.int x0] τ = Q (some (.int x0)) τ) ∧
    (∀ (a0 : Nat) (a1 : Int32) (a2 : Int32) (a3 : Int32) (a4 : Int32) (τ : St), Ru M_M_ships d Q 78 [some (.ref a0), some (.int a1), some (.int a2), some (.int a3), some (.int a4), none] [] τ = Ru M_M_ships d Q 79 [some (.ref a0), some (.int a1), some (.int a2), some (.int a3), some (.int a4), none] [.int 0] τ) ∧
    (∀ (a0 : Nat) (a1 : Int32) (a2 : Int32) (a3 : Int32) (a4 : Int32) (x0 : Int32) (τ : St), Ru M_M_ships d Q 79 [some (.ref a0), some (.int a1), some (.int a2), some (.int a3), some (.int a4), none] [.int x0] τ = Rs M_M_ships d Q 81 [some (.ref a0), some (.int a1), some (.int a2), some (.int a3), some (.int a4), some (.int x0)] [] τ) ∧
    (∀ (a0 : Nat) (a1 : Int32) (a2 : Int32) (a3 : Int32) (a4 : Int32) (a5 : Int32) (τ : St), Ru M_M_ships d Q 81 [some (.ref a0), some (.int a1), some (.int a2), some (.int a3), some (.int a4), some (.int a5)] [] τ = Ru M_M_ships d Q 83 [some (.ref a0), some (.int a1), some (.int a2), some (.int a3), some (.int a4), some (.int a5)] [.int a5] τ) ∧
    (∀ (a0 : Nat) (a1 : Int32) (a2 : Int32) (a3 : Int32) (a4 : Int32) (a5 : Int32) (x0 : Int32) (τ : St), Ru M_M_ships d Q 83 [some (.ref a0), some (.int a1), some (.int a2), some (.int a3), some (.int a4), some (.int a5)] [.int x0] τ = Ru M_M_ships d Q 84 [some (.ref a0), some (.int a1), some (.int a2), some (.int a3), some (.int a4), some (.int a5)] [.ref a0, .int x0] τ) ∧
    (∀ (a0 : Nat) (a1 : Int32) (a2 : Int32) (a3 : Int32) (a4 : Int32) (a5 : Int32) (x0 : Nat) (x1 : Int32) (τ : St), Ru M_M_ships d Q 84 [some (.ref a0), some (.int a1), some (.int a2), some (.int a3), some (.int a4), some (.int a5)] [.ref x0, .int x1] τ = (isA 12 x0 ∧ Ru M_M_ships d Q 87 [some (.ref a0), some (.int a1), some (.int a2), some (.int a3), some (.int a4), some (.int a5)] [.int (τ.1 x0 21), .int x1] τ)) ∧
    (∀ (a0 : Nat) (a1 : Int32) (a2 : Int32) (a3 : Int32) (a4 : Int32) (a5 : Int32) (x0 : Int32) (x1 : Int32) (τ : St), Ru M_M_ships d Q 87 [some (.ref a0), some (.int a1), some (.int a2), some (.int a3), some (.int a4), some (.int a5)] [.int x0, .int x1] τ = ((x0 ≤ x1 → Ru M_M_ships d Q 165 [some (.ref a0), some (.int a1), some (.int a2), some (.int a3), some (.int a4), some (.int a5)] [] τ) ∧ (¬ x0 ≤ x1 → Ru M_M_ships d Q 90 [some (.ref a0), some (.int a1), some (.int a2), some (.int a3), some (.int a4), some (.int a5)] [] τ))) ∧
    (∀ (a0 : Nat) (a1 : Int32) (a2 : Int32) (a3 : Int32) (a4 : Int32) (a5 : Int32) (τ : St), Ru M_M_ships d Q 90 [some (.ref a0), some (.int a1), some (.int a2), some (.int a3), some (.int a4), some (.int a5)] [] τ = Ru M_M_ships d Q 91 [some (.ref a0), some (.int a1), some (.int a2), some (.int a3), some (.int a4), some (.int a5)] [.ref a0] τ) ∧
    (∀ (a0 : Nat) (a1 : Int32) (a2 : Int32) (a3 : Int32) (a4 : Int32) (a5 : Int32) (x0 : Nat) (τ : St), Ru M_M_ships d Q 91 [some (.ref a0), some (.int a1), some (.int a2), some (.int a3), some (.int a4), some (.int a5)] [.ref x0] τ = (isA 12 x0 ∧ Ru M_M_ships d Q 94 [some (.ref a0), some (.int a1), some (.int a2), some (.int a3), some (.int a4), some (.int a5)] [.ref (rtab x0 9)] τ)) ∧
    (∀ (a0 : Nat) (a1 : Int32) (a2 : Int32) (a3 : Int32) (a4 : Int32) (a5 : Int32) (x0 : Nat) (τ : St), Ru M_M_ships d Q 94 [some (.ref a0), some (.int a1), some (.int a2), some (.int a3), some (.int a4), some (.int a5)] [.ref x0] τ = Ru M_M_ships d Q 95 [some (.ref a0), some (.int a1), some (.int a2), some (.int a3), some (.int a4), some (.int a5)] [.ref a0, .ref x0] τ) ∧
    (∀ (a0 : Nat) (a1 : Int32) (a2 : Int32) (a3 : Int32) (a4 : Int32) (a5 : Int32) (x0 : Nat) (x1 : Nat) (τ : St), Ru M_M_ships d Q 95 [some (.ref a0), some (.int a1), some (.int a2), some (.int a3), some (.int a4), some (.int a5)] [.ref x0, .ref x1] τ = (isA 12 x0 ∧ Ru M_M_ships d Q 98 [some (.ref a0), some (.int a1), some (.int a2), some (.int a3), some (.int a4), some (.int a5)] [.int (τ.1 x0 5), .ref x1] τ)) ∧
    (∀ (a0 : Nat) (a1 : Int32) (a2 : Int32) (a3 : Int32) (a4 : Int32) (a5 : Int32) (x0 : Int32) (x1 : Nat) (τ : St), Ru M_M_ships d Q 98 [some (.ref a0), some (.int a1), some (.int a2), some (.int a3), some (.int a4), some (.int a5)] [.int x0, .ref x1] τ = Ru M_M_ships d Q 99 [some (.ref a0), some (.int a1), some (.int a2), some (.int a3), some (.int a4), some (.int a5)] [.ref a0, .int x0, .ref x1] τ) ∧
    (∀ (a0 : Nat) (a1 : Int32) (a2 : Int32) (a3 : Int32) (a4 : Int32) (a5 : Int32) (x0 : Nat) (x1 : Int32) (x2 : Nat) (τ : St), Ru M_M_ships d Q 99 [some (.ref a0), some (.int a1), some (.int a2), some (.int a3), some (.int a4), some (.int a5)] [.ref x0, .int x1, .ref x2] τ = (isA 12 x0 ∧ Ru M_M_ships d Q 102 [some (.ref a0), some (.int a1), some (.int a2), some (.int a3), some (.int a4), some (.int a5)] [.ref (rtab x0 20), .int x1, .ref x2] τ)) ∧
    (∀ (a0 : Nat) (a1 : Int32) (a2 : Int32) (a3 : Int32) (a4 : Int32) (a5 : Int32) (x0 : Nat) (x1 : Int32) (x2 : Nat) (τ : St), Ru M_M_ships d Q 102 [some (.ref a0), some (.int a1), some (.int a2), some (.int a3), some (.int a4), some (.int a5)] [.ref x0, .int x1, .ref x2] τ = Ru M_M_ships d Q 103 [some (.ref a0), some (.int a1), some (.int a2), some (.int a3), some (.int a4), some (.int a5)] [.int 2, .ref x0, .int x1, .ref x2] τ) ∧
    (∀ (a0 : Nat) (a1 : Int32) (a2 : Int32) (a3 : Int32) (a4 : Int32) (a5 : Int32) (x0 : Int32) (x1 : Nat) (x2 : Int32) (x3 : Nat) (τ : St), Ru M_M_ships d Q 103 [some (.ref a0), some (.int a1), some (.int a2), some (.int a3), some (.int a4), some (.int a5)] [.int x0, .ref x1, .int x2, .ref x3] τ = Ru M_M_ships d Q 105 [some (.ref a0), some (.int a1), some (.int a2), some (.int a3), some (.int a4), some (.int a5)] [.int a5, .int x0, .ref x1, .int x2, .ref x3] τ) ∧
    (∀ (a0 : Nat) (a1 : Int32) (a2 : Int32) (a3 : Int32) (a4 : Int32) (a5 : Int32) (x0 : Int32) (x1 : Int32) (x2 : Nat) (x3 : Int32) (x4 : Nat) (τ : St), Ru M_M_ships d Q 105 [some (.ref a0), some (.int a1), some (.int a2), some (.int a3), some (.int a4), some (.int a5)] [.int x0, .int x1, .ref x2, .int x3, .ref x4] τ = Ru M_M_ships d Q 106 [some (.ref a0), some (.int a1), some (.int a2), some (.int a3), some (.int a4), some (.int a5)] [.int (x1 * x0), .ref x2, .int x3, .ref x4] τ) ∧
    (∀ (a0 : Nat) (a1 : Int32) (a2 : Int32) (a3 : Int32) (a4 : Int32) (a5 : Int32) (x0 : Int32) (x1 : Nat) (x2 : Int32) (x3 : Nat) (τ : St), Ru M_M_ships d Q 106 [some (.ref a0), some (.int a1), some (.int a2), some (.int a3), some (.int a4), some (.int a5)] [.int x0, .ref x1, .int x2, .ref x3] τ = (isA 14 x1 ∧ vp_in x0 (len x1) ∧ Ru M_M_ships d Q 107 [some (.ref a0), some (.int a1), some (.int a2), some (.int a3), some (.int a4), some (.int a5)] [.int (τ.1 x1 x0.toNatClampNeg), .int x2, .ref x3] τ)) ∧
    (∀ (a0 : Nat) (a1 : Int32) (a2 : Int32) (a3 : Int32) (a4 : Int32) (a5 : Int32) (x0 : Int32) (x1 : Int32) (x2 : Nat) (τ : St), Ru M_M_ships d Q 107 [some (.ref a0), some (.int a1), some (.int a2), some (.int a3), some (.int a4), some (.int a5)] [.int x0, .int x1, .ref x2] τ = (isA 14 x2 ∧ vp_in x1 (len x2) ∧ Ru M_M_ships d Q 108 [some (.ref a0), some (.int a1), some (.int a2), some (.int a3), some (.int a4), some (.int a5)] [] (sI τ x2 x1.toNatClampNeg (x0)))) ∧
    (∀ (a0 : Nat) (a1 : Int32) (a2 : Int32) (a3 : Int32) (a4 : Int32) (a5 : Int32) (τ : St), Ru M_M_ships d Q 108 [some (.ref a0), some (.int a1), some (.int a2), some (.int a3), some (.int a4), some (.int a5)] [] τ = Ru M_M_ships d Q 109 [some (.ref a0), some (.int a1), some (.int a2), some (.int a3), some (.int a4), some (.int a5)] [.ref a0] τ) ∧
    (∀ (a0 : Nat) (a1 : Int32) (a2 : Int32) (a3 : Int32) (a4 : Int32) (a5 : Int32) (x0 : Nat) (τ : St), Ru M_M_ships d Q 109 [some (.ref a0), some (.int a1), some (.int a2), some (.int a3), some (.int a4), some (.int a5)] [.ref x0] τ = (isA 12 x0 ∧ Ru M_M_ships d Q 112 [some (.ref a0), some (.int a1), some (.int a2), some (.int a3), some (.int a4), some (.int a5)] [.ref (rtab x0 11)] τ)) ∧
    (∀ (a0 : Nat) (a1 : Int32) (a2 : Int32) (a3 : Int32) (a4 : Int32) (a5 : Int32) (x0 : Nat) (τ : St), Ru M_M_ships d Q 112 [some (.ref a0), some (.int a1), some (.int a2), some (.int a3), some (.int a4), some (.int a5)] [.ref x0] τ = Ru M_M_ships d Q 114 [some (.ref a0), some (.int a1), some (.int a2), some (.int a3), some (.int a4), some (.int a5)] [.int 36, .ref x0] τ) ∧
    (∀ (a0 : Nat) (a1 : Int32) (a2 : Int32) (a3 : Int32) (a4 : Int32) (a5 : Int32) (x0 : Int32) (x1 : Nat) (τ : St), Ru M_M_ships d Q 114 [some (.ref a0), some (.int a1), some (.int a2), some (.int a3), some (.int a4), some (.int a5)] [.int x0, .ref x1] τ = Ru M_M_ships d Q 115 [some (.ref a0), some (.int a1), some (.int a2), some (.int a3), some (.int a4), some (.int a5)] [.ref a0, .int x0, .ref x1] τ) ∧
    (∀ (a0 : Nat) (a1 : Int32) (a2 : Int32) (a3 : Int32) (a4 : Int32) (a5 : Int32) (x0 : Nat) (x1 : Int32) (x2 : Nat) (τ : St), Ru M_M_ships d Q 115 [some (.ref a0), some (.int a1), some (.int a2), some (.int a3), some (.int a4), some (.int a5)] [.ref x0, .int x1, .ref x2] τ = (isA 12 x0 ∧ Ru M_M_ships d Q 118 [some (.ref a0), some (.int a1), some (.int a2), some (.int a3), some (.int a4), some (.int a5)] [.int (τ.1 x0 5), .int x1, .ref x2] τ)) ∧
    (∀ (a0 : Nat) (a1 : Int32) (a2 : Int32) (a3 : Int32) (a4 : Int32) (a5 : Int32) (x0 : Int32) (x1 : Int32) (x2 : Nat) (τ : St), Ru M_M_ships d Q 118 [some (.ref a0), some (.int a1), some (.int a2), some (.int a3), some (.int a4), some (.int a5)] [.int x0, .int x1, .ref x2] τ = Ru M_M_ships d Q 119 [some (.ref a0), some (.int a1), some (.int a2), some (.int a3), some (.int a4), some (.int a5)] [.int (x1 + x0), .ref x2] τ) ∧
    (∀ (a0 : Nat) (a1 : Int32) (a2 : Int32) (a3 : Int32) (a4 : Int32) (a5 : Int32) (x0 : Int32) (x1 : Nat) (τ : St), Ru M_M_ships d Q 119 [some (.ref a0), some (.int a1), some (.int a2), some (.int a3), some (.int a4), some (.int a5)] [.int x0, .ref x1] τ = Ru M_M_ships d Q 120 [some (.ref a0), some (.int a1), some (.int a2), some (.int a3), some (.int a4), some (.int a5)] [.ref a0, .int x0, .ref x1] τ) ∧
    (∀ (a0 : Nat) (a1 : Int32) (a2 : Int32) (a3 : Int32) (a4 : Int32) (a5 : Int32) (x0 : Nat) (x1 : Int32) (x2 : Nat) (τ : St), Ru M_M_ships d Q 120 [some (.ref a0), some (.int a1), some (.int a2), some (.int a3), some (.int a4), some (.int a5)] [.ref x0, .int x1, .ref x2] τ = (isA 12 x0 ∧ Ru M_M_ships d Q 123 [some (.ref a0), some (.int a1), some (.int a2), some (.int a3), some (.int a4), some (.int a5)] [.ref (rtab x0 20), .int x1, .ref x2] τ)) ∧
    (∀ (a0 : Nat) (a1 : Int32) (a2 : Int32) (a3 : Int32) (a4 : Int32) (a5 : Int32) (x0 : Nat) (x1 : Int32) (x2 : Nat) (τ : St), Ru M_M_ships d Q 123 [some (.ref a0), some (.int a1), some (.int a2), some (.int a3), some (.int a4), some (.int a5)] [.ref x0, .int x1, .ref x2] τ = Ru M_M_ships d Q 124 [some (.ref a0), some (.int a1), some (.int a2), some (.int a3), some (.int a4), some (.int a5)] [.int 2, .ref x0, .int x1, .ref x2] τ) ∧
    (∀ (a0 : Nat) (a1 : Int32) (a2 : Int32) (a3 : Int32) (a4 : Int32) (a5 : Int32) (x0 : Int32) (x1 : Nat) (x2 : Int32) (x3 : Nat) (τ : St), Ru M_M_ships d Q 124 [some (.ref a0), some (.int a1), some (.int a2), some (.int a3), some (.int a4), some (.int a5)] [.int x0, .ref x1, .int x2, .ref x3] τ = Ru M_M_ships d Q 126 [some (.ref a0), some (.int a1), some (.int a2), some (.int a3), some (.int a4), some (.int a5)] [.int a5, .int x0, .ref x1, .int x2, .ref x3] τ) ∧
    (∀ (a0 : Nat) (a1 : Int32) (a2 : Int32) (a3 : Int32) (a4 : Int32) (a5 : Int32) (x0 : Int32) (x1 : Int32) (x2 : Nat) (x3 : Int32) (x4 : Nat) (τ : St), Ru M_M_ships d Q 126 [some (.ref a0), some (.int a1), some (.int a2), some (.int a3), some (.int a4), some (.int a5)] [.int x0, .int x1, .ref x2, .int x3, .ref x4] τ = Ru M_M_ships d Q 127 [some (.ref a0), some (.int a1), some (.int a2), some (.int a3), some (.int a4), some (.int a5)] [.int (x1 * x0), .ref x2, .int x3, .ref x4] τ) ∧
    (∀ (a0 : Nat) (a1 : Int32) (a2 : Int32) (a3 : Int32) (a4 : Int32) (a5 : Int32) (x0 : Int32) (x1 : Nat) (x2 : Int32) (x3 : Nat) (τ : St), Ru M_M_ships d Q 127 [some (.ref a0), some (.int a1), some (.int a2), some (.int a3), some (.int a4), some (.int a5)] [.int x0, .ref x1, .int x2, .ref x3] τ = Ru M_M_ships d Q 128 [some (.ref a0), some (.int a1), some (.int a2), some (.int a3), some (.int a4), some (.int a5)] [.int 1, .int x0, .ref x1, .int x2, .ref x3] τ) ∧
    (∀ (a0 : Nat) (a1 : Int32) (a2 : Int32) (a3 : Int32) (a4 : Int32) (a5 : Int32) (x0 : Int32) (x1 : Int32) (x2 : Nat) (x3 : Int32) (x4 : Nat) (τ : St), Ru M_M_ships d Q 128 [some (.ref a0), some (.int a1), some (.int a2), some (.int a3), some (.int a4), some (.int a5)] [.int x0, .int x1, .ref x2, .int x3, .ref x4] τ = Ru M_M_ships d Q 129 [some (.ref a0), some (.int a1), some (.int a2), some (.int a3), some (.int a4), some (.int a5)] [.int (x1 + x0), .ref x2, .int x3, .ref x4] τ) ∧
    (∀ (a0 : Nat) (a1 : Int32) (a2 : Int32) (a3 : Int32) (a4 : Int32) (a5 : Int32) (x0 : Int32) (x1 : Nat) (x2 : Int32) (x3 : Nat) (τ : St), Ru M_M_ships d Q 129 [some (.ref a0), some (.int a1), some (.int a2), some (.int a3), some (.int a4), some (.int a5)] [.int x0, .ref x1, .int x2, .ref x3] τ = (isA 14 x1 ∧ vp_in x0 (len x1) ∧ Ru M_M_ships d Q 130 [some (.ref a0), some (.int a1), some (.int a2), some (.int a3), some (.int a4), some (.int a5)] [.int (τ.1 x1 x0.toNatClampNeg), .int x2, .ref x3] τ)) ∧
    (∀ (a0 : Nat) (a1 : Int32) (a2 : Int32) (a3 : Int32) (a4 : Int32) (a5 : Int32) (x0 : Int32) (x1 : Int32) (x2 : Nat) (τ : St), Ru M_M_ships d Q 130 [some (.ref a0), some (.int a1), some (.int a2), some (.int a3), some (.int a4), some (.int a5)] [.int x0, .int x1, .ref x2] τ = (isA 14 x2 ∧ vp_in x1 (len x2) ∧ Ru M_M_ships d Q 131 [some (.ref a0), some (.int a1), some (.int a2), some (.int a3), some (.int a4), some (.int a5)] [] (sI τ x2 x1.toNatClampNeg (x0)))) ∧
    (∀ (a0 : Nat) (a1 : Int32) (a2 : Int32) (a3 : Int32) (a4 : Int32) (a5 : Int32) (τ : St), Ru M_M_ships d Q 131 [some (.ref a0), some (.int a1), some (.int a2), some (.int a3), some (.int a4), some (.int a5)] [] τ = Ru M_M_ships d Q 132 [some (.ref a0), some (.int a1), some (.int a2), some (.int a3), some (.int a4), some (.int a5)] [.ref a0] τ) ∧
    (∀ (a0 : Nat) (a1 : Int32) (a2 : Int32) (a3 : Int32) (a4 : Int32) (a5 : Int32) (x0 : Nat) (τ : St), Ru M_M_ships d Q 132 [some (.ref a0), some (.int a1), some (.int a2), some (.int a3), some (.int a4), some (.int a5)] [.ref x0] τ = (isA 12 x0 ∧ Ru M_M_ships d Q 135 [some (.ref a0), some (.int a1), some (.int a2), some (.int a3), some (.int a4), some (.int a5)] [.ref (rtab x0 11)] τ)) ∧
    (∀ (a0 : Nat) (a1 : Int32) (a2 : Int32) (a3 : Int32) (a4 : Int32) (a5 : Int32) (x0 : Nat) (τ : St), Ru M_M_ships d Q 135 [some (.ref a0), some (.int a1), some (.int a2), some (.int a3), some (.int a4), some (.int a5)] [.ref x0] τ = Ru M_M_ships d Q 137 [some (.ref a0), some (.int a1), some (.int a2), some (.int a3), some (.int a4), some (.int a5)] [.int 44, .ref x0] τ) ∧
    (∀ (a0 : Nat) (a1 : Int32) (a2 : Int32) (a3 : Int32) (a4 : Int32) (a5 : Int32) (x0 : Int32) (x1 : Nat) (τ : St), Ru M_M_ships d Q 137 [some (.ref a0), some (.int a1), some (.int a2), some (.int a3), some (.int a4), some (.int a5)] [.int x0, .ref x1] τ = Ru M_M_ships d Q 138 [some (.ref a0), some (.int a1), some (.int a2), some (.int a3), some (.int a4), some (.int a5)] [.int x0, .ref x1, .int x0, .ref x1] τ) ∧
    (∀ (a0 : Nat) (a1 : Int32) (a2 : Int32) (a3 : Int32) (a4 : Int32) (a5 : Int32) (x0 : Int32) (x1 : Nat) (x2 : Int32) (x3 : Nat) (τ : St), Ru M_M_ships d Q 138 [some (.ref a0), some (.int a1), some (.int a2), some (.int a3), some (.int a4), some (.int a5)] [.int x0, .ref x1, .int x2, .ref x3] τ = (isA 14 x1 ∧ vp_in x0 (len x1) ∧ Ru M_M_ships d Q 139 [some (.ref a0), some (.int a1), some (.int a2), some (.int a3), some (.int a4), some (.int a5)] [.int (τ.1 x1 x0.toNatClampNeg), .int x2, .ref x3] τ)) ∧
    (∀ (a0 : Nat) (a1 : Int32) (a2 : Int32) (a3 : Int32) (a4 : Int32) (a5 : Int32) (x0 : Int32) (x1 : Int32) (x2 : Nat) (τ : St), Ru M_M_ships d Q 139 [some (.ref a0), some (.int a1), some (.int a2), some (.int a3), some (.int a4), some (.int a5)] [.int x0, .int x1, .ref x2] τ = Ru M_M_ships d Q 140 [some (.ref a0), some (.int a1), some (.int a2), some (.int a3), some (.int a4), some (.int a5)] [.int 1, .int x0, .int x1, .ref x2] τ) ∧
    (∀ (a0 : Nat) (a1 : Int32) (a2 : Int32) (a3 : Int32) (a4 : Int32) (a5 : Int32) (x0 : Int32) (x1 : Int32) (x2 : Int32) (x3 : Nat) (τ : St), Ru M_M_ships d Q 140 [some (.ref a0), some (.int a1), some (.int a2), some (.int a3), some (.int a4), some (.int a5)] [.int x0, .int x1, .int x2, .ref x3] τ = Ru M_M_ships d Q 141 [some (.ref a0), some (.int a1), some (.int a2), some (.int a3), some (.int a4), some (.int a5)] [.ref a0, .int x0, .int x1, .int x2, .ref x3] τ) ∧
    (∀ (a0 : Nat) (a1 : Int32) (a2 : Int32) (a3 : Int32) (a4 : Int32) (a5 : Int32) (x0 : Nat) (x1 : Int32) (x2 : Int32) (x3 : Int32) (x4 : Nat) (τ : St), Ru M_M_ships d Q 141 [some (.ref a0), some (.int a1), some (.int a2), some (.int a3), some (.int a4), some (.int a5)] [.ref x0, .int x1, .int x2, .int x3, .ref x4] τ = (isA 12 x0 ∧ Ru M_M_ships d Q 144 [some (.ref a0), some (.int a1), some (.int a2), some (.int a3), some (.int a4), some (.int a5)] [.int (τ.1 x0 5), .int x1, .int x2, .int x3, .ref x4] τ)) ∧
    (∀ (a0 : Nat) (a1 : Int32) (a2 : Int32) (a3 : Int32) (a4 : Int32) (a5 : Int32) (x0 : Int32) (x1 : Int32) (x2 : Int32) (x3 : Int32) (x4 : Nat) (τ : St), Ru M_M_ships d Q 144 [some (.ref a0), some (.int a1), some (.int a2), some (.int a3), some (.int a4), some (.int a5)] [.int x0, .int x1, .int x2, .int x3, .ref x4] τ = Ru M_M_ships d Q 145 [some (.ref a0), some (.int a1), some (.int a2), some (.int a3), some (.int a4), some (.int a5)] [.int (x1 <<< (x0 &&& 31)), .int x2, .int x3, .ref x4] τ) ∧
    (∀ (a0 : Nat) (a1 : Int32) (a2 : Int32) (a3 : Int32) (a4 : Int32) (a5 : Int32) (x0 : Int32) (x1 : Int32) (x2 : Int32) (x3 : Nat) (τ : St), Ru M_M_ships d Q 145 [some (.ref a0), some (.int a1), some (.int a2), some (.int a3), some (.int a4), some (.int a5)] [.int x0, .int x1, .int x2, .ref x3] τ = Ru M_M_ships d Q 146 [some (.ref a0), some (.int a1), some (.int a2), some (.int a3), some (.int a4), some (.int a5)] [.int (-1), .int x0, .int x1, .int x2, .ref x3] τ) ∧
    (∀ (a0 : Nat) (a1 : Int32) (a2 : Int32) (a3 : Int32) (a4 : Int32) (a5 : Int32) (x0 : Int32) (x1 : Int32) (x2 : Int32) (x3 : Int32) (x4 : Nat) (τ : St), Ru M_M_ships d Q 146 [some (.ref a0), some (.int a1), some (.int a2), some (.int a3), some (.int a4), some (.int a5)] [.int x0, .int x1, .int x2, .int x3, .ref x4] τ = Ru M_M_ships d Q 147 [some (.ref a0), some (.int a1), some (.int a2), some (.int a3), some (.int a4), some (.int a5)] [.int (x1 ^^^ x0), .int x2, .int x3, .ref x4] τ) ∧
    (∀ (a0 : Nat) (a1 : Int32) (a2 : Int32) (a3 : Int32) (a4 : Int32) (a5 : Int32) (x0 : Int32) (x1 : Int32) (x2 : Int32) (x3 : Nat) (τ : St), Ru M_M_ships d Q 147 [some (.ref a0), some (.int a1), some (.int a2), some (.int a3), some (.int a4), some (.int a5)] [.int x0, .int x1, .int x2, .ref x3] τ = Ru M_M_ships d Q 148 [some (.ref a0), some (.int a1), some (.int a2), some (.int a3), some (.int a4), some (.int a5)] [.int (x1 &&& x0), .int x2, .ref x3] τ) ∧
    (∀ (a0 : Nat) (a1 : Int32) (a2 : Int32) (a3 : Int32) (a4 : Int32) (a5 : Int32) (x0 : Int32) (x1 : Int32) (x2 : Nat) (τ : St), Ru M_M_ships d Q 148 [some (.ref a0), some (.int a1), some (.int a2), some (.int a3), some (.int a4), some (.int a5)] [.int x0, .int x1, .ref x2] τ = (isA 14 x2 ∧ vp_in x1 (len x2) ∧ Ru M_M_ships d Q 149 [some (.ref a0), some (.int a1), some (.int a2), some (.int a3), some (.int a4), some (.int a5)] [] (sI τ x2 x1.toNatClampNeg (x0)))) ∧
    (∀ (a0 : Nat) (a1 : Int32) (a2 : Int32) (a3 : Int32) (a4 : Int32) (a5 : Int32) (τ : St), Ru M_M_ships d Q 149 [some (.ref a0), some (.int a1), some (.int a2), some (.int a3), some (.int a4), some (.int a5)] [] τ = Ru M_M_ships d Q 150 [some (.ref a0), some (.int a1), some (.int a2), some (.int a3), some (.int a4), some (.int a5)] [.ref a0] τ) ∧
    (∀ (a0 : Nat) (a1 : Int32) (a2 : Int32) (a3 : Int32) (a4 : Int32) (a5 : Int32) (x0 : Nat) (τ : St), Ru M_M_ships d Q 150 [some (.ref a0), some (.int a1), some (.int a2), some (.int a3), some (.int a4), some (.int a5)] [.ref x0] τ = Ru M_M_ships d Q 151 [some (.ref a0), some (.int a1), some (.int a2), some (.int a3), some (.int a4), some (.int a5)] [.ref x0, .ref x0] τ) ∧
    (∀ (a0 : Nat) (a1 : Int32) (a2 : Int32) (a3 : Int32) (a4 : Int32) (a5 : Int32) (x0 : Nat) (x1 : Nat) (τ : St), Ru M_M_ships d Q 151 [some (.ref a0), some (.int a1), some (.int a2), some (.int a3), some (.int a4), some (.int a5)] [.ref x0, .ref x1] τ = (isA 12 x0 ∧ Ru M_M_ships d Q 154 [some (.ref a0), some (.int a1), some (.int a2), some (.int a3), some (.int a4), some (.int a5)] [.int (τ.1 x0 5), .ref x1] τ)) ∧
    (∀ (a0 : Nat) (a1 : Int32) (a2 : Int32) (a3 : Int32) (a4 : Int32) (a5 : Int32) (x0 : Int32) (x1 : Nat) (τ : St), Ru M_M_ships d Q 154 [some (.ref a0), some (.int a1), some (.int a2), some (.int a3), some (.int a4), some (.int a5)] [.int x0, .ref x1] τ = Ru M_M_ships d Q 155 [some (.ref a0), some (.int a1), some (.int a2), some (.int a3), some (.int a4), some (.int a5)] [.int 1, .int x0, .ref x1] τ) ∧
    (∀ (a0 : Nat) (a1 : Int32) (a2 : Int32) (a3 : Int32) (a4 : Int32) (a5 : Int32) (x0 : Int32) (x1 : Int32) (x2 : Nat) (τ : St), Ru M_M_ships d Q 155 [some (.ref a0), some (.int a1), some (.int a2), some (.int a3), some (.int a4), some (.int a5)] [.int x0, .int x1, .ref x2] τ = Ru M_M_ships d Q 156 [some (.ref a0), some (.int a1), some (.int a2), some (.int a3), some (.int a4), some (.int a5)] [.int (x1 + x0), .ref x2] τ) ∧
    (∀ (a0 : Nat) (a1 : Int32) (a2 : Int32) (a3 : Int32) (a4 : Int32) (a5 : Int32) (x0 : Int32) (x1 : Nat) (τ : St), Ru M_M_ships d Q 156 [some (.ref a0), some (.int a1), some (.int a2), some (.int a3), some (.int a4), some (.int a5)] [.int x0, .ref x1] τ = (isA 12 x1 ∧ Ru M_M_ships d Q 159 [some (.ref a0), some (.int a1), some (.int a2), some (.int a3), some (.int a4), some (.int a5)] [] (sI τ x1 5 x0))) ∧
    (∀ (a0 : Nat) (a1 : Int32) (a2 : Int32) (a3 : Int32) (a4 : Int32) (a5 : Int32) (τ : St), Ru M_M_ships d Q 159 [some (.ref a0), some (.int a1), some (.int a2), some (.int a3), some (.int a4), some (.int a5)] [] τ = Ru M_M_ships d Q 162 [some (.ref a0), some (.int a1), some (.int a2), some (.int a3), some (.int a4), some (.int (a5 + 1))] [] τ) ∧
    (∀ (a0 : Nat) (a1 : Int32) (a2 : Int32) (a3 : Int32) (a4 : Int32) (a5 : Int32) (τ : St), Ru M_M_ships d Q 162 [some (.ref a0), some (.int a1), some (.int a2), some (.int a3), some (.int a4), some (.int a5)] [] τ = Rs M_M_ships d Q 81 [some (.ref a0), some (.int a1), some (.int a2), some (.int a3), some (.int a4), some (.int a5)] [] τ) ∧
    (∀ (a0 : Nat) (a1 : Int32) (a2 : Int32) (a3 : Int32) (a4 : Int32) (a5 : Int32) (τ : St), Ru M_M_ships d Q 165 [some (.ref a0), some (.int a1), some (.int a2), some (.int a3), some (.int a4), some (.int a5)] [] τ = Ru M_M_ships d Q 166 [some (.ref a0), some (.int a1), some (.int a2), some (.int a3), some (.int a4), some (.int a5)] [.ref a0] τ) ∧
    (∀ (a0 : Nat) (a1 : Int32) (a2 : Int32) (a3 : Int32) (a4 : Int32) (a5 : Int32) (x0 : Nat) (τ : St), Ru M_M_ships d Q 166 [some (.ref a0), some (.int a1), some (.int a2), some (.int a3), some (.int a4), some (.int a5)] [.ref x0] τ = (isA 12 x0 ∧ Ru M_M_ships d Q 169 [some (.ref a0), some (.int a1), some (.int a2), some (.int a3), some (.int a4), some (.int a5)] [.int (τ.1 x0 21)] τ)) ∧
    (∀ (a0 : Nat) (a1 : Int32) (a2 : Int32) (a3 : Int32) (a4 : Int32) (a5 : Int32) (x0 : Int32) (τ : St), Ru M_M_ships d Q 169 [some (.ref a0), some (.int a1), some (.int a2), some (.int a3), some (.int a4), some (.int a5)] [.int x0] τ = ((x0 ≤ 0 → Ru M_M_ships d Q 187 [some (.ref a0), some (.int a1), some (.int a2), some (.int a3), some (.int a4), some (.int a5)] [] τ) ∧ (¬ x0 ≤ 0 → Ru M_M_ships d Q 172 [some (.ref a0), some (.int a1), some (.int a2), some (.int a3), some (.int a4), some (.int a5)] [] τ))) ∧
    (∀ (a0 : Nat) (a1 : Int32) (a2 : Int32) (a3 : Int32) (a4 : Int32) (a5 : Int32) (τ : St), Ru M_M_ships d Q 172 [some (.ref a0), some (.int a1), some (.int a2), some (.int a3), some (.int a4), some (.int a5)] [] τ = Ru M_M_ships d Q 173 [some (.ref a0), some (.int a1), some (.int a2), some (.int a3), some (.int a4), some (.int a5)] [.ref a0] τ) ∧
    (∀ (a0 : Nat) (a1 : Int32) (a2 : Int32) (a3 : Int32) (a4 : Int32) (a5 : Int32) (x0 : Nat) (τ : St), Ru M_M_ships d Q 173 [some (.ref a0), some (.int a1), some (.int a2), some (.int a3), some (.int a4), some (.int a5)] [.ref x0] τ = Ru M_M_ships d Q 174 [some (.ref a0), some (.int a1), some (.int a2), some (.int a3), some (.int a4), some (.int a5)] [.int 0, .ref x0] τ) ∧
    (∀ (a0 : Nat) (a1 : Int32) (a2 : Int32) (a3 : Int32) (a4 : Int32) (a5 : Int32) (x0 : Int32) (x1 : Nat) (τ : St), Ru M_M_ships d Q 174 [some (.ref a0), some (.int a1), some (.int a2), some (.int a3), some (.int a4), some (.int a5)] [.int x0, .ref x1] τ = (isA 12 x1 ∧ Ru M_M_ships d Q 177 [some (.ref a0), some (.int a1), some (.int a2), some (.int a3), some (.int a4), some (.int a5)] [] (sI τ x1 28 x0))) ∧
    (∀ (a0 : Nat) (a1 : Int32) (a2 : Int32) (a3 : Int32) (a4 : Int32) (a5 : Int32) (τ : St), Ru M_M_ships d Q 177 [some (.ref a0), some (.int a1), some (.int a2), some (.int a3), some (.int a4), some (.int a5)] [] τ = Ru M_M_ships d Q 178 [some (.ref a0), some (.int a1), some (.int a2), some (.int a3), some (.int a4), some (.int a5)] [.ref a0] τ) ∧
    (∀ (a0 : Nat) (a1 : Int32) (a2 : Int32) (a3 : Int32) (a4 : Int32) (a5 : Int32) (x0 : Nat) (τ : St), Ru M_M_ships d Q 178 [some (.ref a0), some (.int a1), some (.int a2), some (.int a3), some (.int a4), some (.int a5)] [.ref x0] τ = Ru M_M_ships d Q 179 [some (.ref a0), some (.int a1), some (.int a2), some (.int a3), some (.int a4), some (.int a5)] [.ref x0, .ref x0] τ) ∧
    (∀ (a0 : Nat) (a1 : Int32) (a2 : Int32) (a3 : Int32) (a4 : Int32) (a5 : Int32) (x0 : Nat) (x1 : Nat) (τ : St), Ru M_M_ships d Q 179 [some (.ref a0), some (.int a1), some (.int a2), some (.int a3), some (.int a4), some (.int a5)] [.ref x0, .ref x1] τ = (isA 12 x0 ∧ Ru M_M_ships d Q 182 [some (.ref a0), some (.int a1), some (.int a2), some (.int a3), some (.int a4), some (.int a5)] [.int (τ.1 x0 6), .ref x1] τ)) ∧
    (∀ (a0 : Nat) (a1 : Int32) (a2 : Int32) (a3 : Int32) (a4 : Int32) (a5 : Int32) (x0 : Int32) (x1 : Nat) (τ : St), Ru M_M_ships d Q 182 [some (.ref a0), some (.int a1), some (.int a2), some (.int a3), some (.int a4), some (.int a5)] [.int x0, .ref x1] τ = Ru M_M_ships d Q 183 [some (.ref a0), some (.int a1), some (.int a2), some (.int a3), some (.int a4), some (.int a5)] [.int 1, .int x0, .ref x1] τ) ∧
    (∀ (a0 : Nat) (a1 : Int32) (a2 : Int32) (a3 : Int32) (a4 : Int32) (a5 : Int32) (x0 : Int32) (x1 : Int32) (x2 : Nat) (τ : St), Ru M_M_ships d Q 183 [some (.ref a0), some (.int a1), some (.int a2), some (.int a3), some (.int a4), some (.int a5)] [.int x0, .int x1, .ref x2] τ = Ru M_M_ships d Q 184 [some (.ref a0), some (.int a1), some (.int a2), some (.int a3), some (.int a4), some (.int a5)] [.int (x1 + x0), .ref x2] τ) ∧
    (∀ (a0 : Nat) (a1 : Int32) (a2 : Int32) (a3 : Int32) (a4 : Int32) (a5 : Int32) (x0 : Int32) (x1 : Nat) (τ : St), Ru M_M_ships d Q 184 [some (.ref a0), some (.int a1), some (.int a2), some (.int a3), some (.int a4), some (.int a5)] [.int x0, .ref x1] τ = (isA 12 x1 ∧ Ru M_M_ships d Q 187 [some (.ref a0), some (.int a1), some (.int a2), some (.int a3), some (.int a4), some (.int a5)] [] (sI τ x1 6 x0))) ∧
    (∀ (a0 : Nat) (a1 : Int32) (a2 : Int32) (a3 : Int32) (a4 : Int32) (a5 : Int32) (τ : St), Ru M_M_ships d Q 187 [some (.ref a0), some (.int a1), some (.int a2), some (.int a3), some (.int a4), some (.int a5)] [] τ = Ru M_M_ships d Q 188 [some (.ref a0), some (.int a1), some (.int a2), some (.int a3), some (.int a4), some (.int a5)] [.ref a0] τ) ∧
    (∀ (a0 : Nat) (a1 : Int32) (a2 : Int32) (a3 : Int32) (a4 : Int32) (a5 : Int32) (x0 : Nat) (τ : St), Ru M_M_ships d Q 188 [some (.ref a0), some (.int a1), some (.int a2), some (.int a3), some (.int a4), some (.int a5)] [.ref x0] τ = (isA 12 x0 ∧ Ru M_M_ships d Q 191 [some (.ref a0), some (.int a1), some (.int a2), some (.int a3), some (.int a4), some (.int a5)] [.int (τ.1 x0 21)] τ)) ∧
    (∀ (a0 : Nat) (a1 : Int32) (a2 : Int32) (a3 : Int32) (a4 : Int32) (a5 : Int32) (x0 : Int32) (τ : St), Ru M_M_ships d Q 191 [some (.ref a0), some (.int a1), some (.int a2), some (.int a3), some (.int a4), some (.int a5)] [.int x0] τ = Q (some (.int x0)) τ) := ⟨
  fun _ _ => (R_at ok_M_ships rfl).trans (e_ald rfl),
  fun _ _ _ => (R_at ok_M_ships rfl).trans e_push,
  fun _ _ _ _ => (R_at ok_M_ships rfl).trans e_pI,
  fun _ _ => (R_at ok_M_ships rfl).trans (e_ald rfl),
  fun _ _ _ => (R_at ok_M_ships rfl).trans e_push,
  fun _ x0 _ _ => (R_at ok_M_ships rfl).trans (e_cv [.int x0] rfl rfl rfl),
  fun _ _ _ => (R_at ok_M_ships rfl).trans e_ist,
  fun _ _ _ => (R_at ok_M_ships rfl).trans (e_ald rfl),
  fun _ _ _ _ => (R_at ok_M_ships rfl).trans e_push,
  fun _ _ _ _ _ => (R_at ok_M_ships rfl).trans e_pI,
  fun _ _ _ => (R_at ok_M_ships rfl).trans e_push,
  fun _ _ _ _ => (R_at ok_M_ships rfl).trans e_ist,
  fun _ _ _ _ => (R_at ok_M_ships rfl).trans (e_ild rfl),
  fun _ _ _ _ _ => (R_at ok_M_ships rfl).trans e_if,
  fun _ _ _ _ => (R_at ok_M_ships rfl).trans e_push,
  fun _ _ _ _ _ => (R_at ok_M_ships rfl).trans e_goto,
  fun _ _ _ _ => (R_at ok_M_ships rfl).trans e_push,
  fun _ _ _ _ _ => (R_at ok_M_ships rfl).trans e_ist,
  fun _ _ _ _ _ => (R_at ok_M_ships rfl).trans (e_ild rfl),
  fun _ _ _ _ _ _ => (R_at ok_M_ships rfl).trans e_if,
  fun _ _ _ _ _ => (R_at ok_M_ships rfl).trans (e_ald rfl),
  fun _ _ _ _ _ _ => (R_at ok_M_ships rfl).trans (e_cv [] rfl rfl rfl),
  fun _ _ _ _ _ _ => (R_at ok_M_ships rfl).trans e_ist,
  fun _ _ _ _ _ => (R_at ok_M_ships rfl).trans (e_ild rfl),
  fun _ _ _ _ _ _ => (R_at ok_M_ships rfl).trans e_if,
  fun _ _ _ _ _ => (R_at ok_M_ships rfl).trans (e_ald rfl),
  fun _ _ _ _ _ _ => (R_at ok_M_ships rfl).trans e_push,
  fun _ _ _ _ x0 _ _ => (R_at ok_M_ships rfl).trans (e_cv [.int x0] rfl rfl rfl),
  fun _ _ _ _ _ _ => (R_at ok_M_ships rfl).trans e_if,
  fun _ _ _ _ _ => (R_at ok_M_ships rfl).trans e_push,
  fun _ _ _ _ _ _ => (R_at ok_M_ships rfl).trans e_goto,
  fun _ _ _ _ _ => (R_at ok_M_ships rfl).trans e_push,
  fun _ _ _ _ _ _ => (R_at ok_M_ships rfl).trans e_ist,
  fun _ _ _ _ _ => (R_at ok_M_ships rfl).trans e_goto,
  fun _ _ _ _ _ => (R_at ok_M_ships rfl).trans (e_ald rfl),
  fun _ _ _ _ _ _ => (R_at ok_M_ships rfl).trans (e_ild rfl),
  fun _ _ _ _ _ _ _ => (R_at ok_M_ships rfl).trans e_push,
  fun _ _ _ _ _ _ _ _ => (R_at ok_M_ships rfl).trans (e_ild rfl),
  fun _ _ _ _ x0 x1 x2 _ _ => (R_at ok_M_ships rfl).trans (e_cv [.int x2, .int x1, .int x0] rfl rfl rfl),
  fun _ _ _ _ _ _ => (R_at ok_M_ships rfl).trans e_ist,
  fun _ _ _ _ _ _ => (R_at ok_M_ships rfl).trans (e_ild rfl),
  fun _ _ _ _ _ _ _ => (R_at ok_M_ships rfl).trans e_if,
  fun _ _ _ _ _ _ => (R_at ok_M_ships rfl).trans (e_ild rfl),
  fun _ _ _ _ _ _ _ => (R_at ok_M_ships rfl).trans e_iret,
  fun _ _ _ _ _ _ => (R_at ok_M_ships rfl).trans e_push,
  fun _ _ _ _ _ _ _ => (R_at ok_M_ships rfl).trans e_ist,
  fun _ _ _ _ _ _ _ => (R_at ok_M_ships rfl).trans (e_ild rfl),
  fun _ _ _ _ _ _ _ _ => (R_at ok_M_ships rfl).trans (e_ald rfl),
  fun _ _ _ _ _ _ _ _ _ => (R_at ok_M_ships rfl).trans e_gI,
  fun _ _ _ _ _ _ _ _ _ => (R_at ok_M_ships rfl).trans e_ic,
  fun _ _ _ _ _ _ _ => (R_at ok_M_ships rfl).trans (e_ald rfl),
  fun _ _ _ _ _ _ _ _ => (R_at ok_M_ships rfl).trans e_gR,
  fun _ _ _ _ _ _ _ _ => (R_at ok_M_ships rfl).trans (e_ald rfl),
  fun _ _ _ _ _ _ _ _ _ => (R_at ok_M_ships rfl).trans e_gI,
  fun _ _ _ _ _ _ _ _ _ => (R_at ok_M_ships rfl).trans (e_ald rfl),
  fun _ _ _ _ _ _ _ _ _ _ => (R_at ok_M_ships rfl).trans e_gR,
  fun _ _ _ _ _ _ _ _ _ _ => (R_at ok_M_ships rfl).trans e_push,
  fun _ _ _ _ _ _ _ _ _ _ _ => (R_at ok_M_ships rfl).trans (e_ild rfl),
  fun _ _ _ _ _ _ _ _ _ _ _ _ => (R_at ok_M_ships rfl).trans e_bin,
  fun _ _ _ _ _ _ _ _ _ _ _ => (R_at ok_M_ships rfl).trans e_al,
  fun _ _ _ _ _ _ _ _ _ _ => (R_at ok_M_ships rfl).trans e_as,
  fun _ _ _ _ _ _ _ => (R_at ok_M_ships rfl).trans (e_ald rfl),
  fun _ _ _ _ _ _ _ _ => (R_at ok_M_ships rfl).trans e_gR,
  fun _ _ _ _ _ _ _ _ => (R_at ok_M_ships rfl).trans e_push,
  fun _ _ _ _ _ _ _ _ _ => (R_at ok_M_ships rfl).trans (e_ald rfl),
  fun _ _ _ _ _ _ _ _ _ _ => (R_at ok_M_ships rfl).trans e_gI,
  fun _ _ _ _ _ _ _ _ _ _ => (R_at ok_M_ships rfl).trans e_bin,
  fun _ _ _ _ _ _ _ _ _ => (R_at ok_M_ships rfl).trans (e_ald rfl),
  fun _ _ _ _ _ _ _ _ _ _ => (R_at ok_M_ships rfl).trans e_gR,
  fun _ _ _ _ _ _ _ _ _ _ => (R_at ok_M_ships rfl).trans e_push,
  fun _ _ _ _ _ _ _ _ _ _ _ => (R_at ok_M_ships rfl).trans (e_ild rfl),
  fun _ _ _ _ _ _ _ _ _ _ _ _ => (R_at ok_M_ships rfl).trans e_bin,
  fun _ _ _ _ _ _ _ _ _ _ _ => (R_at ok_M_ships rfl).trans e_push,
  fun _ _ _ _ _ _ _ _ _ _ _ _ => (R_at ok_M_ships rfl).trans e_bin,
  fun _ _ _ _ _ _ _ _ _ _ _ => (R_at ok_M_ships rfl).trans e_al,
  fun _ _ _ _ _ _ _ _ _ _ => (R_at ok_M_ships rfl).trans e_as,
  fun _ _ _ _ _ _ _ => (R_at ok_M_ships rfl).trans (e_ald rfl),
  fun _ _ _ _ _ _ _ _ => (R_at ok_M_ships rfl).trans e_gR,
  fun _ _ _ _ _ _ _ _ => (R_at ok_M_ships rfl).trans e_push,
  fun _ _ _ _ _ _ _ _ _ => (R_at ok_M_ships rfl).trans (e_dup2 rfl rfl),
  fun _ _ _ _ _ _ _ _ _ _ _ => (R_at ok_M_ships rfl).trans e_al,
  fun _ _ _ _ _ _ _ _ _ _ => (R_at ok_M_ships rfl).trans e_push,
  fun _ _ _ _ _ _ _ _ _ _ _ => (R_at ok_M_ships rfl).trans (e_ald rfl),
  fun _ _ _ _ _ _ _ _ _ _ _ _ => (R_at ok_M_ships rfl).trans e_gI,
  fun _ _ _ _ _ _ _ _ _ _ _ _ => (R_at ok_M_ships rfl).trans e_bin,
  fun _ _ _ _ _ _ _ _ _ _ _ => (R_at ok_M_ships rfl).trans e_push,
  fun _ _ _ _ _ _ _ _ _ _ _ _ => (R_at ok_M_ships rfl).trans e_bin,
  fun _ _ _ _ _ _ _ _ _ _ _ => (R_at ok_M_ships rfl).trans e_bin,
  fun _ _ _ _ _ _ _ _ _ _ => (R_at ok_M_ships rfl).trans e_as,
  fun _ _ _ _ _ _ _ => (R_at ok_M_ships rfl).trans (e_ald rfl),
  fun _ _ _ _ _ _ _ _ => (R_at ok_M_ships rfl).trans (e_dup rfl),
  fun _ _ _ _ _ _ _ _ _ => (R_at ok_M_ships rfl).trans e_gI,
  fun _ _ _ _ _ _ _ _ _ => (R_at ok_M_ships rfl).trans e_push,
  fun _ _ _ _ _ _ _ _ _ _ => (R_at ok_M_ships rfl).trans e_bin,
  fun _ _ _ _ _ _ _ _ _ => (R_at ok_M_ships rfl).trans e_pI,
  fun _ _ _ _ _ _ _ => (R_at ok_M_ships rfl).trans (e_iinc rfl),
  fun _ _ _ _ _ _ _ => (R_at ok_M_ships rfl).trans e_goto,
  fun _ _ _ _ _ _ _ => (R_at ok_M_ships rfl).trans (e_ald rfl),
  fun _ _ _ _ _ _ _ _ => (R_at ok_M_ships rfl).trans e_gI,
  fun _ _ _ _ _ _ _ _ => (R_at ok_M_ships rfl).trans e_if,
  fun _ _ _ _ _ _ _ => (R_at ok_M_ships rfl).trans (e_ald rfl),
  fun _ _ _ _ _ _ _ _ => (R_at ok_M_ships rfl).trans e_push,
  fun _ _ _ _ _ _ _ _ _ => (R_at ok_M_ships rfl).trans e_pI,
  fun _ _ _ _ _ _ _ => (R_at ok_M_ships rfl).trans (e_ald rfl),
  fun _ _ _ _ _ _ _ _ => (R_at ok_M_ships rfl).trans (e_dup rfl),
  fun _ _ _ _ _ _ _ _ _ => (R_at ok_M_ships rfl).trans e_gI,
  fun _ _ _ _ _ _ _ _ _ => (R_at ok_M_ships rfl).trans e_push,
  fun _ _ _ _ _ _ _ _ _ _ => (R_at ok_M_ships rfl).trans e_bin,
  fun _ _ _ _ _ _ _ _ _ => (R_at ok_M_ships rfl).trans e_pI,
  fun _ _ _ _ _ _ _ => (R_at ok_M_ships rfl).trans (e_ald rfl),
  fun _ _ _ _ _ _ _ _ => (R_at ok_M_ships rfl).trans e_gI,
  fun _ _ _ _ _ _ _ _ => (R_at ok_M_ships rfl).trans e_iret⟩
set_option maxHeartbeats 4000000 in
theorem N_M_codes (d : Nat) (Q : Qt) : ∀ (x0 : Nat) (x1 : Int32) (τ : St), Cl (d + 1) m_M_codes [.ref x0, .int x1] τ Q = Ru M_M_codes d Q 0 [some (.ref x0), some (.int x1)] [] τ := fun _ _ _ => propext ⟨fun h => h.2, fun h => ⟨Nat.le_of_ble_eq_true rfl, h⟩⟩
set_option maxHeartbeats 4000000 in
theorem E_M_codes (d : Nat) (Q : Qt) :
    (∀ (a0 : Nat) (a1 : Int32) (τ : St), Ru M_M_codes d Q 0 [some (.ref a0), some (.int a1)] [] τ = Ru M_M_codes d Q 1 [some (.ref a0), some (.int a1)] [.ref a0] τ) ∧
    (∀ (a0 : Nat) (a1 : Int32) (x0 : Nat) (τ : St), Ru M_M_codes d Q 1 [some (.ref a0), some (.int a1)] [.ref x0] τ = (isA 12 x0 ∧ Ru M_M_codes d Q 4 [some (.ref a0), some (.int a1)] [.ref (rtab x0 23)] τ)) ∧
    (∀ (a0 : Nat) (a1 : Int32) (x0 : Nat) (τ : St), Ru M_M_codes d Q 4 [some (.ref a0), some (.int a1)] [.ref x0] τ = Ru M_M_codes d Q 5 [some (.ref a0), some (.int a1)] [.ref a0, .ref x0] τ) ∧
    (∀ (a0 : Nat) (a1 : Int32) (x0 : Nat) (x1 : Nat) (τ : St), Ru M_M_codes d Q 5 [some (.ref a0), some (.int a1)] [.ref x0, .ref x1] τ = (isA 12 x0 ∧ Ru M_M_codes d Q 8 [some (.ref a0), some (.int a1)] [.int (τ.1 x0 25), .ref x1] τ)) ∧
    (∀ (a0 : Nat) (a1 : Int32) (x0 : Int32) (x1 : Nat) (τ : St), Ru M_M_codes d Q 8 [some (.ref a0), some (.int a1)] [.int x0, .ref x1] τ = Ru M_M_codes d Q 9 [some (.ref a0), some (.int a1)] [.int a1, .int x0, .ref x1] τ) ∧
    (∀ (a0 : Nat) (a1 : Int32) (x0 : Int32) (x1 : Int32) (x2 : Nat) (τ : St), Ru M_M_codes d Q 9 [some (.ref a0), some (.int a1)] [.int x0, .int x1, .ref x2] τ = (isA 14 x2 ∧ vp_in x1 (len x2) ∧ Ru M_M_codes d Q 10 [some (.ref a0), some (.int a1)] [] (sI τ x2 x1.toNatClampNeg (x0)))) ∧
    (∀ (a0 : Nat) (a1 : Int32) (τ : St), Ru M_M_codes d Q 10 [some (.ref a0), some (.int a1)] [] τ = Ru M_M_codes d Q 11 [some (.ref a0), some (.int a1)] [.ref a0] τ) ∧
    (∀ (a0 : Nat) (a1 : Int32) (x0 : Nat) (τ : St), Ru M_M_codes d Q 11 [some (.ref a0), some (.int a1)] [.ref x0] τ = Ru M_M_codes d Q 12 [some (.ref a0), some (.int a1)] [.ref x0, .ref x0] τ) ∧
    (∀ (a0 : Nat) (a1 : Int32) (x0 : Nat) (x1 : Nat) (τ : St), Ru M_M_codes d Q 12 [some (.ref a0), some (.int a1)] [.ref x0, .ref x1] τ = (isA 12 x0 ∧ Ru M_M_codes d Q 15 [some (.ref a0), some (.int a1)] [.int (τ.1 x0 25), .ref x1] τ)) ∧
    (∀ (a0 : Nat) (a1 : Int32) (x0 : Int32) (x1 : Nat) (τ : St), Ru M_M_codes d Q 15 [some (.ref a0), some (.int a1)] [.int x0, .ref x1] τ = Ru M_M_codes d Q 16 [some (.ref a0), some (.int a1)] [.int 1, .int x0, .ref x1] τ) ∧
    (∀ (a0 : Nat) (a1 : Int32) (x0 : Int32) (x1 : Int32) (x2 : Nat) (τ : St), Ru M_M_codes d Q 16 [some (.ref a0), some (.int a1)] [.int x0, .int x1, .ref x2] τ = Ru M_M_codes d Q 17 [some (.ref a0), some (.int a1)] [.int (x1 + x0), .ref x2] τ) ∧
    (∀ (a0 : Nat) (a1 : Int32) (x0 : Int32) (x1 : Nat) (τ : St), Ru M_M_codes d Q 17 [some (.ref a0), some (.int a1)] [.int x0, .ref x1] τ = (isA 12 x1 ∧ Ru M_M_codes d Q 20 [some (.ref a0), some (.int a1)] [] (sI τ x1 25 x0))) ∧
    (∀ (a0 : Nat) (a1 : Int32) (τ : St), Ru M_M_codes d Q 20 [some (.ref a0), some (.int a1)] [] τ = Q none τ) := ⟨
  fun _ _ _ => (R_at ok_M_codes rfl).trans (e_ald rfl),
  fun _ _ _ _ => (R_at ok_M_codes rfl).trans e_gR,
  fun _ _ _ _ => (R_at ok_M_codes rfl).trans (e_ald rfl),
  fun _ _ _ _ _ => (R_at ok_M_codes rfl).trans e_gI,
  fun _ _ _ _ _ => (R_at ok_M_codes rfl).trans (e_ild rfl),
  fun _ _ _ _ _ _ => (R_at ok_M_codes rfl).trans e_as,
  fun _ _ _ => (R_at ok_M_codes rfl).trans (e_ald rfl),
  fun _ _ _ _ => (R_at ok_M_codes rfl).trans (e_dup rfl),
  fun _ _ _ _ _ => (R_at ok_M_codes rfl).trans e_gI,
  fun _ _ _ _ _ => (R_at ok_M_codes rfl).trans e_push,
  fun _ _ _ _ _ _ => (R_at ok_M_codes rfl).trans e_bin,
  fun _ _ _ _ _ => (R_at ok_M_codes rfl).trans e_pI,
  fun _ _ _ => (R_at ok_M_codes rfl).trans e_vret⟩
set_option maxHeartbeats 4000000 in
theorem N_M_readsThing (d : Nat) (Q : Qt) : ∀ (x0 : Nat) (τ : St), Cl (d + 1) m_M_readsThing [.ref x0] τ Q = Ru M_M_readsThing d Q 0 [some (.ref x0), none] [] τ := fun _ _ => propext ⟨fun h => h.2, fun h => ⟨Nat.le_of_ble_eq_true rfl, h⟩⟩
set_option maxHeartbeats 4000000 in
theorem E_M_readsThing (d : Nat) (Q : Qt) :
    (∀ (a0 : Nat) (τ : St), Ru M_M_readsThing d Q 0 [some (.ref a0), none] [] τ = Ru M_M_readsThing d Q 1 [some (.ref a0), none] [.ref a0] τ) ∧
    (∀ (a0 : Nat) (x0 : Nat) (τ : St), Ru M_M_readsThing d Q 1 [some (.ref a0), none] [.ref x0] τ = Ru M_M_readsThing d Q 3 [some (.ref a0), none] [.int 45, .ref x0] τ) ∧
    (∀ (a0 : Nat) (x0 : Int32) (x1 : Nat) (τ : St), Ru M_M_readsThing d Q 3 [some (.ref a0), none] [.int x0, .ref x1] τ = (isA 12 x1 ∧ Cl d m_M_takes [.ref x1, .int x0] τ (fun v τ' => Ru M_M_readsThing d Q 6 [some (.ref a0), none] (v.toList ++ []) τ'))) ∧
    (∀ (a0 : Nat) (x0 : Int32) (τ : St), Ru M_M_readsThing d Q 6 [some (.ref a0), none] [.int x0] τ = ((x0 = 0 → Ru M_M_readsThing d Q 23 [some (.ref a0), none] [] τ) ∧ (¬ x0 = 0 → Ru M_M_readsThing d Q 9 [some (.ref a0), none] [] τ))) ∧
    (∀ (a0 : Nat) (τ : St), Ru M_M_readsThing d Q 9 [some (.ref a0), none] [] τ = Ru M_M_readsThing d Q 10 [some (.ref a0), none] [.ref a0] τ) ∧
    (∀ (a0 : Nat) (x0 : Nat) (τ : St), Ru M_M_readsThing d Q 10 [some (.ref a0), none] [.ref x0] τ = (isA 12 x0 ∧ Cl d m_M_readsThing [.ref x0] τ (fun v τ' => Ru M_M_readsThing d Q 13 [some (.ref a0), none] (v.toList ++ []) τ'))) ∧
    (∀ (a0 : Nat) (x0 : Int32) (τ : St), Ru M_M_readsThing d Q 13 [some (.ref a0), none] [.int x0] τ = Ru M_M_readsThing d Q 14 [some (.ref a0), some (.int x0)] [] τ) ∧
    (∀ (a0 : Nat) (a1 : Int32) (τ : St), Ru M_M_readsThing d Q 14 [some (.ref a0), some (.int a1)] [] τ = Ru M_M_readsThing d Q 15 [some (.ref a0), some (.int a1)] [.ref a0] τ) ∧
    (∀ (a0 : Nat) (a1 : Int32) (x0 : Nat) (τ : St), Ru M_M_readsThing d Q 15 [some (.ref a0), some (.int a1)] [.ref x0] τ = Ru M_M_readsThing d Q 18 [some (.ref a0), some (.int a1)] [.int 3000, .ref x0] τ) ∧
    (∀ (a0 : Nat) (a1 : Int32) (x0 : Int32) (x1 : Nat) (τ : St), Ru M_M_readsThing d Q 18 [some (.ref a0), some (.int a1)] [.int x0, .ref x1] τ = (isA 12 x1 ∧ Cl d m_M_codes [.ref x1, .int x0] τ (fun v τ' => Ru M_M_readsThing d Q 21 [some (.ref a0), some (.int a1)] (v.toList ++ []) τ'))) ∧
    (∀ (a0 : Nat) (a1 : Int32) (τ : St), Ru M_M_readsThing d Q 21 [some (.ref a0), some (.int a1)] [] τ = Ru M_M_readsThing d Q 22 [some (.ref a0), some (.int a1)] [.int a1] τ) ∧
    (∀ (a0 : Nat) (a1 : Int32) (x0 : Int32) (τ : St), Ru M_M_readsThing d Q 22 [some (.ref a0), some (.int a1)] [.int x0] τ = ((x0 = 0 ∨ x0 = 1) ∧ Q (some (.int x0)) τ)) ∧
    (∀ (a0 : Nat) (τ : St), Ru M_M_readsThing d Q 23 [some (.ref a0), none] [] τ = Ru M_M_readsThing d Q 24 [some (.ref a0), none] [.ref a0] τ) ∧
    (∀ (a0 : Nat) (x0 : Nat) (τ : St), Ru M_M_readsThing d Q 24 [some (.ref a0), none] [.ref x0] τ = (isA 12 x0 ∧ Cl d m_M_isDigit [.ref x0] τ (fun v τ' => Ru M_M_readsThing d Q 27 [some (.ref a0), none] (v.toList ++ []) τ'))) ∧
    (∀ (a0 : Nat) (x0 : Int32) (τ : St), Ru M_M_readsThing d Q 27 [some (.ref a0), none] [.int x0] τ = ((x0 = 0 → Ru M_M_readsThing d Q 41 [some (.ref a0), none] [] τ) ∧ (¬ x0 = 0 → Ru M_M_readsThing d Q 30 [some (.ref a0), none] [] τ))) ∧
    (∀ (a0 : Nat) (τ : St), Ru M_M_readsThing d Q 30 [some (.ref a0), none] [] τ = Ru M_M_readsThing d Q 31 [some (.ref a0), none] [.ref a0] τ) ∧
    (∀ (a0 : Nat) (x0 : Nat) (τ : St), Ru M_M_readsThing d Q 31 [some (.ref a0), none] [.ref x0] τ = Ru M_M_readsThing d Q 32 [some (.ref a0), none] [.ref a0, .ref x0] τ) ∧
    (∀ (a0 : Nat) (x0 : Nat) (x1 : Nat) (τ : St), Ru M_M_readsThing d Q 32 [some (.ref a0), none] [.ref x0, .ref x1] τ = Ru M_M_readsThing d Q 33 [some (.ref a0), none] [.int 3, .ref x0, .ref x1] τ) ∧
    (∀ (a0 : Nat) (x0 : Int32) (x1 : Nat) (x2 : Nat) (τ : St), Ru M_M_readsThing d Q 33 [some (.ref a0), none] [.int x0, .ref x1, .ref x2] τ = (isA 12 x1 ∧ Cl d m_M_number [.ref x1, .int x0] τ (fun v τ' => Ru M_M_readsThing d Q 36 [some (.ref a0), none] (v.toList ++ [.ref x2]) τ'))) ∧
    (∀ (a0 : Nat) (x0 : Int32) (x1 : Nat) (τ : St), Ru M_M_readsThing d Q 36 [some (.ref a0), none] [.int x0, .ref x1] τ = (isA 12 x1 ∧ Cl d m_M_codes [.ref x1, .int x0] τ (fun v τ' => Ru M_M_readsThing d Q 39 [some (.ref a0), none] (v.toList ++ []) τ'))) ∧
    (∀ (a0 : Nat) (τ : St), Ru M_M_readsThing d Q 39 [some (.ref a0), none] [] τ = Ru M_M_readsThing d Q 40 [some (.ref a0), none] [.int 1] τ) ∧
    (∀ (a0 : Nat) (x0 : Int32) (τ : St), Ru M_M_readsThing d Q 40 [some (.ref a0), none] [.int x0] τ = ((x0 = 0 ∨ x0 = 1) ∧ Q (some (.int x0)) τ)) ∧
    (∀ (a0 : Nat) (τ : St), Ru M_M_readsThing d Q 41 [some (.ref a0), none] [] τ = Ru M_M_readsThing d Q 42 [some (.ref a0), none] [.ref a0] τ) ∧
    (∀ (a0 : Nat) (x0 : Nat) (τ : St), Ru M_M_readsThing d Q 42 [some (.ref a0), none] [.ref x0] τ = Ru M_M_readsThing d Q 44 [some (.ref a0), none] [.ref (1000 + 1), .ref x0] τ) ∧
    (∀ (a0 : Nat) (x0 : Nat) (x1 : Nat) (τ : St), Ru M_M_readsThing d Q 44 [some (.ref a0), none] [.ref (1000 + x0), .ref x1] τ = (isA 12 x1 ∧ Cl d m_M_takesOf [.ref x1, .ref (1000 + x0)] τ (fun v τ' => Ru M_M_readsThing d Q 47 [some (.ref a0), none] (v.toList ++ []) τ'))) ∧
    (∀ (a0 : Nat) (x0 : Int32) (τ : St), Ru M_M_readsThing d Q 47 [some (.ref a0), none] [.int x0] τ = Ru M_M_readsThing d Q 48 [some (.ref a0), some (.int x0)] [] τ) ∧
    (∀ (a0 : Nat) (a1 : Int32) (τ : St), Ru M_M_readsThing d Q 48 [some (.ref a0), some (.int a1)] [] τ = Ru M_M_readsThing d Q 49 [some (.ref a0), some (.int a1)] [.int a1] τ) ∧
    (∀ (a0 : Nat) (a1 : Int32) (x0 : Int32) (τ : St), Ru M_M_readsThing d Q 49 [some (.ref a0), some (.int a1)] [.int x0] τ = ((x0 < 0 → Ru M_M_readsThing d Q 63 [some (.ref a0), some (.int a1)] [] τ) ∧ (¬ x0 < 0 → Ru M_M_readsThing d Q 52 [some (.ref a0), some (.int a1)] [] τ))) ∧
    (∀ (a0 : Nat) (a1 : Int32) (τ : St), Ru M_M_readsThing d Q 52 [some (.ref a0), some (.int a1)] [] τ = Ru M_M_readsThing d Q 53 [some (.ref a0), some (.int a1)] [.ref a0] τ) ∧
    (∀ (a0 : Nat) (a1 : Int32) (x0 : Nat) (τ : St), Ru M_M_readsThing d Q 53 [some (.ref a0), some (.int a1)] [.ref x0] τ = Ru M_M_readsThing d Q 56 [some (.ref a0), some (.int a1)] [.int 1000, .ref x0] τ) ∧
    (∀ (a0 : Nat) (a1 : Int32) (x0 : Int32) (x1 : Nat) (τ : St), Ru M_M_readsThing d Q 56 [some (.ref a0), some (.int a1)] [.int x0, .ref x1] τ = Ru M_M_readsThing d Q 57 [some (.ref a0), some (.int a1)] [.int a1, .int x0, .ref x1] τ) ∧
    (∀ (a0 : Nat) (a1 : Int32) (x0 : Int32) (x1 : Int32) (x2 : Nat) (τ : St), Ru M_M_readsThing d Q 57 [some (.ref a0), some (.int a1)] [.int x0, .int x1, .ref x2] τ = Ru M_M_readsThing d Q 58 [some (.ref a0), some (.int a1)] [.int (x1 + x0), .ref x2] τ) ∧
    (∀ (a0 : Nat) (a1 : Int32) (x0 : Int32) (x1 : Nat) (τ : St), Ru M_M_readsThing d Q 58 [some (.ref a0), some (.int a1)] [.int x0, .ref x1] τ = (isA 12 x1 ∧ Cl d m_M_codes [.ref x1, .int x0] τ (fun v τ' => Ru M_M_readsThing d Q 61 [some (.ref a0), some (.int a1)] (v.toList ++ []) τ'))) ∧
    (∀ (a0 : Nat) (a1 : Int32) (τ : St), Ru M_M_readsThing d Q 61 [some (.ref a0), some (.int a1)] [] τ = Ru M_M_readsThing d Q 62 [some (.ref a0), some (.int a1)] [.int 1] τ) ∧
    (∀ (a0 : Nat) (a1 : Int32) (x0 : Int32) (τ : St), Ru M_M_readsThing d Q 62 [some (.ref a0), some (.int a1)] [.int x0] τ = ((x0 = 0 ∨ x0 = 1) ∧ Q (some (.int x0)) τ)) ∧
    (∀ (a0 : Nat) (a1 : Int32) (τ : St), Ru M_M_readsThing d Q 63 [some (.ref a0), some (.int a1)] [] τ = Ru M_M_readsThing d Q 64 [some (.ref a0), some (.int a1)] [.ref a0] τ) ∧
    (∀ (a0 : Nat) (a1 : Int32) (x0 : Nat) (τ : St), Ru M_M_readsThing d Q 64 [some (.ref a0), some (.int a1)] [.ref x0] τ = (isA 12 x0 ∧ Ru M_M_readsThing d Q 67 [some (.ref a0), some (.int a1)] [.int (τ.1 x0 17)] τ)) ∧
    (∀ (a0 : Nat) (a1 : Int32) (x0 : Int32) (τ : St), Ru M_M_readsThing d Q 67 [some (.ref a0), some (.int a1)] [.int x0] τ = Ru M_M_readsThing d Q 68 [some (.ref a0), some (.int a1)] [.int 4, .int x0] τ) ∧
    (∀ (a0 : Nat) (a1 : Int32) (x0 : Int32) (x1 : Int32) (τ : St), Ru M_M_readsThing d Q 68 [some (.ref a0), some (.int a1)] [.int x0, .int x1] τ = ((x1 = x0 → Ru M_M_readsThing d Q 80 [some (.ref a0), some (.int a1)] [] τ) ∧ (¬ x1 = x0 → Ru M_M_readsThing d Q 71 [some (.ref a0), some (.int a1)] [] τ))) ∧
    (∀ (a0 : Nat) (a1 : Int32) (τ : St), Ru M_M_readsThing d Q 71 [some (.ref a0), some (.int a1)] [] τ = Ru M_M_readsThing d Q 72 [some (.ref a0), some (.int a1)] [.ref a0] τ) ∧
    (∀ (a0 : Nat) (a1 : Int32) (x0 : Nat) (τ : St), Ru M_M_readsThing d Q 72 [some (.ref a0), some (.int a1)] [.ref x0] τ = Ru M_M_readsThing d Q 74 [some (.ref a0), some (.int a1)] [.int 40, .ref x0] τ) ∧
    (∀ (a0 : Nat) (a1 : Int32) (x0 : Int32) (x1 : Nat) (τ : St), Ru M_M_readsThing d Q 74 [some (.ref a0), some (.int a1)] [.int x0, .ref x1] τ = (isA 12 x1 ∧ Cl d m_M_takes [.ref x1, .int x0] τ (fun v τ' => Ru M_M_readsThing d Q 77 [some (.ref a0), some (.int a1)] (v.toList ++ []) τ'))) ∧
    (∀ (a0 : Nat) (a1 : Int32) (x0 : Int32) (τ : St), Ru M_M_readsThing d Q 77 [some (.ref a0), some (.int a1)] [.int x0] τ = ((¬ x0 = 0 → Ru M_M_readsThing d Q 82 [some (.ref a0), some (.int a1)] [] τ) ∧ (x0 = 0 → Ru M_M_readsThing d Q 80 [some (.ref a0), some (.int a1)] [] τ))) ∧
    (∀ (a0 : Nat) (a1 : Int32) (τ : St), Ru M_M_readsThing d Q 80 [some (.ref a0), some (.int a1)] [] τ = Ru M_M_readsThing d Q 81 [some (.ref a0), some (.int a1)] [.int 0] τ) ∧
    (∀ (a0 : Nat) (a1 : Int32) (x0 : Int32) (τ : St), Ru M_M_readsThing d Q 81 [some (.ref a0), some (.int a1)] [.int x0] τ = ((x0 = 0 ∨ x0 = 1) ∧ Q (some (.int x0)) τ)) ∧
    (∀ (a0 : Nat) (a1 : Int32) (τ : St), Ru M_M_readsThing d Q 82 [some (.ref a0), some (.int a1)] [] τ = Ru M_M_readsThing d Q 83 [some (.ref a0), some (.int a1)] [.ref a0] τ) ∧
    (∀ (a0 : Nat) (a1 : Int32) (x0 : Nat) (τ : St), Ru M_M_readsThing d Q 83 [some (.ref a0), some (.int a1)] [.ref x0] τ = Ru M_M_readsThing d Q 84 [some (.ref a0), some (.int a1)] [.ref x0, .ref x0] τ) ∧
    (∀ (a0 : Nat) (a1 : Int32) (x0 : Nat) (x1 : Nat) (τ : St), Ru M_M_readsThing d Q 84 [some (.ref a0), some (.int a1)] [.ref x0, .ref x1] τ = (isA 12 x0 ∧ Ru M_M_readsThing d Q 87 [some (.ref a0), some (.int a1)] [.int (τ.1 x0 17), .ref x1] τ)) ∧
    (∀ (a0 : Nat) (a1 : Int32) (x0 : Int32) (x1 : Nat) (τ : St), Ru M_M_readsThing d Q 87 [some (.ref a0), some (.int a1)] [.int x0, .ref x1] τ = Ru M_M_readsThing d Q 88 [some (.ref a0), some (.int a1)] [.int 1, .int x0, .ref x1] τ) ∧
    (∀ (a0 : Nat) (a1 : Int32) (x0 : Int32) (x1 : Int32) (x2 : Nat) (τ : St), Ru M_M_readsThing d Q 88 [some (.ref a0), some (.int a1)] [.int x0, .int x1, .ref x2] τ = Ru M_M_readsThing d Q 89 [some (.ref a0), some (.int a1)] [.int (x1 + x0), .ref x2] τ) ∧
    (∀ (a0 : Nat) (a1 : Int32) (x0 : Int32) (x1 : Nat) (τ : St), Ru M_M_readsThing d Q 89 [some (.ref a0), some (.int a1)] [.int x0, .ref x1] τ = (isA 12 x1 ∧ Ru M_M_readsThing d Q 92 [some (.ref a0), some (.int a1)] [] (sI τ x1 17 x0))) ∧
    (∀ (a0 : Nat) (a1 : Int32) (τ : St), Ru M_M_readsThing d Q 92 [some (.ref a0), some (.int a1)] [] τ = Ru M_M_readsThing d Q 93 [some (.ref a0), some (.int a1)] [.ref a0] τ) ∧
    (∀ (a0 : Nat) (a1 : Int32) (x0 : Nat) (τ : St), Ru M_M_readsThing d Q 93 [some (.ref a0), some (.int a1)] [.ref x0] τ = Ru M_M_readsThing d Q 94 [some (.ref a0), some (.int a1)] [.int 0, .ref x0] τ) ∧
    (∀ (a0 : Nat) (a1 : Int32) (x0 : Int32) (x1 : Nat) (τ : St), Ru M_M_readsThing d Q 94 [some (.ref a0), some (.int a1)] [.int x0, .ref x1] τ = (isA 12 x1 ∧ Cl d m_M_readsRank [.ref x1, .int x0] τ (fun v τ' => Ru M_M_readsThing d Q 97 [some (.ref a0), some (.int a1)] (v.toList ++ []) τ'))) ∧
    (∀ (a0 : Nat) (a1 : Int32) (x0 : Int32) (τ : St), Ru M_M_readsThing d Q 97 [some (.ref a0), some (.int a1)] [.int x0] τ = ((x0 = 0 → Ru M_M_readsThing d Q 109 [some (.ref a0), some (.int a1)] [] τ) ∧ (¬ x0 = 0 → Ru M_M_readsThing d Q 100 [some (.ref a0), some (.int a1)] [] τ))) ∧
    (∀ (a0 : Nat) (a1 : Int32) (τ : St), Ru M_M_readsThing d Q 100 [some (.ref a0), some (.int a1)] [] τ = Ru M_M_readsThing d Q 101 [some (.ref a0), some (.int a1)] [.ref a0] τ) ∧
    (∀ (a0 : Nat) (a1 : Int32) (x0 : Nat) (τ : St), Ru M_M_readsThing d Q 101 [some (.ref a0), some (.int a1)] [.ref x0] τ = Ru M_M_readsThing d Q 103 [some (.ref a0), some (.int a1)] [.int 41, .ref x0] τ) ∧
    (∀ (a0 : Nat) (a1 : Int32) (x0 : Int32) (x1 : Nat) (τ : St), Ru M_M_readsThing d Q 103 [some (.ref a0), some (.int a1)] [.int x0, .ref x1] τ = (isA 12 x1 ∧ Cl d m_M_takes [.ref x1, .int x0] τ (fun v τ' => Ru M_M_readsThing d Q 106 [some (.ref a0), some (.int a1)] (v.toList ++ []) τ'))) ∧
    (∀ (a0 : Nat) (a1 : Int32) (x0 : Int32) (τ : St), Ru M_M_readsThing d Q 106 [some (.ref a0), some (.int a1)] [.int x0] τ = ((¬ x0 = 0 → Ru M_M_readsThing d Q 111 [some (.ref a0), some (.int a1)] [] τ) ∧ (x0 = 0 → Ru M_M_readsThing d Q 109 [some (.ref a0), some (.int a1)] [] τ))) ∧
    (∀ (a0 : Nat) (a1 : Int32) (τ : St), Ru M_M_readsThing d Q 109 [some (.ref a0), some (.int a1)] [] τ = Ru M_M_readsThing d Q 110 [some (.ref a0), some (.int a1)] [.int 0] τ) ∧
    (∀ (a0 : Nat) (a1 : Int32) (x0 : Int32) (τ : St), Ru M_M_readsThing d Q 110 [some (.ref a0), some (.int a1)] [.int x0] τ = ((x0 = 0 ∨ x0 = 1) ∧ Q (some (.int x0)) τ)) ∧
    (∀ (a0 : Nat) (a1 : Int32) (τ : St), Ru M_M_readsThing d Q 111 [some (.ref a0), some (.int a1)] [] τ = Ru M_M_readsThing d Q 112 [some (.ref a0), some (.int a1)] [.ref a0] τ) ∧
    (∀ (a0 : Nat) (a1 : Int32) (x0 : Nat) (τ : St), Ru M_M_readsThing d Q 112 [some (.ref a0), some (.int a1)] [.ref x0] τ = Ru M_M_readsThing d Q 113 [some (.ref a0), some (.int a1)] [.ref x0, .ref x0] τ) ∧
    (∀ (a0 : Nat) (a1 : Int32) (x0 : Nat) (x1 : Nat) (τ : St), Ru M_M_readsThing d Q 113 [some (.ref a0), some (.int a1)] [.ref x0, .ref x1] τ = (isA 12 x0 ∧ Ru M_M_readsThing d Q 116 [some (.ref a0), some (.int a1)] [.int (τ.1 x0 17), .ref x1] τ)) ∧
    (∀ (a0 : Nat) (a1 : Int32) (x0 : Int32) (x1 : Nat) (τ : St), Ru M_M_readsThing d Q 116 [some (.ref a0), some (.int a1)] [.int x0, .ref x1] τ = Ru M_M_readsThing d Q 117 [some (.ref a0), some (.int a1)] [.int 1, .int x0, .ref x1] τ) ∧
    (∀ (a0 : Nat) (a1 : Int32) (x0 : Int32) (x1 : Int32) (x2 : Nat) (τ : St), Ru M_M_readsThing d Q 117 [some (.ref a0), some (.int a1)] [.int x0, .int x1, .ref x2] τ = Ru M_M_readsThing d Q 118 [some (.ref a0), some (.int a1)] [.int (x1 - x0), .ref x2] τ) ∧
    (∀ (a0 : Nat) (a1 : Int32) (x0 : Int32) (x1 : Nat) (τ : St), Ru M_M_readsThing d Q 118 [some (.ref a0), some (.int a1)] [.int x0, .ref x1] τ = (isA 12 x1 ∧ Ru M_M_readsThing d Q 121 [some (.ref a0), some (.int a1)] [] (sI τ x1 17 x0))) ∧
    (∀ (a0 : Nat) (a1 : Int32) (τ : St), Ru M_M_readsThing d Q 121 [some (.ref a0), some (.int a1)] [] τ = Ru M_M_readsThing d Q 122 [some (.ref a0), some (.int a1)] [.int 1] τ) ∧
    (∀ (a0 : Nat) (a1 : Int32) (x0 : Int32) (τ : St), Ru M_M_readsThing d Q 122 [some (.ref a0), some (.int a1)] [.int x0] τ = ((x0 = 0 ∨ x0 = 1) ∧ Q (some (.int x0)) τ)) := ⟨
  fun _ _ => (R_at ok_M_readsThing rfl).trans (e_ald rfl),
  fun _ _ _ => (R_at ok_M_readsThing rfl).trans e_push,
  fun _ x0 _ _ => (R_at ok_M_readsThing rfl).trans (e_cv [.int x0] rfl rfl rfl),
  fun _ _ _ => (R_at ok_M_readsThing rfl).trans e_if,
  fun _ _ => (R_at ok_M_readsThing rfl).trans (e_ald rfl),
  fun _ _ _ => (R_at ok_M_readsThing rfl).trans (e_cv [] rfl rfl rfl),
  fun _ _ _ => (R_at ok_M_readsThing rfl).trans e_ist,
  fun _ _ _ => (R_at ok_M_readsThing rfl).trans (e_ald rfl),
  fun _ _ _ _ => (R_at ok_M_readsThing rfl).trans e_push,
  fun _ _ x0 _ _ => (R_at ok_M_readsThing rfl).trans (e_cv [.int x0] rfl rfl rfl),
  fun _ _ _ => (R_at ok_M_readsThing rfl).trans (e_ild rfl),
  fun _ _ _ _ => (R_at ok_M_readsThing rfl).trans e_zret,
  fun _ _ => (R_at ok_M_readsThing rfl).trans (e_ald rfl),
  fun _ _ _ => (R_at ok_M_readsThing rfl).trans (e_cv [] rfl rfl rfl),
  fun _ _ _ => (R_at ok_M_readsThing rfl).trans e_if,
  fun _ _ => (R_at ok_M_readsThing rfl).trans (e_ald rfl),
  fun _ _ _ => (R_at ok_M_readsThing rfl).trans (e_ald rfl),
  fun _ _ _ _ => (R_at ok_M_readsThing rfl).trans e_push,
  fun _ x0 _ _ _ => (R_at ok_M_readsThing rfl).trans (e_cv [.int x0] rfl rfl rfl),
  fun _ x0 _ _ => (R_at ok_M_readsThing rfl).trans (e_cv [.int x0] rfl rfl rfl),
  fun _ _ => (R_at ok_M_readsThing rfl).trans e_push,
  fun _ _ _ => (R_at ok_M_readsThing rfl).trans e_zret,
  fun _ _ => (R_at ok_M_readsThing rfl).trans (e_ald rfl),
  fun _ _ _ => (R_at ok_M_readsThing rfl).trans e_push,
  fun _ x0 _ _ => (R_at ok_M_readsThing rfl).trans (e_cv [.ref (1000 + x0)] rfl rfl rfl),
  fun _ _ _ => (R_at ok_M_readsThing rfl).trans e_ist,
  fun _ _ _ => (R_at ok_M_readsThing rfl).trans (e_ild rfl),
  fun _ _ _ _ => (R_at ok_M_readsThing rfl).trans e_if,
  fun _ _ _ => (R_at ok_M_readsThing rfl).trans (e_ald rfl),
  fun _ _ _ _ => (R_at ok_M_readsThing rfl).trans e_push,
  fun _ _ _ _ _ => (R_at ok_M_readsThing rfl).trans (e_ild rfl),
  fun _ _ _ _ _ _ => (R_at ok_M_readsThing rfl).trans e_bin,
  fun _ _ x0 _ _ => (R_at ok_M_readsThing rfl).trans (e_cv [.int x0] rfl rfl rfl),
  fun _ _ _ => (R_at ok_M_readsThing rfl).trans e_push,
  fun _ _ _ _ => (R_at ok_M_readsThing rfl).trans e_zret,
  fun _ _ _ => (R_at ok_M_readsThing rfl).trans (e_ald rfl),
  fun _ _ _ _ => (R_at ok_M_readsThing rfl).trans e_gI,
  fun _ _ _ _ => (R_at ok_M_readsThing rfl).trans e_push,
  fun _ _ _ _ _ => (R_at ok_M_readsThing rfl).trans e_ic,
  fun _ _ _ => (R_at ok_M_readsThing rfl).trans (e_ald rfl),
  fun _ _ _ _ => (R_at ok_M_readsThing rfl).trans e_push,
  fun _ _ x0 _ _ => (R_at ok_M_readsThing rfl).trans (e_cv [.int x0] rfl rfl rfl),
  fun _ _ _ _ => (R_at ok_M_readsThing rfl).trans e_ifn,
  fun _ _ _ => (R_at ok_M_readsThing rfl).trans e_push,
  fun _ _ _ _ => (R_at ok_M_readsThing rfl).trans e_zret,
  fun _ _ _ => (R_at ok_M_readsThing rfl).trans (e_ald rfl),
  fun _ _ _ _ => (R_at ok_M_readsThing rfl).trans (e_dup rfl),
  fun _ _ _ _ _ => (R_at ok_M_readsThing rfl).trans e_gI,
  fun _ _ _ _ _ => (R_at ok_M_readsThing rfl).trans e_push,
  fun _ _ _ _ _ _ => (R_at ok_M_readsThing rfl).trans e_bin,
  fun _ _ _ _ _ => (R_at ok_M_readsThing rfl).trans e_pI,
  fun _ _ _ => (R_at ok_M_readsThing rfl).trans (e_ald rfl),
  fun _ _ _ _ => (R_at ok_M_readsThing rfl).trans e_push,
  fun _ _ x0 _ _ => (R_at ok_M_readsThing rfl).trans (e_cv [.int x0] rfl rfl rfl),
  fun _ _ _ _ => (R_at ok_M_readsThing rfl).trans e_if,
  fun _ _ _ => (R_at ok_M_readsThing rfl).trans (e_ald rfl),
  fun _ _ _ _ => (R_at ok_M_readsThing rfl).trans e_push,
  fun _ _ x0 _ _ => (R_at ok_M_readsThing rfl).trans (e_cv [.int x0] rfl rfl rfl),
  fun _ _ _ _ => (R_at ok_M_readsThing rfl).trans e_ifn,
  fun _ _ _ => (R_at ok_M_readsThing rfl).trans e_push,
  fun _ _ _ _ => (R_at ok_M_readsThing rfl).trans e_zret,
  fun _ _ _ => (R_at ok_M_readsThing rfl).trans (e_ald rfl),
  fun _ _ _ _ => (R_at ok_M_readsThing rfl).trans (e_dup rfl),
  fun _ _ _ _ _ => (R_at ok_M_readsThing rfl).trans e_gI,
  fun _ _ _ _ _ => (R_at ok_M_readsThing rfl).trans e_push,
  fun _ _ _ _ _ _ => (R_at ok_M_readsThing rfl).trans e_bin,
  fun _ _ _ _ _ => (R_at ok_M_readsThing rfl).trans e_pI,
  fun _ _ _ => (R_at ok_M_readsThing rfl).trans e_push,
  fun _ _ _ _ => (R_at ok_M_readsThing rfl).trans e_zret⟩
set_option maxHeartbeats 4000000 in
theorem N_M_readsRank (d : Nat) (Q : Qt) : ∀ (x0 : Nat) (x1 : Int32) (τ : St), Cl (d + 1) m_M_readsRank [.ref x0, .int x1] τ Q = Ru M_M_readsRank d Q 0 [some (.ref x0), some (.int x1), none, none] [] τ := fun _ _ _ => propext ⟨fun h => h.2, fun h => ⟨Nat.le_of_ble_eq_true rfl, h⟩⟩
set_option maxHeartbeats 4000000 in
theorem E_M_readsRank (d : Nat) (Q : Qt) :
    (∀ (a0 : Nat) (a1 : Int32) (τ : St), Ru M_M_readsRank d Q 0 [some (.ref a0), some (.int a1), none, none] [] τ = Ru M_M_readsRank d Q 1 [some (.ref a0), some (.int a1), none, none] [.int a1] τ) ∧
    (∀ (a0 : Nat) (a1 : Int32) (x0 : Int32) (τ : St), Ru M_M_readsRank d Q 1 [some (.ref a0), some (.int a1), none, none] [.int x0] τ = Ru M_M_readsRank d Q 2 [some (.ref a0), some (.int a1), none, none] [.int 3, .int x0] τ) ∧
    (∀ (a0 : Nat) (a1 : Int32) (x0 : Int32) (x1 : Int32) (τ : St), Ru M_M_readsRank d Q 2 [some (.ref a0), some (.int a1), none, none] [.int x0, .int x1] τ = ((¬ x1 = x0 → Ru M_M_readsRank d Q 10 [some (.ref a0), some (.int a1), none, none] [] τ) ∧ (x1 = x0 → Ru M_M_readsRank d Q 5 [some (.ref a0), some (.int a1), none, none] [] τ))) ∧
    (∀ (a0 : Nat) (a1 : Int32) (τ : St), Ru M_M_readsRank d Q 5 [some (.ref a0), some (.int a1), none, none] [] τ = Ru M_M_readsRank d Q 6 [some (.ref a0), some (.int a1), none, none] [.ref a0] τ) ∧
    (∀ (a0 : Nat) (a1 : Int32) (x0 : Nat) (τ : St), Ru M_M_readsRank d Q 6 [some (.ref a0), some (.int a1), none, none] [.ref x0] τ = (isA 12 x0 ∧ Cl d m_M_readsThing [.ref x0] τ (fun v τ' => Ru M_M_readsRank d Q 9 [some (.ref a0), some (.int a1), none, none] (v.toList ++ []) τ'))) ∧
    (∀ (a0 : Nat) (a1 : Int32) (x0 : Int32) (τ : St), Ru M_M_readsRank d Q 9 [some (.ref a0), some (.int a1), none, none] [.int x0] τ = ((x0 = 0 ∨ x0 = 1) ∧ Q (some (.int x0)) τ)) ∧
    (∀ (a0 : Nat) (a1 : Int32) (τ : St), Ru M_M_readsRank d Q 10 [some (.ref a0), some (.int a1), none, none] [] τ = Ru M_M_readsRank d Q 11 [some (.ref a0), some (.int a1), none, none] [.ref a0] τ) ∧
    (∀ (a0 : Nat) (a1 : Int32) (x0 : Nat) (τ : St), Ru M_M_readsRank d Q 11 [some (.ref a0), some (.int a1), none, none] [.ref x0] τ = Ru M_M_readsRank d Q 12 [some (.ref a0), some (.int a1), none, none] [.int a1, .ref x0] τ) ∧
    (∀ (a0 : Nat) (a1 : Int32) (x0 : Int32) (x1 : Nat) (τ : St), Ru M_M_readsRank d Q 12 [some (.ref a0), some (.int a1), none, none] [.int x0, .ref x1] τ = Ru M_M_readsRank d Q 13 [some (.ref a0), some (.int a1), none, none] [.int 1, .int x0, .ref x1] τ) ∧
    (∀ (a0 : Nat) (a1 : Int32) (x0 : Int32) (x1 : Int32) (x2 : Nat) (τ : St), Ru M_M_readsRank d Q 13 [some (.ref a0), some (.int a1), none, none] [.int x0, .int x1, .ref x2] τ = Ru M_M_readsRank d Q 14 [some (.ref a0), some (.int a1), none, none] [.int (x1 + x0), .ref x2] τ) ∧
    (∀ (a0 : Nat) (a1 : Int32) (x0 : Int32) (x1 : Nat) (τ : St), Ru M_M_readsRank d Q 14 [some (.ref a0), some (.int a1), none, none] [.int x0, .ref x1] τ = (isA 12 x1 ∧ Cl d m_M_readsRank [.ref x1, .int x0] τ (fun v τ' => Ru M_M_readsRank d Q 17 [some (.ref a0), some (.int a1), none, none] (v.toList ++ []) τ'))) ∧
    (∀ (a0 : Nat) (a1 : Int32) (x0 : Int32) (τ : St), Ru M_M_readsRank d Q 17 [some (.ref a0), some (.int a1), none, none] [.int x0] τ = ((¬ x0 = 0 → Ru M_M_readsRank d Q 22 [some (.ref a0), some (.int a1), none, none] [] τ) ∧ (x0 = 0 → Ru M_M_readsRank d Q 20 [some (.ref a0), some (.int a1), none, none] [] τ))) ∧
    (∀ (a0 : Nat) (a1 : Int32) (τ : St), Ru M_M_readsRank d Q 20 [some (.ref a0), some (.int a1), none, none] [] τ = Ru M_M_readsRank d Q 21 [some (.ref a0), some (.int a1), none, none] [.int 0] τ) ∧
    (∀ (a0 : Nat) (a1 : Int32) (x0 : Int32) (τ : St), Ru M_M_readsRank d Q 21 [some (.ref a0), some (.int a1), none, none] [.int x0] τ = ((x0 = 0 ∨ x0 = 1) ∧ Q (some (.int x0)) τ)) ∧
    (∀ (a0 : Nat) (a1 : Int32) (τ : St), Ru M_M_readsRank d Q 22 [some (.ref a0), some (.int a1), none, none] [] τ = Ru M_M_readsRank d Q 23 [some (.ref a0), some (.int a1), none, none] [.int 1] τ) ∧
    (∀ (a0 : Nat) (a1 : Int32) (x0 : Int32) (τ : St), Ru M_M_readsRank d Q 23 [some (.ref a0), some (.int a1), none, none] [.int x0] τ = Rs M_M_readsRank d Q 24 [some (.ref a0), some (.int a1), some (.int x0), none] [] τ) ∧
    (∀ (a0 : Nat) (a1 : Int32) (a2 : Int32) (a3 : Option Value) (τ : St), Ru M_M_readsRank d Q 24 [some (.ref a0), some (.int a1), some (.int a2), a3] [] τ = Ru M_M_readsRank d Q 25 [some (.ref a0), some (.int a1), some (.int a2), a3] [.int a2] τ) ∧
    (∀ (a0 : Nat) (a1 : Int32) (a2 : Int32) (a3 : Option Value) (x0 : Int32) (τ : St), Ru M_M_readsRank d Q 25 [some (.ref a0), some (.int a1), some (.int a2), a3] [.int x0] τ = ((x0 = 0 → Ru M_M_readsRank d Q 113 [some (.ref a0), some (.int a1), some (.int a2), a3] [] τ) ∧ (¬ x0 = 0 → Ru M_M_readsRank d Q 28 [some (.ref a0), some (.int a1), some (.int a2), a3] [] τ))) ∧
    (∀ (a0 : Nat) (a1 : Int32) (a2 : Int32) (a3 : Option Value) (τ : St), Ru M_M_readsRank d Q 28 [some (.ref a0), some (.int a1), some (.int a2), a3] [] τ = Ru M_M_readsRank d Q 29 [some (.ref a0), some (.int a1), some (.int a2), a3] [.ref a0] τ) ∧
    (∀ (a0 : Nat) (a1 : Int32) (a2 : Int32) (a3 : Option Value) (x0 : Nat) (τ : St), Ru M_M_readsRank d Q 29 [some (.ref a0), some (.int a1), some (.int a2), a3] [.ref x0] τ = Ru M_M_readsRank d Q 30 [some (.ref a0), some (.int a1), some (.int a2), a3] [.int a1, .ref x0] τ) ∧
    (∀ (a0 : Nat) (a1 : Int32) (a2 : Int32) (a3 : Option Value) (x0 : Int32) (x1 : Nat) (τ : St), Ru M_M_readsRank d Q 30 [some (.ref a0), some (.int a1), some (.int a2), a3] [.int x0, .ref x1] τ = ((¬ x0 = 0 → Ru M_M_readsRank d Q 38 [some (.ref a0), some (.int a1), some (.int a2), a3] [.ref x1] τ) ∧ (x0 = 0 → Ru M_M_readsRank d Q 33 [some (.ref a0), some (.int a1), some (.int a2), a3] [.ref x1] τ))) ∧
    (∀ (a0 : Nat) (a1 : Int32) (a2 : Int32) (a3 : Option Value) (x0 : Nat) (τ : St), Ru M_M_readsRank d Q 33 [some (.ref a0), some (.int a1), some (.int a2), a3] [.ref x0] τ = Ru M_M_readsRank d Q 35 [some (.ref a0), some (.int a1), some (.int a2), a3] [.ref (1000 + 2), .ref x0] τ) ∧
    (∀ (a0 : Nat) (a1 : Int32) (a2 : Int32) (a3 : Option Value) (x0 : Nat) (x1 : Nat) (τ : St), Ru M_M_readsRank d Q 35 [some (.ref a0), some (.int a1), some (.int a2), a3] [.ref (1000 + x0), .ref x1] τ = Rs M_M_readsRank d Q 50 [some (.ref a0), some (.int a1), some (.int a2), a3] [.ref (1000 + x0), .ref x1] τ) ∧
    (∀ (a0 : Nat) (a1 : Int32) (a2 : Int32) (a3 : Option Value) (x0 : Nat) (τ : St), Ru M_M_readsRank d Q 38 [some (.ref a0), some (.int a1), some (.int a2), a3] [.ref x0] τ = Ru M_M_readsRank d Q 39 [some (.ref a0), some (.int a1), some (.int a2), a3] [.int a1, .ref x0] τ) ∧
    (∀ (a0 : Nat) (a1 : Int32) (a2 : Int32) (a3 : Option Value) (x0 : Int32) (x1 : Nat) (τ : St), Ru M_M_readsRank d Q 39 [some (.ref a0), some (.int a1), some (.int a2), a3] [.int x0, .ref x1] τ = Ru M_M_readsRank d Q 40 [some (.ref a0), some (.int a1), some (.int a2), a3] [.int 1, .int x0, .ref x1] τ) ∧
    (∀ (a0 : Nat) (a1 : Int32) (a2 : Int32) (a3 : Option Value) (x0 : Int32) (x1 : Int32) (x2 : Nat) (τ : St), Ru M_M_readsRank d Q 40 [some (.ref a0), some (.int a1), some (.int a2), a3] [.int x0, .int x1, .ref x2] τ = ((¬ x1 = x0 → Ru M_M_readsRank d Q 48 [some (.ref a0), some (.int a1), some (.int a2), a3] [.ref x2] τ) ∧ (x1 = x0 → Ru M_M_readsRank d Q 43 [some (.ref a0), some (.int a1), some (.int a2), a3] [.ref x2] τ))) ∧
    (∀ (a0 : Nat) (a1 : Int32) (a2 : Int32) (a3 : Option Value) (x0 : Nat) (τ : St), Ru M_M_readsRank d Q 43 [some (.ref a0), some (.int a1), some (.int a2), a3] [.ref x0] τ = Ru M_M_readsRank d Q 45 [some (.ref a0), some (.int a1), some (.int a2), a3] [.ref (1000 + 3), .ref x0] τ) ∧
    (∀ (a0 : Nat) (a1 : Int32) (a2 : Int32) (a3 : Option Value) (x0 : Nat) (x1 : Nat) (τ : St), Ru M_M_readsRank d Q 45 [some (.ref a0), some (.int a1), some (.int a2), a3] [.ref (1000 + x0), .ref x1] τ = Rs M_M_readsRank d Q 50 [some (.ref a0), some (.int a1), some (.int a2), a3] [.ref (1000 + x0), .ref x1] τ) ∧
    (∀ (a0 : Nat) (a1 : Int32) (a2 : Int32) (a3 : Option Value) (x0 : Nat) (τ : St), Ru M_M_readsRank d Q 48 [some (.ref a0), some (.int a1), some (.int a2), a3] [.ref x0] τ = Rs M_M_readsRank d Q 50 [some (.ref a0), some (.int a1), some (.int a2), a3] [.ref (1000 + 4), .ref x0] τ) ∧
    (∀ (a0 : Nat) (a1 : Int32) (a2 : Int32) (a3 : Option Value) (x0 : Nat) (x1 : Nat) (τ : St), Ru M_M_readsRank d Q 50 [some (.ref a0), some (.int a1), some (.int a2), a3] [.ref (1000 + x0), .ref x1] τ = (isA 12 x1 ∧ Cl d m_M_takesOf [.ref x1, .ref (1000 + x0)] τ (fun v τ' => Ru M_M_readsRank d Q 53 [some (.ref a0), some (.int a1), some (.int a2), a3] (v.toList ++ []) τ'))) ∧
    (∀ (a0 : Nat) (a1 : Int32) (a2 : Int32) (a3 : Option Value) (x0 : Int32) (τ : St), Ru M_M_readsRank d Q 53 [some (.ref a0), some (.int a1), some (.int a2), a3] [.int x0] τ = Ru M_M_readsRank d Q 54 [some (.ref a0), some (.int a1), some (.int a2), some (.int x0)] [] τ) ∧
    (∀ (a0 : Nat) (a1 : Int32) (a2 : Int32) (a3 : Int32) (τ : St), Ru M_M_readsRank d Q 54 [some (.ref a0), some (.int a1), some (.int a2), some (.int a3)] [] τ = Ru M_M_readsRank d Q 55 [some (.ref a0), some (.int a1), some (.int a2), some (.int a3)] [.int a3] τ) ∧
    (∀ (a0 : Nat) (a1 : Int32) (a2 : Int32) (a3 : Int32) (x0 : Int32) (τ : St), Ru M_M_readsRank d Q 55 [some (.ref a0), some (.int a1), some (.int a2), some (.int a3)] [.int x0] τ = ((0 ≤ x0 → Ru M_M_readsRank d Q 60 [some (.ref a0), some (.int a1), some (.int a2), some (.int a3)] [] τ) ∧ (¬ 0 ≤ x0 → Ru M_M_readsRank d Q 58 [some (.ref a0), some (.int a1), some (.int a2), some (.int a3)] [] τ))) ∧
    (∀ (a0 : Nat) (a1 : Int32) (a2 : Int32) (a3 : Int32) (τ : St), Ru M_M_readsRank d Q 58 [some (.ref a0), some (.int a1), some (.int a2), some (.int a3)] [] τ = Ru M_M_readsRank d Q 59 [some (.ref a0), some (.int a1), some (.int a2), some (.int a3)] [.int 1] τ) ∧
    (∀ (a0 : Nat) (a1 : Int32) (a2 : Int32) (a3 : Int32) (x0 : Int32) (τ : St), Ru M_M_readsRank d Q 59 [some (.ref a0), some (.int a1), some (.int a2), some (.int a3)] [.int x0] τ = ((x0 = 0 ∨ x0 = 1) ∧ Q (some (.int x0)) τ)) ∧
    (∀ (a0 : Nat) (a1 : Int32) (a2 : Int32) (a3 : Int32) (τ : St), Ru M_M_readsRank d Q 60 [some (.ref a0), some (.int a1), some (.int a2), some (.int a3)] [] τ = Ru M_M_readsRank d Q 61 [some (.ref a0), some (.int a1), some (.int a2), some (.int a3)] [.ref a0] τ) ∧
    (∀ (a0 : Nat) (a1 : Int32) (a2 : Int32) (a3 : Int32) (x0 : Nat) (τ : St), Ru M_M_readsRank d Q 61 [some (.ref a0), some (.int a1), some (.int a2), some (.int a3)] [.ref x0] τ = Ru M_M_readsRank d Q 62 [some (.ref a0), some (.int a1), some (.int a2), some (.int a3)] [.int a1, .ref x0] τ) ∧
    (∀ (a0 : Nat) (a1 : Int32) (a2 : Int32) (a3 : Int32) (x0 : Int32) (x1 : Nat) (τ : St), Ru M_M_readsRank d Q 62 [some (.ref a0), some (.int a1), some (.int a2), some (.int a3)] [.int x0, .ref x1] τ = Ru M_M_readsRank d Q 63 [some (.ref a0), some (.int a1), some (.int a2), some (.int a3)] [.int 1, .int x0, .ref x1] τ) ∧
    (∀ (a0 : Nat) (a1 : Int32) (a2 : Int32) (a3 : Int32) (x0 : Int32) (x1 : Int32) (x2 : Nat) (τ : St), Ru M_M_readsRank d Q 63 [some (.ref a0), some (.int a1), some (.int a2), some (.int a3)] [.int x0, .int x1, .ref x2] τ = Ru M_M_readsRank d Q 64 [some (.ref a0), some (.int a1), some (.int a2), some (.int a3)] [.int (x1 + x0), .ref x2] τ) ∧
    (∀ (a0 : Nat) (a1 : Int32) (a2 : Int32) (a3 : Int32) (x0 : Int32) (x1 : Nat) (τ : St), Ru M_M_readsRank d Q 64 [some (.ref a0), some (.int a1), some (.int a2), some (.int a3)] [.int x0, .ref x1] τ = (isA 12 x1 ∧ Cl d m_M_readsRank [.ref x1, .int x0] τ (fun v τ' => Ru M_M_readsRank d Q 67 [some (.ref a0), some (.int a1), some (.int a2), some (.int a3)] (v.toList ++ []) τ'))) ∧
    (∀ (a0 : Nat) (a1 : Int32) (a2 : Int32) (a3 : Int32) (x0 : Int32) (τ : St), Ru M_M_readsRank d Q 67 [some (.ref a0), some (.int a1), some (.int a2), some (.int a3)] [.int x0] τ = ((¬ x0 = 0 → Ru M_M_readsRank d Q 72 [some (.ref a0), some (.int a1), some (.int a2), some (.int a3)] [] τ) ∧ (x0 = 0 → Ru M_M_readsRank d Q 70 [some (.ref a0), some (.int a1), some (.int a2), some (.int a3)] [] τ))) ∧
    (∀ (a0 : Nat) (a1 : Int32) (a2 : Int32) (a3 : Int32) (τ : St), Ru M_M_readsRank d Q 70 [some (.ref a0), some (.int a1), some (.int a2), some (.int a3)] [] τ = Ru M_M_readsRank d Q 71 [some (.ref a0), some (.int a1), some (.int a2), some (.int a3)] [.int 0] τ) ∧
    (∀ (a0 : Nat) (a1 : Int32) (a2 : Int32) (a3 : Int32) (x0 : Int32) (τ : St), Ru M_M_readsRank d Q 71 [some (.ref a0), some (.int a1), some (.int a2), some (.int a3)] [.int x0] τ = ((x0 = 0 ∨ x0 = 1) ∧ Q (some (.int x0)) τ)) ∧
    (∀ (a0 : Nat) (a1 : Int32) (a2 : Int32) (a3 : Int32) (τ : St), Ru M_M_readsRank d Q 72 [some (.ref a0), some (.int a1), some (.int a2), some (.int a3)] [] τ = Ru M_M_readsRank d Q 73 [some (.ref a0), some (.int a1), some (.int a2), some (.int a3)] [.ref a0] τ) ∧
    (∀ (a0 : Nat) (a1 : Int32) (a2 : Int32) (a3 : Int32) (x0 : Nat) (τ : St), Ru M_M_readsRank d Q 73 [some (.ref a0), some (.int a1), some (.int a2), some (.int a3)] [.ref x0] τ = Ru M_M_readsRank d Q 76 [some (.ref a0), some (.int a1), some (.int a2), some (.int a3)] [.int 2000, .ref x0] τ) ∧
    (∀ (a0 : Nat) (a1 : Int32) (a2 : Int32) (a3 : Int32) (x0 : Int32) (x1 : Nat) (τ : St), Ru M_M_readsRank d Q 76 [some (.ref a0), some (.int a1), some (.int a2), some (.int a3)] [.int x0, .ref x1] τ = Ru M_M_readsRank d Q 77 [some (.ref a0), some (.int a1), some (.int a2), some (.int a3)] [.int a3, .int x0, .ref x1] τ) ∧
    (∀ (a0 : Nat) (a1 : Int32) (a2 : Int32) (a3 : Int32) (x0 : Int32) (x1 : Int32) (x2 : Nat) (τ : St), Ru M_M_readsRank d Q 77 [some (.ref a0), some (.int a1), some (.int a2), some (.int a3)] [.int x0, .int x1, .ref x2] τ = Ru M_M_readsRank d Q 78 [some (.ref a0), some (.int a1), some (.int a2), some (.int a3)] [.int (x1 + x0), .ref x2] τ) ∧
    (∀ (a0 : Nat) (a1 : Int32) (a2 : Int32) (a3 : Int32) (x0 : Int32) (x1 : Nat) (τ : St), Ru M_M_readsRank d Q 78 [some (.ref a0), some (.int a1), some (.int a2), some (.int a3)] [.int x0, .ref x1] τ = Ru M_M_readsRank d Q 79 [some (.ref a0), some (.int a1), some (.int a2), some (.int a3)] [.int a1, .int x0, .ref x1] τ) ∧
    (∀ (a0 : Nat) (a1 : Int32) (a2 : Int32) (a3 : Int32) (x0 : Int32) (x1 : Int32) (x2 : Nat) (τ : St), Ru M_M_readsRank d Q 79 [some (.ref a0), some (.int a1), some (.int a2), some (.int a3)] [.int x0, .int x1, .ref x2] τ = ((¬ x0 = 0 → Ru M_M_readsRank d Q 86 [some (.ref a0), some (.int a1), some (.int a2), some (.int a3)] [.int x1, .ref x2] τ) ∧ (x0 = 0 → Ru M_M_readsRank d Q 82 [some (.ref a0), some (.int a1), some (.int a2), some (.int a3)] [.int x1, .ref x2] τ))) ∧
    (∀ (a0 : Nat) (a1 : Int32) (a2 : Int32) (a3 : Int32) (x0 : Int32) (x1 : Nat) (τ : St), Ru M_M_readsRank d Q 82 [some (.ref a0), some (.int a1), some (.int a2), some (.int a3)] [.int x0, .ref x1] τ = Ru M_M_readsRank d Q 83 [some (.ref a0), some (.int a1), some (.int a2), some (.int a3)] [.int 0, .int x0, .ref x1] τ) ∧
    (∀ (a0 : Nat) (a1 : Int32) (a2 : Int32) (a3 : Int32) (x0 : Int32) (x1 : Int32) (x2 : Nat) (τ : St), Ru M_M_readsRank d Q 83 [some (.ref a0), some (.int a1), some (.int a2), some (.int a3)] [.int x0, .int x1, .ref x2] τ = Ru M_M_readsRank d Q 96 [some (.ref a0), some (.int a1), some (.int a2), some (.int a3)] [.int x0, .int x1, .ref x2] τ) ∧
    (∀ (a0 : Nat) (a1 : Int32) (a2 : Int32) (a3 : Int32) (x0 : Int32) (x1 : Nat) (τ : St), Ru M_M_readsRank d Q 86 [some (.ref a0), some (.int a1), some (.int a2), some (.int a3)] [.int x0, .ref x1] τ = Ru M_M_readsRank d Q 87 [some (.ref a0), some (.int a1), some (.int a2), some (.int a3)] [.int a1, .int x0, .ref x1] τ) ∧
    (∀ (a0 : Nat) (a1 : Int32) (a2 : Int32) (a3 : Int32) (x0 : Int32) (x1 : Int32) (x2 : Nat) (τ : St), Ru M_M_readsRank d Q 87 [some (.ref a0), some (.int a1), some (.int a2), some (.int a3)] [.int x0, .int x1, .ref x2] τ = Ru M_M_readsRank d Q 88 [some (.ref a0), some (.int a1), some (.int a2), some (.int a3)] [.int 1, .int x0, .int x1, .ref x2] τ) ∧
    (∀ (a0 : Nat) (a1 : Int32) (a2 : Int32) (a3 : Int32) (x0 : Int32) (x1 : Int32) (x2 : Int32) (x3 : Nat) (τ : St), Ru M_M_readsRank d Q 88 [some (.ref a0), some (.int a1), some (.int a2), some (.int a3)] [.int x0, .int x1, .int x2, .ref x3] τ = ((¬ x1 = x0 → Ru M_M_readsRank d Q 95 [some (.ref a0), some (.int a1), some (.int a2), some (.int a3)] [.int x2, .ref x3] τ) ∧ (x1 = x0 → Ru M_M_readsRank d Q 91 [some (.ref a0), some (.int a1), some (.int a2), some (.int a3)] [.int x2, .ref x3] τ))) ∧
    (∀ (a0 : Nat) (a1 : Int32) (a2 : Int32) (a3 : Int32) (x0 : Int32) (x1 : Nat) (τ : St), Ru M_M_readsRank d Q 91 [some (.ref a0), some (.int a1), some (.int a2), some (.int a3)] [.int x0, .ref x1] τ = Ru M_M_readsRank d Q 92 [some (.ref a0), some (.int a1), some (.int a2), some (.int a3)] [.int 3, .int x0, .ref x1] τ) ∧
    (∀ (a0 : Nat) (a1 : Int32) (a2 : Int32) (a3 : Int32) (x0 : Int32) (x1 : Int32) (x2 : Nat) (τ : St), Ru M_M_readsRank d Q 92 [some (.ref a0), some (.int a1), some (.int a2), some (.int a3)] [.int x0, .int x1, .ref x2] τ = Ru M_M_readsRank d Q 96 [some (.ref a0), some (.int a1), some (.int a2), some (.int a3)] [.int x0, .int x1, .ref x2] τ) ∧
    (∀ (a0 : Nat) (a1 : Int32) (a2 : Int32) (a3 : Int32) (x0 : Int32) (x1 : Nat) (τ : St), Ru M_M_readsRank d Q 95 [some (.ref a0), some (.int a1), some (.int a2), some (.int a3)] [.int x0, .ref x1] τ = Ru M_M_readsRank d Q 96 [some (.ref a0), some (.int a1), some (.int a2), some (.int a3)] [.int 5, .int x0, .ref x1] τ) ∧
    (∀ (a0 : Nat) (a1 : Int32) (a2 : Int32) (a3 : Int32) (x0 : Int32) (x1 : Int32) (x2 : Nat) (τ : St), Ru M_M_readsRank d Q 96 [some (.ref a0), some (.int a1), some (.int a2), some (.int a3)] [.int x0, .int x1, .ref x2] τ = Ru M_M_readsRank d Q 97 [some (.ref a0), some (.int a1), some (.int a2), some (.int a3)] [.int (x1 + x0), .ref x2] τ) ∧
    (∀ (a0 : Nat) (a1 : Int32) (a2 : Int32) (a3 : Int32) (x0 : Int32) (x1 : Nat) (τ : St), Ru M_M_readsRank d Q 97 [some (.ref a0), some (.int a1), some (.int a2), some (.int a3)] [.int x0, .ref x1] τ = (isA 12 x1 ∧ Cl d m_M_codes [.ref x1, .int x0] τ (fun v τ' => Ru M_M_readsRank d Q 100 [some (.ref a0), some (.int a1), some (.int a2), some (.int a3)] (v.toList ++ []) τ'))) ∧
    (∀ (a0 : Nat) (a1 : Int32) (a2 : Int32) (a3 : Int32) (τ : St), Ru M_M_readsRank d Q 100 [some (.ref a0), some (.int a1), some (.int a2), some (.int a3)] [] τ = Ru M_M_readsRank d Q 101 [some (.ref a0), some (.int a1), some (.int a2), some (.int a3)] [.int a1] τ) ∧
    (∀ (a0 : Nat) (a1 : Int32) (a2 : Int32) (a3 : Int32) (x0 : Int32) (τ : St), Ru M_M_readsRank d Q 101 [some (.ref a0), some (.int a1), some (.int a2), some (.int a3)] [.int x0] τ = ((x0 ≤ 0 → Ru M_M_readsRank d Q 108 [some (.ref a0), some (.int a1), some (.int a2), some (.int a3)] [] τ) ∧ (¬ x0 ≤ 0 → Ru M_M_readsRank d Q 104 [some (.ref a0), some (.int a1), some (.int a2), some (.int a3)] [] τ))) ∧
    (∀ (a0 : Nat) (a1 : Int32) (a2 : Int32) (a3 : Int32) (τ : St), Ru M_M_readsRank d Q 104 [some (.ref a0), some (.int a1), some (.int a2), some (.int a3)] [] τ = Ru M_M_readsRank d Q 105 [some (.ref a0), some (.int a1), some (.int a2), some (.int a3)] [.int 1] τ) ∧
    (∀ (a0 : Nat) (a1 : Int32) (a2 : Int32) (a3 : Int32) (x0 : Int32) (τ : St), Ru M_M_readsRank d Q 105 [some (.ref a0), some (.int a1), some (.int a2), some (.int a3)] [.int x0] τ = Ru M_M_readsRank d Q 109 [some (.ref a0), some (.int a1), some (.int a2), some (.int a3)] [.int x0] τ) ∧
    (∀ (a0 : Nat) (a1 : Int32) (a2 : Int32) (a3 : Int32) (τ : St), Ru M_M_readsRank d Q 108 [some (.ref a0), some (.int a1), some (.int a2), some (.int a3)] [] τ = Ru M_M_readsRank d Q 109 [some (.ref a0), some (.int a1), some (.int a2), some (.int a3)] [.int 0] τ) ∧
    (∀ (a0 : Nat) (a1 : Int32) (a2 : Int32) (a3 : Int32) (x0 : Int32) (τ : St), Ru M_M_readsRank d Q 109 [some (.ref a0), some (.int a1), some (.int a2), some (.int a3)] [.int x0] τ = Ru M_M_readsRank d Q 110 [some (.ref a0), some (.int a1), some (.int x0), some (.int a3)] [] τ) ∧
    (∀ (a0 : Nat) (a1 : Int32) (a2 : Int32) (a3 : Int32) (τ : St), Ru M_M_readsRank d Q 110 [some (.ref a0), some (.int a1), some (.int a2), some (.int a3)] [] τ = Rs M_M_readsRank d Q 24 [some (.ref a0), some (.int a1), some (.int a2), some (.int a3)] [] τ) ∧
    (∀ (a0 : Nat) (a1 : Int32) (a2 : Int32) (a3 : Option Value) (τ : St), Ru M_M_readsRank d Q 113 [some (.ref a0), some (.int a1), some (.int a2), a3] [] τ = Ru M_M_readsRank d Q 114 [some (.ref a0), some (.int a1), some (.int a2), a3] [.int 1] τ) ∧
    (∀ (a0 : Nat) (a1 : Int32) (a2 : Int32) (a3 : Option Value) (x0 : Int32) (τ : St), Ru M_M_readsRank d Q 114 [some (.ref a0), some (.int a1), some (.int a2), a3] [.int x0] τ = ((x0 = 0 ∨ x0 = 1) ∧ Q (some (.int x0)) τ)) := ⟨
  fun _ _ _ => (R_at ok_M_readsRank rfl).trans (e_ild rfl),
  fun _ _ _ _ => (R_at ok_M_readsRank rfl).trans e_push,
  fun _ _ _ _ _ => (R_at ok_M_readsRank rfl).trans e_icn,
  fun _ _ _ => (R_at ok_M_readsRank rfl).trans (e_ald rfl),
  fun _ _ _ _ => (R_at ok_M_readsRank rfl).trans (e_cv [] rfl rfl rfl),
  fun _ _ _ _ => (R_at ok_M_readsRank rfl).trans e_zret,
  fun _ _ _ => (R_at ok_M_readsRank rfl).trans (e_ald rfl),
  fun _ _ _ _ => (R_at ok_M_readsRank rfl).trans (e_ild rfl),
  fun _ _ _ _ _ => (R_at ok_M_readsRank rfl).trans e_push,
  fun _ _ _ _ _ _ => (R_at ok_M_readsRank rfl).trans e_bin,
  fun _ _ x0 _ _ => (R_at ok_M_readsRank rfl).trans (e_cv [.int x0] rfl rfl rfl),
  fun _ _ _ _ => (R_at ok_M_readsRank rfl).trans e_ifn,
  fun _ _ _ => (R_at ok_M_readsRank rfl).trans e_push,
  fun _ _ _ _ => (R_at ok_M_readsRank rfl).trans e_zret,
  fun _ _ _ => (R_at ok_M_readsRank rfl).trans e_push,
  fun _ _ _ _ => (R_at ok_M_readsRank rfl).trans e_ist,
  fun _ _ _ _ _ => (R_at ok_M_readsRank rfl).trans (e_ild rfl),
  fun _ _ _ _ _ _ => (R_at ok_M_readsRank rfl).trans e_if,
  fun _ _ _ _ _ => (R_at ok_M_readsRank rfl).trans (e_ald rfl),
  fun _ _ _ _ _ _ => (R_at ok_M_readsRank rfl).trans (e_ild rfl),
  fun _ _ _ _ _ _ _ => (R_at ok_M_readsRank rfl).trans e_ifn,
  fun _ _ _ _ _ _ => (R_at ok_M_readsRank rfl).trans e_push,
  fun _ _ _ _ _ _ _ => (R_at ok_M_readsRank rfl).trans e_goto,
  fun _ _ _ _ _ _ => (R_at ok_M_readsRank rfl).trans (e_ild rfl),
  fun _ _ _ _ _ _ _ => (R_at ok_M_readsRank rfl).trans e_push,
  fun _ _ _ _ _ _ _ _ => (R_at ok_M_readsRank rfl).trans e_icn,
  fun _ _ _ _ _ _ => (R_at ok_M_readsRank rfl).trans e_push,
  fun _ _ _ _ _ _ _ => (R_at ok_M_readsRank rfl).trans e_goto,
  fun _ _ _ _ _ _ => (R_at ok_M_readsRank rfl).trans e_push,
  fun _ _ _ _ x0 _ _ => (R_at ok_M_readsRank rfl).trans (e_cv [.ref (1000 + x0)] rfl rfl rfl),
  fun _ _ _ _ _ _ => (R_at ok_M_readsRank rfl).trans e_ist,
  fun _ _ _ _ _ => (R_at ok_M_readsRank rfl).trans (e_ild rfl),
  fun _ _ _ _ _ _ => (R_at ok_M_readsRank rfl).trans e_if,
  fun _ _ _ _ _ => (R_at ok_M_readsRank rfl).trans e_push,
  fun _ _ _ _ _ _ => (R_at ok_M_readsRank rfl).trans e_zret,
  fun _ _ _ _ _ => (R_at ok_M_readsRank rfl).trans (e_ald rfl),
  fun _ _ _ _ _ _ => (R_at ok_M_readsRank rfl).trans (e_ild rfl),
  fun _ _ _ _ _ _ _ => (R_at ok_M_readsRank rfl).trans e_push,
  fun _ _ _ _ _ _ _ _ => (R_at ok_M_readsRank rfl).trans e_bin,
  fun _ _ _ _ x0 _ _ => (R_at ok_M_readsRank rfl).trans (e_cv [.int x0] rfl rfl rfl),
  fun _ _ _ _ _ _ => (R_at ok_M_readsRank rfl).trans e_ifn,
  fun _ _ _ _ _ => (R_at ok_M_readsRank rfl).trans e_push,
  fun _ _ _ _ _ _ => (R_at ok_M_readsRank rfl).trans e_zret,
  fun _ _ _ _ _ => (R_at ok_M_readsRank rfl).trans (e_ald rfl),
  fun _ _ _ _ _ _ => (R_at ok_M_readsRank rfl).trans e_push,
  fun _ _ _ _ _ _ _ => (R_at ok_M_readsRank rfl).trans (e_ild rfl),
  fun _ _ _ _ _ _ _ _ => (R_at ok_M_readsRank rfl).trans e_bin,
  fun _ _ _ _ _ _ _ => (R_at ok_M_readsRank rfl).trans (e_ild rfl),
  fun _ _ _ _ _ _ _ _ => (R_at ok_M_readsRank rfl).trans e_ifn,
  fun _ _ _ _ _ _ _ => (R_at ok_M_readsRank rfl).trans e_push,
  fun _ _ _ _ _ _ _ _ => (R_at ok_M_readsRank rfl).trans e_goto,
  fun _ _ _ _ _ _ _ => (R_at ok_M_readsRank rfl).trans (e_ild rfl),
  fun _ _ _ _ _ _ _ _ => (R_at ok_M_readsRank rfl).trans e_push,
  fun _ _ _ _ _ _ _ _ _ => (R_at ok_M_readsRank rfl).trans e_icn,
  fun _ _ _ _ _ _ _ => (R_at ok_M_readsRank rfl).trans e_push,
  fun _ _ _ _ _ _ _ _ => (R_at ok_M_readsRank rfl).trans e_goto,
  fun _ _ _ _ _ _ _ => (R_at ok_M_readsRank rfl).trans e_push,
  fun _ _ _ _ _ _ _ _ => (R_at ok_M_readsRank rfl).trans e_bin,
  fun _ _ _ _ x0 _ _ => (R_at ok_M_readsRank rfl).trans (e_cv [.int x0] rfl rfl rfl),
  fun _ _ _ _ _ => (R_at ok_M_readsRank rfl).trans (e_ild rfl),
  fun _ _ _ _ _ _ => (R_at ok_M_readsRank rfl).trans e_if,
  fun _ _ _ _ _ => (R_at ok_M_readsRank rfl).trans e_push,
  fun _ _ _ _ _ _ => (R_at ok_M_readsRank rfl).trans e_goto,
  fun _ _ _ _ _ => (R_at ok_M_readsRank rfl).trans e_push,
  fun _ _ _ _ _ _ => (R_at ok_M_readsRank rfl).trans e_ist,
  fun _ _ _ _ _ => (R_at ok_M_readsRank rfl).trans e_goto,
  fun _ _ _ _ _ => (R_at ok_M_readsRank rfl).trans e_push,
  fun _ _ _ _ _ _ => (R_at ok_M_readsRank rfl).trans e_zret⟩
set_option maxHeartbeats 4000000 in
theorem N_M_readsRule (d : Nat) (Q : Qt) : ∀ (x0 : Nat) (τ : St), Cl (d + 1) m_M_readsRule [.ref x0] τ Q = Ru M_M_readsRule d Q 0 [some (.ref x0), none, none] [] τ := fun _ _ => propext ⟨fun h => h.2, fun h => ⟨Nat.le_of_ble_eq_true rfl, h⟩⟩
set_option maxHeartbeats 4000000 in
theorem E_M_readsRule (d : Nat) (Q : Qt) :
    (∀ (a0 : Nat) (τ : St), Ru M_M_readsRule d Q 0 [some (.ref a0), none, none] [] τ = Ru M_M_readsRule d Q 1 [some (.ref a0), none, none] [.ref a0] τ) ∧
    (∀ (a0 : Nat) (x0 : Nat) (τ : St), Ru M_M_readsRule d Q 1 [some (.ref a0), none, none] [.ref x0] τ = Ru M_M_readsRule d Q 3 [some (.ref a0), none, none] [.int 40, .ref x0] τ) ∧
    (∀ (a0 : Nat) (x0 : Int32) (x1 : Nat) (τ : St), Ru M_M_readsRule d Q 3 [some (.ref a0), none, none] [.int x0, .ref x1] τ = (isA 12 x1 ∧ Cl d m_M_begins [.ref x1, .int x0] τ (fun v τ' => Ru M_M_readsRule d Q 6 [some (.ref a0), none, none] (v.toList ++ []) τ'))) ∧
    (∀ (a0 : Nat) (x0 : Int32) (τ : St), Ru M_M_readsRule d Q 6 [some (.ref a0), none, none] [.int x0] τ = Ru M_M_readsRule d Q 7 [some (.ref a0), some (.int x0), none] [] τ) ∧
    (∀ (a0 : Nat) (a1 : Int32) (τ : St), Ru M_M_readsRule d Q 7 [some (.ref a0), some (.int a1), none] [] τ = Ru M_M_readsRule d Q 8 [some (.ref a0), some (.int a1), none] [.ref a0] τ) ∧
    (∀ (a0 : Nat) (a1 : Int32) (x0 : Nat) (τ : St), Ru M_M_readsRule d Q 8 [some (.ref a0), some (.int a1), none] [.ref x0] τ = Ru M_M_readsRule d Q 9 [some (.ref a0), some (.int a1), none] [.int 0, .ref x0] τ) ∧
    (∀ (a0 : Nat) (a1 : Int32) (x0 : Int32) (x1 : Nat) (τ : St), Ru M_M_readsRule d Q 9 [some (.ref a0), some (.int a1), none] [.int x0, .ref x1] τ = (isA 12 x1 ∧ Ru M_M_readsRule d Q 12 [some (.ref a0), some (.int a1), none] [] (sI τ x1 25 x0))) ∧
    (∀ (a0 : Nat) (a1 : Int32) (τ : St), Ru M_M_readsRule d Q 12 [some (.ref a0), some (.int a1), none] [] τ = Ru M_M_readsRule d Q 13 [some (.ref a0), some (.int a1), none] [.int a1] τ) ∧
    (∀ (a0 : Nat) (a1 : Int32) (x0 : Int32) (τ : St), Ru M_M_readsRule d Q 13 [some (.ref a0), some (.int a1), none] [.int x0] τ = ((x0 = 0 → Ru M_M_readsRule d Q 24 [some (.ref a0), some (.int a1), none] [] τ) ∧ (¬ x0 = 0 → Ru M_M_readsRule d Q 16 [some (.ref a0), some (.int a1), none] [] τ))) ∧
    (∀ (a0 : Nat) (a1 : Int32) (τ : St), Ru M_M_readsRule d Q 16 [some (.ref a0), some (.int a1), none] [] τ = Ru M_M_readsRule d Q 17 [some (.ref a0), some (.int a1), none] [.ref a0] τ) ∧
    (∀ (a0 : Nat) (a1 : Int32) (x0 : Nat) (τ : St), Ru M_M_readsRule d Q 17 [some (.ref a0), some (.int a1), none] [.ref x0] τ = Ru M_M_readsRule d Q 18 [some (.ref a0), some (.int a1), none] [.int 0, .ref x0] τ) ∧
    (∀ (a0 : Nat) (a1 : Int32) (x0 : Int32) (x1 : Nat) (τ : St), Ru M_M_readsRule d Q 18 [some (.ref a0), some (.int a1), none] [.int x0, .ref x1] τ = (isA 12 x1 ∧ Cl d m_M_readsRank [.ref x1, .int x0] τ (fun v τ' => Ru M_M_readsRule d Q 21 [some (.ref a0), some (.int a1), none] (v.toList ++ []) τ'))) ∧
    (∀ (a0 : Nat) (a1 : Int32) (x0 : Int32) (τ : St), Ru M_M_readsRule d Q 21 [some (.ref a0), some (.int a1), none] [.int x0] τ = ((x0 = 0 → Ru M_M_readsRule d Q 28 [some (.ref a0), some (.int a1), none] [] τ) ∧ (¬ x0 = 0 → Ru M_M_readsRule d Q 24 [some (.ref a0), some (.int a1), none] [] τ))) ∧
    (∀ (a0 : Nat) (a1 : Int32) (τ : St), Ru M_M_readsRule d Q 24 [some (.ref a0), some (.int a1), none] [] τ = Ru M_M_readsRule d Q 25 [some (.ref a0), some (.int a1), none] [.int 1] τ) ∧
    (∀ (a0 : Nat) (a1 : Int32) (x0 : Int32) (τ : St), Ru M_M_readsRule d Q 25 [some (.ref a0), some (.int a1), none] [.int x0] τ = Ru M_M_readsRule d Q 29 [some (.ref a0), some (.int a1), none] [.int x0] τ) ∧
    (∀ (a0 : Nat) (a1 : Int32) (τ : St), Ru M_M_readsRule d Q 28 [some (.ref a0), some (.int a1), none] [] τ = Ru M_M_readsRule d Q 29 [some (.ref a0), some (.int a1), none] [.int 0] τ) ∧
    (∀ (a0 : Nat) (a1 : Int32) (x0 : Int32) (τ : St), Ru M_M_readsRule d Q 29 [some (.ref a0), some (.int a1), none] [.int x0] τ = Ru M_M_readsRule d Q 30 [some (.ref a0), some (.int a1), some (.int x0)] [] τ) ∧
    (∀ (a0 : Nat) (a1 : Int32) (a2 : Int32) (τ : St), Ru M_M_readsRule d Q 30 [some (.ref a0), some (.int a1), some (.int a2)] [] τ = Ru M_M_readsRule d Q 31 [some (.ref a0), some (.int a1), some (.int a2)] [.ref a0] τ) ∧
    (∀ (a0 : Nat) (a1 : Int32) (a2 : Int32) (x0 : Nat) (τ : St), Ru M_M_readsRule d Q 31 [some (.ref a0), some (.int a1), some (.int a2)] [.ref x0] τ = Ru M_M_readsRule d Q 32 [some (.ref a0), some (.int a1), some (.int a2)] [.int a1, .ref x0] τ) ∧
    (∀ (a0 : Nat) (a1 : Int32) (a2 : Int32) (x0 : Int32) (x1 : Nat) (τ : St), Ru M_M_readsRule d Q 32 [some (.ref a0), some (.int a1), some (.int a2)] [.int x0, .ref x1] τ = Ru M_M_readsRule d Q 34 [some (.ref a0), some (.int a1), some (.int a2)] [.int 40, .int x0, .ref x1] τ) ∧
    (∀ (a0 : Nat) (a1 : Int32) (a2 : Int32) (x0 : Int32) (x1 : Int32) (x2 : Nat) (τ : St), Ru M_M_readsRule d Q 34 [some (.ref a0), some (.int a1), some (.int a2)] [.int x0, .int x1, .ref x2] τ = Ru M_M_readsRule d Q 35 [some (.ref a0), some (.int a1), some (.int a2)] [.int a2, .int x0, .int x1, .ref x2] τ) ∧
    (∀ (a0 : Nat) (a1 : Int32) (a2 : Int32) (x0 : Int32) (x1 : Int32) (x2 : Int32) (x3 : Nat) (τ : St), Ru M_M_readsRule d Q 35 [some (.ref a0), some (.int a1), some (.int a2)] [.int x0, .int x1, .int x2, .ref x3] τ = (isA 12 x3 ∧ Cl d m_M_faultOf [.ref x3, .int x2, .int x1, .int x0] τ (fun v τ' => Ru M_M_readsRule d Q 38 [some (.ref a0), some (.int a1), some (.int a2)] (v.toList ++ []) τ'))) ∧
    (∀ (a0 : Nat) (a1 : Int32) (a2 : Int32) (x0 : Int32) (τ : St), Ru M_M_readsRule d Q 38 [some (.ref a0), some (.int a1), some (.int a2)] [.int x0] τ = Q (some (.int x0)) τ) := ⟨
  fun _ _ => (R_at ok_M_readsRule rfl).trans (e_ald rfl),
  fun _ _ _ => (R_at ok_M_readsRule rfl).trans e_push,
  fun _ x0 _ _ => (R_at ok_M_readsRule rfl).trans (e_cv [.int x0] rfl rfl rfl),
  fun _ _ _ => (R_at ok_M_readsRule rfl).trans e_ist,
  fun _ _ _ => (R_at ok_M_readsRule rfl).trans (e_ald rfl),
  fun _ _ _ _ => (R_at ok_M_readsRule rfl).trans e_push,
  fun _ _ _ _ _ => (R_at ok_M_readsRule rfl).trans e_pI,
  fun _ _ _ => (R_at ok_M_readsRule rfl).trans (e_ild rfl),
  fun _ _ _ _ => (R_at ok_M_readsRule rfl).trans e_if,
  fun _ _ _ => (R_at ok_M_readsRule rfl).trans (e_ald rfl),
  fun _ _ _ _ => (R_at ok_M_readsRule rfl).trans e_push,
  fun _ _ x0 _ _ => (R_at ok_M_readsRule rfl).trans (e_cv [.int x0] rfl rfl rfl),
  fun _ _ _ _ => (R_at ok_M_readsRule rfl).trans e_if,
  fun _ _ _ => (R_at ok_M_readsRule rfl).trans e_push,
  fun _ _ _ _ => (R_at ok_M_readsRule rfl).trans e_goto,
  fun _ _ _ => (R_at ok_M_readsRule rfl).trans e_push,
  fun _ _ _ _ => (R_at ok_M_readsRule rfl).trans e_ist,
  fun _ _ _ _ => (R_at ok_M_readsRule rfl).trans (e_ald rfl),
  fun _ _ _ _ _ => (R_at ok_M_readsRule rfl).trans (e_ild rfl),
  fun _ _ _ _ _ _ => (R_at ok_M_readsRule rfl).trans e_push,
  fun _ _ _ _ _ _ _ => (R_at ok_M_readsRule rfl).trans (e_ild rfl),
  fun _ _ _ x0 x1 x2 _ _ => (R_at ok_M_readsRule rfl).trans (e_cv [.int x2, .int x1, .int x0] rfl rfl rfl),
  fun _ _ _ _ _ => (R_at ok_M_readsRule rfl).trans e_iret⟩
set_option maxHeartbeats 4000000 in
theorem N_M_laysCode (d : Nat) (Q : Qt) : ∀ (x0 : Nat) (x1 : Nat) (x2 : Int32) (τ : St), Cl (d + 1) m_M_laysCode [.ref x0, .ref x1, .int x2] τ Q = Ru M_M_laysCode d Q 0 [some (.ref x0), some (.ref x1), some (.int x2), none] [] τ := fun _ _ _ _ => propext ⟨fun h => h.2, fun h => ⟨Nat.le_of_ble_eq_true rfl, h⟩⟩
set_option maxHeartbeats 4000000 in
theorem E_M_laysCode (d : Nat) (Q : Qt) :
    (∀ (a0 : Nat) (a1 : Nat) (a2 : Int32) (τ : St), Ru M_M_laysCode d Q 0 [some (.ref a0), some (.ref a1), some (.int a2), none] [] τ = Ru M_M_laysCode d Q 1 [some (.ref a0), some (.ref a1), some (.int a2), none] [.ref a0] τ) ∧
    (∀ (a0 : Nat) (a1 : Nat) (a2 : Int32) (x0 : Nat) (τ : St), Ru M_M_laysCode d Q 1 [some (.ref a0), some (.ref a1), some (.int a2), none] [.ref x0] τ = Ru M_M_laysCode d Q 2 [some (.ref a0), some (.ref a1), some (.int a2), none] [.int a2, .ref x0] τ) ∧
    (∀ (a0 : Nat) (a1 : Nat) (a2 : Int32) (x0 : Int32) (x1 : Nat) (τ : St), Ru M_M_laysCode d Q 2 [some (.ref a0), some (.ref a1), some (.int a2), none] [.int x0, .ref x1] τ = (isA 12 x1 ∧ Ru M_M_laysCode d Q 5 [some (.ref a0), some (.ref a1), some (.int a2), none] [] (sI τ x1 24 x0))) ∧
    (∀ (a0 : Nat) (a1 : Nat) (a2 : Int32) (τ : St), Ru M_M_laysCode d Q 5 [some (.ref a0), some (.ref a1), some (.int a2), none] [] τ = Ru M_M_laysCode d Q 6 [some (.ref a0), some (.ref a1), some (.int a2), none] [.int 0] τ) ∧
    (∀ (a0 : Nat) (a1 : Nat) (a2 : Int32) (x0 : Int32) (τ : St), Ru M_M_laysCode d Q 6 [some (.ref a0), some (.ref a1), some (.int a2), none] [.int x0] τ = Rs M_M_laysCode d Q 7 [some (.ref a0), some (.ref a1), some (.int a2), some (.int x0)] [] τ) ∧
    (∀ (a0 : Nat) (a1 : Nat) (a2 : Int32) (a3 : Int32) (τ : St), Ru M_M_laysCode d Q 7 [some (.ref a0), some (.ref a1), some (.int a2), some (.int a3)] [] τ = Ru M_M_laysCode d Q 8 [some (.ref a0), some (.ref a1), some (.int a2), some (.int a3)] [.int a3] τ) ∧
    (∀ (a0 : Nat) (a1 : Nat) (a2 : Int32) (a3 : Int32) (x0 : Int32) (τ : St), Ru M_M_laysCode d Q 8 [some (.ref a0), some (.ref a1), some (.int a2), some (.int a3)] [.int x0] τ = Ru M_M_laysCode d Q 9 [some (.ref a0), some (.ref a1), some (.int a2), some (.int a3)] [.int a2, .int x0] τ) ∧
    (∀ (a0 : Nat) (a1 : Nat) (a2 : Int32) (a3 : Int32) (x0 : Int32) (x1 : Int32) (τ : St), Ru M_M_laysCode d Q 9 [some (.ref a0), some (.ref a1), some (.int a2), some (.int a3)] [.int x0, .int x1] τ = ((x0 ≤ x1 → Ru M_M_laysCode d Q 27 [some (.ref a0), some (.ref a1), some (.int a2), some (.int a3)] [] τ) ∧ (¬ x0 ≤ x1 → Ru M_M_laysCode d Q 12 [some (.ref a0), some (.ref a1), some (.int a2), some (.int a3)] [] τ))) ∧
    (∀ (a0 : Nat) (a1 : Nat) (a2 : Int32) (a3 : Int32) (τ : St), Ru M_M_laysCode d Q 12 [some (.ref a0), some (.ref a1), some (.int a2), some (.int a3)] [] τ = Ru M_M_laysCode d Q 13 [some (.ref a0), some (.ref a1), some (.int a2), some (.int a3)] [.ref a0] τ) ∧
    (∀ (a0 : Nat) (a1 : Nat) (a2 : Int32) (a3 : Int32) (x0 : Nat) (τ : St), Ru M_M_laysCode d Q 13 [some (.ref a0), some (.ref a1), some (.int a2), some (.int a3)] [.ref x0] τ = (isA 12 x0 ∧ Ru M_M_laysCode d Q 16 [some (.ref a0), some (.ref a1), some (.int a2), some (.int a3)] [.ref (rtab x0 22)] τ)) ∧
    (∀ (a0 : Nat) (a1 : Nat) (a2 : Int32) (a3 : Int32) (x0 : Nat) (τ : St), Ru M_M_laysCode d Q 16 [some (.ref a0), some (.ref a1), some (.int a2), some (.int a3)] [.ref x0] τ = Ru M_M_laysCode d Q 17 [some (.ref a0), some (.ref a1), some (.int a2), some (.int a3)] [.int a3, .ref x0] τ) ∧
    (∀ (a0 : Nat) (a1 : Nat) (a2 : Int32) (a3 : Int32) (x0 : Int32) (x1 : Nat) (τ : St), Ru M_M_laysCode d Q 17 [some (.ref a0), some (.ref a1), some (.int a2), some (.int a3)] [.int x0, .ref x1] τ = Ru M_M_laysCode d Q 18 [some (.ref a0), some (.ref a1), some (.int a2), some (.int a3)] [.ref a1, .int x0, .ref x1] τ) ∧
    (∀ (a0 : Nat) (a1 : Nat) (a2 : Int32) (a3 : Int32) (x0 : Nat) (x1 : Int32) (x2 : Nat) (τ : St), Ru M_M_laysCode d Q 18 [some (.ref a0), some (.ref a1), some (.int a2), some (.int a3)] [.ref x0, .int x1, .ref x2] τ = Ru M_M_laysCode d Q 19 [some (.ref a0), some (.ref a1), some (.int a2), some (.int a3)] [.int a3, .ref x0, .int x1, .ref x2] τ) ∧
    (∀ (a0 : Nat) (a1 : Nat) (a2 : Int32) (a3 : Int32) (x0 : Int32) (x1 : Nat) (x2 : Int32) (x3 : Nat) (τ : St), Ru M_M_laysCode d Q 19 [some (.ref a0), some (.ref a1), some (.int a2), some (.int a3)] [.int x0, .ref x1, .int x2, .ref x3] τ = (isA 14 x1 ∧ vp_in x0 (len x1) ∧ Ru M_M_laysCode d Q 20 [some (.ref a0), some (.ref a1), some (.int a2), some (.int a3)] [.int (τ.1 x1 x0.toNatClampNeg), .int x2, .ref x3] τ)) ∧
    (∀ (a0 : Nat) (a1 : Nat) (a2 : Int32) (a3 : Int32) (x0 : Int32) (x1 : Int32) (x2 : Nat) (τ : St), Ru M_M_laysCode d Q 20 [some (.ref a0), some (.ref a1), some (.int a2), some (.int a3)] [.int x0, .int x1, .ref x2] τ = (isA 14 x2 ∧ vp_in x1 (len x2) ∧ Ru M_M_laysCode d Q 21 [some (.ref a0), some (.ref a1), some (.int a2), some (.int a3)] [] (sI τ x2 x1.toNatClampNeg (x0)))) ∧
    (∀ (a0 : Nat) (a1 : Nat) (a2 : Int32) (a3 : Int32) (τ : St), Ru M_M_laysCode d Q 21 [some (.ref a0), some (.ref a1), some (.int a2), some (.int a3)] [] τ = Ru M_M_laysCode d Q 24 [some (.ref a0), some (.ref a1), some (.int a2), some (.int (a3 + 1))] [] τ) ∧
    (∀ (a0 : Nat) (a1 : Nat) (a2 : Int32) (a3 : Int32) (τ : St), Ru M_M_laysCode d Q 24 [some (.ref a0), some (.ref a1), some (.int a2), some (.int a3)] [] τ = Rs M_M_laysCode d Q 7 [some (.ref a0), some (.ref a1), some (.int a2), some (.int a3)] [] τ) ∧
    (∀ (a0 : Nat) (a1 : Nat) (a2 : Int32) (a3 : Int32) (τ : St), Ru M_M_laysCode d Q 27 [some (.ref a0), some (.ref a1), some (.int a2), some (.int a3)] [] τ = Q none τ) := ⟨
  fun _ _ _ _ => (R_at ok_M_laysCode rfl).trans (e_ald rfl),
  fun _ _ _ _ _ => (R_at ok_M_laysCode rfl).trans (e_ild rfl),
  fun _ _ _ _ _ _ => (R_at ok_M_laysCode rfl).trans e_pI,
  fun _ _ _ _ => (R_at ok_M_laysCode rfl).trans e_push,
  fun _ _ _ _ _ => (R_at ok_M_laysCode rfl).trans e_ist,
  fun _ _ _ _ _ => (R_at ok_M_laysCode rfl).trans (e_ild rfl),
  fun _ _ _ _ _ _ => (R_at ok_M_laysCode rfl).trans (e_ild rfl),
  fun _ _ _ _ _ _ _ => (R_at ok_M_laysCode rfl).trans e_ic,
  fun _ _ _ _ _ => (R_at ok_M_laysCode rfl).trans (e_ald rfl),
  fun _ _ _ _ _ _ => (R_at ok_M_laysCode rfl).trans e_gR,
  fun _ _ _ _ _ _ => (R_at ok_M_laysCode rfl).trans (e_ild rfl),
  fun _ _ _ _ _ _ _ => (R_at ok_M_laysCode rfl).trans (e_ald rfl),
  fun _ _ _ _ _ _ _ _ => (R_at ok_M_laysCode rfl).trans (e_ild rfl),
  fun _ _ _ _ _ _ _ _ _ => (R_at ok_M_laysCode rfl).trans e_al,
  fun _ _ _ _ _ _ _ _ => (R_at ok_M_laysCode rfl).trans e_as,
  fun _ _ _ _ _ => (R_at ok_M_laysCode rfl).trans (e_iinc rfl),
  fun _ _ _ _ _ => (R_at ok_M_laysCode rfl).trans e_goto,
  fun _ _ _ _ _ => (R_at ok_M_laysCode rfl).trans e_vret⟩
set_option maxHeartbeats 4000000 in
theorem N_M_rule (d : Nat) (Q : Qt) : ∀ (x0 : Nat) (τ : St), Cl (d + 1) m_M_rule [.ref x0] τ Q = Ru M_M_rule d Q 0 [some (.ref x0), none] [] τ := fun _ _ => propext ⟨fun h => h.2, fun h => ⟨Nat.le_of_ble_eq_true rfl, h⟩⟩
set_option maxHeartbeats 4000000 in
theorem E_M_rule (d : Nat) (Q : Qt) :
    (∀ (a0 : Nat) (τ : St), Ru M_M_rule d Q 0 [some (.ref a0), none] [] τ = Ru M_M_rule d Q 1 [some (.ref a0), none] [.ref a0] τ) ∧
    (∀ (a0 : Nat) (x0 : Nat) (τ : St), Ru M_M_rule d Q 1 [some (.ref a0), none] [.ref x0] τ = Ru M_M_rule d Q 2 [some (.ref a0), none] [.int 0, .ref x0] τ) ∧
    (∀ (a0 : Nat) (x0 : Int32) (x1 : Nat) (τ : St), Ru M_M_rule d Q 2 [some (.ref a0), none] [.int x0, .ref x1] τ = (isA 12 x1 ∧ Ru M_M_rule d Q 5 [some (.ref a0), none] [] (sI τ x1 0 x0))) ∧
    (∀ (a0 : Nat) (τ : St), Ru M_M_rule d Q 5 [some (.ref a0), none] [] τ = Ru M_M_rule d Q 6 [some (.ref a0), none] [.ref a0] τ) ∧
    (∀ (a0 : Nat) (x0 : Nat) (τ : St), Ru M_M_rule d Q 6 [some (.ref a0), none] [.ref x0] τ = (isA 12 x0 ∧ Cl d m_M_readsRule [.ref x0] τ (fun v τ' => Ru M_M_rule d Q 9 [some (.ref a0), none] (v.toList ++ []) τ'))) ∧
    (∀ (a0 : Nat) (x0 : Int32) (τ : St), Ru M_M_rule d Q 9 [some (.ref a0), none] [.int x0] τ = Ru M_M_rule d Q 10 [some (.ref a0), some (.int x0)] [] τ) ∧
    (∀ (a0 : Nat) (a1 : Int32) (τ : St), Ru M_M_rule d Q 10 [some (.ref a0), some (.int a1)] [] τ = Ru M_M_rule d Q 11 [some (.ref a0), some (.int a1)] [.int a1] τ) ∧
    (∀ (a0 : Nat) (a1 : Int32) (x0 : Int32) (τ : St), Ru M_M_rule d Q 11 [some (.ref a0), some (.int a1)] [.int x0] τ = ((¬ x0 = 0 → Ru M_M_rule d Q 26 [some (.ref a0), some (.int a1)] [] τ) ∧ (x0 = 0 → Ru M_M_rule d Q 14 [some (.ref a0), some (.int a1)] [] τ))) ∧
    (∀ (a0 : Nat) (a1 : Int32) (τ : St), Ru M_M_rule d Q 14 [some (.ref a0), some (.int a1)] [] τ = Ru M_M_rule d Q 15 [some (.ref a0), some (.int a1)] [.ref a0] τ) ∧
    (∀ (a0 : Nat) (a1 : Int32) (x0 : Nat) (τ : St), Ru M_M_rule d Q 15 [some (.ref a0), some (.int a1)] [.ref x0] τ = Ru M_M_rule d Q 16 [some (.ref a0), some (.int a1)] [.ref a0, .ref x0] τ) ∧
    (∀ (a0 : Nat) (a1 : Int32) (x0 : Nat) (x1 : Nat) (τ : St), Ru M_M_rule d Q 16 [some (.ref a0), some (.int a1)] [.ref x0, .ref x1] τ = (isA 12 x0 ∧ Ru M_M_rule d Q 19 [some (.ref a0), some (.int a1)] [.ref (rtab x0 23), .ref x1] τ)) ∧
    (∀ (a0 : Nat) (a1 : Int32) (x0 : Nat) (x1 : Nat) (τ : St), Ru M_M_rule d Q 19 [some (.ref a0), some (.int a1)] [.ref x0, .ref x1] τ = Ru M_M_rule d Q 20 [some (.ref a0), some (.int a1)] [.ref a0, .ref x0, .ref x1] τ) ∧
    (∀ (a0 : Nat) (a1 : Int32) (x0 : Nat) (x1 : Nat) (x2 : Nat) (τ : St), Ru M_M_rule d Q 20 [some (.ref a0), some (.int a1)] [.ref x0, .ref x1, .ref x2] τ = (isA 12 x0 ∧ Ru M_M_rule d Q 23 [some (.ref a0), some (.int a1)] [.int (τ.1 x0 25), .ref x1, .ref x2] τ)) ∧
    (∀ (a0 : Nat) (a1 : Int32) (x0 : Int32) (x1 : Nat) (x2 : Nat) (τ : St), Ru M_M_rule d Q 23 [some (.ref a0), some (.int a1)] [.int x0, .ref x1, .ref x2] τ = (isA 12 x2 ∧ Cl d m_M_laysCode [.ref x2, .ref x1, .int x0] τ (fun v τ' => Ru M_M_rule d Q 26 [some (.ref a0), some (.int a1)] (v.toList ++ []) τ'))) ∧
    (∀ (a0 : Nat) (a1 : Int32) (τ : St), Ru M_M_rule d Q 26 [some (.ref a0), some (.int a1)] [] τ = Ru M_M_rule d Q 27 [some (.ref a0), some (.int a1)] [.int a1] τ) ∧
    (∀ (a0 : Nat) (a1 : Int32) (x0 : Int32) (τ : St), Ru M_M_rule d Q 27 [some (.ref a0), some (.int a1)] [.int x0] τ = Q (some (.int x0)) τ) := ⟨
  fun _ _ => (R_at ok_M_rule rfl).trans (e_ald rfl),
  fun _ _ _ => (R_at ok_M_rule rfl).trans e_push,
  fun _ _ _ _ => (R_at ok_M_rule rfl).trans e_pI,
  fun _ _ => (R_at ok_M_rule rfl).trans (e_ald rfl),
  fun _ _ _ => (R_at ok_M_rule rfl).trans (e_cv [] rfl rfl rfl),
  fun _ _ _ => (R_at ok_M_rule rfl).trans e_ist,
  fun _ _ _ => (R_at ok_M_rule rfl).trans (e_ild rfl),
  fun _ _ _ _ => (R_at ok_M_rule rfl).trans e_ifn,
  fun _ _ _ => (R_at ok_M_rule rfl).trans (e_ald rfl),
  fun _ _ _ _ => (R_at ok_M_rule rfl).trans (e_ald rfl),
  fun _ _ _ _ _ => (R_at ok_M_rule rfl).trans e_gR,
  fun _ _ _ _ _ => (R_at ok_M_rule rfl).trans (e_ald rfl),
  fun _ _ _ _ _ _ => (R_at ok_M_rule rfl).trans e_gI,
  fun _ _ x0 x1 _ _ => (R_at ok_M_rule rfl).trans (e_cv [.ref x1, .int x0] rfl rfl rfl),
  fun _ _ _ => (R_at ok_M_rule rfl).trans (e_ild rfl),
  fun _ _ _ _ => (R_at ok_M_rule rfl).trans e_iret⟩
set_option maxHeartbeats 4000000 in
theorem N_M_worked (d : Nat) (Q : Qt) : ∀ (x0 : Int32) (x1 : Int32) (x2 : Int32) (τ : St), Cl (d + 1) m_M_worked [.int x0, .int x1, .int x2] τ Q = Ru M_M_worked d Q 0 [some (.int x0), some (.int x1), some (.int x2)] [] τ := fun _ _ _ _ => propext ⟨fun h => h.2, fun h => ⟨Nat.le_of_ble_eq_true rfl, h⟩⟩
set_option maxHeartbeats 4000000 in
theorem E_M_worked (d : Nat) (Q : Qt) :
    (∀ (a0 : Int32) (a1 : Int32) (a2 : Int32) (τ : St), Ru M_M_worked d Q 0 [some (.int a0), some (.int a1), some (.int a2)] [] τ = Ru M_M_worked d Q 1 [some (.int a0), some (.int a1), some (.int a2)] [.int a0] τ) ∧
    (∀ (a0 : Int32) (a1 : Int32) (a2 : Int32) (x0 : Int32) (τ : St), Ru M_M_worked d Q 1 [some (.int a0), some (.int a1), some (.int a2)] [.int x0] τ = ((∀ q ∈ ([(0, 40), (1, 54), (2, 68), (3, 82), (4, 86), (5, 90)] : List (Int32 × Nat)), x0 = q.1 → Ru M_M_worked d Q q.2 [some (.int a0), some (.int a1), some (.int a2)] [] τ) ∧ ((∀ q ∈ ([(0, 40), (1, 54), (2, 68), (3, 82), (4, 86), (5, 90)] : List (Int32 × Nat)), ¬ x0 = q.1) → Ru M_M_worked d Q 94 [some (.int a0), some (.int a1), some (.int a2)] [] τ))) ∧
    (∀ (a0 : Int32) (a1 : Int32) (a2 : Int32) (τ : St), Ru M_M_worked d Q 40 [some (.int a0), some (.int a1), some (.int a2)] [] τ = Ru M_M_worked d Q 41 [some (.int a0), some (.int a1), some (.int a2)] [.int a1] τ) ∧
    (∀ (a0 : Int32) (a1 : Int32) (a2 : Int32) (x0 : Int32) (τ : St), Ru M_M_worked d Q 41 [some (.int a0), some (.int a1), some (.int a2)] [.int x0] τ = Ru M_M_worked d Q 42 [some (.int a0), some (.int a1), some (.int a2)] [.int a2, .int x0] τ) ∧
    (∀ (a0 : Int32) (a1 : Int32) (a2 : Int32) (x0 : Int32) (x1 : Int32) (τ : St), Ru M_M_worked d Q 42 [some (.int a0), some (.int a1), some (.int a2)] [.int x0, .int x1] τ = ((x0 ≤ x1 → Ru M_M_worked d Q 49 [some (.int a0), some (.int a1), some (.int a2)] [] τ) ∧ (¬ x0 ≤ x1 → Ru M_M_worked d Q 45 [some (.int a0), some (.int a1), some (.int a2)] [] τ))) ∧
    (∀ (a0 : Int32) (a1 : Int32) (a2 : Int32) (τ : St), Ru M_M_worked d Q 45 [some (.int a0), some (.int a1), some (.int a2)] [] τ = Ru M_M_worked d Q 46 [some (.int a0), some (.int a1), some (.int a2)] [.int 1] τ) ∧
    (∀ (a0 : Int32) (a1 : Int32) (a2 : Int32) (x0 : Int32) (τ : St), Ru M_M_worked d Q 46 [some (.int a0), some (.int a1), some (.int a2)] [.int x0] τ = Ru M_M_worked d Q 50 [some (.int a0), some (.int a1), some (.int a2)] [.int x0] τ) ∧
    (∀ (a0 : Int32) (a1 : Int32) (a2 : Int32) (τ : St), Ru M_M_worked d Q 49 [some (.int a0), some (.int a1), some (.int a2)] [] τ = Ru M_M_worked d Q 50 [some (.int a0), some (.int a1), some (.int a2)] [.int 0] τ) ∧
    (∀ (a0 : Int32) (a1 : Int32) (a2 : Int32) (x0 : Int32) (τ : St), Ru M_M_worked d Q 50 [some (.int a0), some (.int a1), some (.int a2)] [.int x0] τ = Cl d m_M_flag [.int x0] τ (fun v τ' => Ru M_M_worked d Q 53 [some (.int a0), some (.int a1), some (.int a2)] (v.toList ++ []) τ')) ∧
    (∀ (a0 : Int32) (a1 : Int32) (a2 : Int32) (x0 : Int32) (τ : St), Ru M_M_worked d Q 53 [some (.int a0), some (.int a1), some (.int a2)] [.int x0] τ = Q (some (.int x0)) τ) ∧
    (∀ (a0 : Int32) (a1 : Int32) (a2 : Int32) (τ : St), Ru M_M_worked d Q 54 [some (.int a0), some (.int a1), some (.int a2)] [] τ = Ru M_M_worked d Q 55 [some (.int a0), some (.int a1), some (.int a2)] [.int a1] τ) ∧
    (∀ (a0 : Int32) (a1 : Int32) (a2 : Int32) (x0 : Int32) (τ : St), Ru M_M_worked d Q 55 [some (.int a0), some (.int a1), some (.int a2)] [.int x0] τ = Ru M_M_worked d Q 56 [some (.int a0), some (.int a1), some (.int a2)] [.int a2, .int x0] τ) ∧
    (∀ (a0 : Int32) (a1 : Int32) (a2 : Int32) (x0 : Int32) (x1 : Int32) (τ : St), Ru M_M_worked d Q 56 [some (.int a0), some (.int a1), some (.int a2)] [.int x0, .int x1] τ = ((x1 ≤ x0 → Ru M_M_worked d Q 63 [some (.int a0), some (.int a1), some (.int a2)] [] τ) ∧ (¬ x1 ≤ x0 → Ru M_M_worked d Q 59 [some (.int a0), some (.int a1), some (.int a2)] [] τ))) ∧
    (∀ (a0 : Int32) (a1 : Int32) (a2 : Int32) (τ : St), Ru M_M_worked d Q 59 [some (.int a0), some (.int a1), some (.int a2)] [] τ = Ru M_M_worked d Q 60 [some (.int a0), some (.int a1), some (.int a2)] [.int 1] τ) ∧
    (∀ (a0 : Int32) (a1 : Int32) (a2 : Int32) (x0 : Int32) (τ : St), Ru M_M_worked d Q 60 [some (.int a0), some (.int a1), some (.int a2)] [.int x0] τ = Ru M_M_worked d Q 64 [some (.int a0), some (.int a1), some (.int a2)] [.int x0] τ) ∧
    (∀ (a0 : Int32) (a1 : Int32) (a2 : Int32) (τ : St), Ru M_M_worked d Q 63 [some (.int a0), some (.int a1), some (.int a2)] [] τ = Ru M_M_worked d Q 64 [some (.int a0), some (.int a1), some (.int a2)] [.int 0] τ) ∧
    (∀ (a0 : Int32) (a1 : Int32) (a2 : Int32) (x0 : Int32) (τ : St), Ru M_M_worked d Q 64 [some (.int a0), some (.int a1), some (.int a2)] [.int x0] τ = Cl d m_M_flag [.int x0] τ (fun v τ' => Ru M_M_worked d Q 67 [some (.int a0), some (.int a1), some (.int a2)] (v.toList ++ []) τ')) ∧
    (∀ (a0 : Int32) (a1 : Int32) (a2 : Int32) (x0 : Int32) (τ : St), Ru M_M_worked d Q 67 [some (.int a0), some (.int a1), some (.int a2)] [.int x0] τ = Q (some (.int x0)) τ) ∧
    (∀ (a0 : Int32) (a1 : Int32) (a2 : Int32) (τ : St), Ru M_M_worked d Q 68 [some (.int a0), some (.int a1), some (.int a2)] [] τ = Ru M_M_worked d Q 69 [some (.int a0), some (.int a1), some (.int a2)] [.int a1] τ) ∧
    (∀ (a0 : Int32) (a1 : Int32) (a2 : Int32) (x0 : Int32) (τ : St), Ru M_M_worked d Q 69 [some (.int a0), some (.int a1), some (.int a2)] [.int x0] τ = Ru M_M_worked d Q 70 [some (.int a0), some (.int a1), some (.int a2)] [.int a2, .int x0] τ) ∧
    (∀ (a0 : Int32) (a1 : Int32) (a2 : Int32) (x0 : Int32) (x1 : Int32) (τ : St), Ru M_M_worked d Q 70 [some (.int a0), some (.int a1), some (.int a2)] [.int x0, .int x1] τ = ((¬ x1 = x0 → Ru M_M_worked d Q 77 [some (.int a0), some (.int a1), some (.int a2)] [] τ) ∧ (x1 = x0 → Ru M_M_worked d Q 73 [some (.int a0), some (.int a1), some (.int a2)] [] τ))) ∧
    (∀ (a0 : Int32) (a1 : Int32) (a2 : Int32) (τ : St), Ru M_M_worked d Q 73 [some (.int a0), some (.int a1), some (.int a2)] [] τ = Ru M_M_worked d Q 74 [some (.int a0), some (.int a1), some (.int a2)] [.int 1] τ) ∧
    (∀ (a0 : Int32) (a1 : Int32) (a2 : Int32) (x0 : Int32) (τ : St), Ru M_M_worked d Q 74 [some (.int a0), some (.int a1), some (.int a2)] [.int x0] τ = Ru M_M_worked d Q 78 [some (.int a0), some (.int a1), some (.int a2)] [.int x0] τ) ∧
    (∀ (a0 : Int32) (a1 : Int32) (a2 : Int32) (τ : St), Ru M_M_worked d Q 77 [some (.int a0), some (.int a1), some (.int a2)] [] τ = Ru M_M_worked d Q 78 [some (.int a0), some (.int a1), some (.int a2)] [.int 0] τ) ∧
    (∀ (a0 : Int32) (a1 : Int32) (a2 : Int32) (x0 : Int32) (τ : St), Ru M_M_worked d Q 78 [some (.int a0), some (.int a1), some (.int a2)] [.int x0] τ = Cl d m_M_flag [.int x0] τ (fun v τ' => Ru M_M_worked d Q 81 [some (.int a0), some (.int a1), some (.int a2)] (v.toList ++ []) τ')) ∧
    (∀ (a0 : Int32) (a1 : Int32) (a2 : Int32) (x0 : Int32) (τ : St), Ru M_M_worked d Q 81 [some (.int a0), some (.int a1), some (.int a2)] [.int x0] τ = Q (some (.int x0)) τ) ∧
    (∀ (a0 : Int32) (a1 : Int32) (a2 : Int32) (τ : St), Ru M_M_worked d Q 82 [some (.int a0), some (.int a1), some (.int a2)] [] τ = Ru M_M_worked d Q 83 [some (.int a0), some (.int a1), some (.int a2)] [.int a1] τ) ∧
    (∀ (a0 : Int32) (a1 : Int32) (a2 : Int32) (x0 : Int32) (τ : St), Ru M_M_worked d Q 83 [some (.int a0), some (.int a1), some (.int a2)] [.int x0] τ = Ru M_M_worked d Q 84 [some (.int a0), some (.int a1), some (.int a2)] [.int a2, .int x0] τ) ∧
    (∀ (a0 : Int32) (a1 : Int32) (a2 : Int32) (x0 : Int32) (x1 : Int32) (τ : St), Ru M_M_worked d Q 84 [some (.int a0), some (.int a1), some (.int a2)] [.int x0, .int x1] τ = Ru M_M_worked d Q 85 [some (.int a0), some (.int a1), some (.int a2)] [.int (x1 + x0)] τ) ∧
    (∀ (a0 : Int32) (a1 : Int32) (a2 : Int32) (x0 : Int32) (τ : St), Ru M_M_worked d Q 85 [some (.int a0), some (.int a1), some (.int a2)] [.int x0] τ = Q (some (.int x0)) τ) ∧
    (∀ (a0 : Int32) (a1 : Int32) (a2 : Int32) (τ : St), Ru M_M_worked d Q 86 [some (.int a0), some (.int a1), some (.int a2)] [] τ = Ru M_M_worked d Q 87 [some (.int a0), some (.int a1), some (.int a2)] [.int a1] τ) ∧
    (∀ (a0 : Int32) (a1 : Int32) (a2 : Int32) (x0 : Int32) (τ : St), Ru M_M_worked d Q 87 [some (.int a0), some (.int a1), some (.int a2)] [.int x0] τ = Ru M_M_worked d Q 88 [some (.int a0), some (.int a1), some (.int a2)] [.int a2, .int x0] τ) ∧
    (∀ (a0 : Int32) (a1 : Int32) (a2 : Int32) (x0 : Int32) (x1 : Int32) (τ : St), Ru M_M_worked d Q 88 [some (.int a0), some (.int a1), some (.int a2)] [.int x0, .int x1] τ = Ru M_M_worked d Q 89 [some (.int a0), some (.int a1), some (.int a2)] [.int (x1 - x0)] τ) ∧
    (∀ (a0 : Int32) (a1 : Int32) (a2 : Int32) (x0 : Int32) (τ : St), Ru M_M_worked d Q 89 [some (.int a0), some (.int a1), some (.int a2)] [.int x0] τ = Q (some (.int x0)) τ) ∧
    (∀ (a0 : Int32) (a1 : Int32) (a2 : Int32) (τ : St), Ru M_M_worked d Q 90 [some (.int a0), some (.int a1), some (.int a2)] [] τ = Ru M_M_worked d Q 91 [some (.int a0), some (.int a1), some (.int a2)] [.int a1] τ) ∧
    (∀ (a0 : Int32) (a1 : Int32) (a2 : Int32) (x0 : Int32) (τ : St), Ru M_M_worked d Q 91 [some (.int a0), some (.int a1), some (.int a2)] [.int x0] τ = Ru M_M_worked d Q 92 [some (.int a0), some (.int a1), some (.int a2)] [.int a2, .int x0] τ) ∧
    (∀ (a0 : Int32) (a1 : Int32) (a2 : Int32) (x0 : Int32) (x1 : Int32) (τ : St), Ru M_M_worked d Q 92 [some (.int a0), some (.int a1), some (.int a2)] [.int x0, .int x1] τ = Ru M_M_worked d Q 93 [some (.int a0), some (.int a1), some (.int a2)] [.int (x1 * x0)] τ) ∧
    (∀ (a0 : Int32) (a1 : Int32) (a2 : Int32) (x0 : Int32) (τ : St), Ru M_M_worked d Q 93 [some (.int a0), some (.int a1), some (.int a2)] [.int x0] τ = Q (some (.int x0)) τ) ∧
    (∀ (a0 : Int32) (a1 : Int32) (a2 : Int32) (τ : St), Ru M_M_worked d Q 94 [some (.int a0), some (.int a1), some (.int a2)] [] τ = Ru M_M_worked d Q 95 [some (.int a0), some (.int a1), some (.int a2)] [.int a2] τ) ∧
    (∀ (a0 : Int32) (a1 : Int32) (a2 : Int32) (x0 : Int32) (τ : St), Ru M_M_worked d Q 95 [some (.int a0), some (.int a1), some (.int a2)] [.int x0] τ = ((¬ x0 = 0 → Ru M_M_worked d Q 102 [some (.int a0), some (.int a1), some (.int a2)] [] τ) ∧ (x0 = 0 → Ru M_M_worked d Q 98 [some (.int a0), some (.int a1), some (.int a2)] [] τ))) ∧
    (∀ (a0 : Int32) (a1 : Int32) (a2 : Int32) (τ : St), Ru M_M_worked d Q 98 [some (.int a0), some (.int a1), some (.int a2)] [] τ = Ru M_M_worked d Q 99 [some (.int a0), some (.int a1), some (.int a2)] [.int 0] τ) ∧
    (∀ (a0 : Int32) (a1 : Int32) (a2 : Int32) (x0 : Int32) (τ : St), Ru M_M_worked d Q 99 [some (.int a0), some (.int a1), some (.int a2)] [.int x0] τ = Ru M_M_worked d Q 105 [some (.int a0), some (.int a1), some (.int a2)] [.int x0] τ) ∧
    (∀ (a0 : Int32) (a1 : Int32) (a2 : Int32) (τ : St), Ru M_M_worked d Q 102 [some (.int a0), some (.int a1), some (.int a2)] [] τ = Ru M_M_worked d Q 103 [some (.int a0), some (.int a1), some (.int a2)] [.int a1] τ) ∧
    (∀ (a0 : Int32) (a1 : Int32) (a2 : Int32) (x0 : Int32) (τ : St), Ru M_M_worked d Q 103 [some (.int a0), some (.int a1), some (.int a2)] [.int x0] τ = Ru M_M_worked d Q 104 [some (.int a0), some (.int a1), some (.int a2)] [.int a2, .int x0] τ) ∧
    (∀ (a0 : Int32) (a1 : Int32) (a2 : Int32) (x0 : Int32) (x1 : Int32) (τ : St), Ru M_M_worked d Q 104 [some (.int a0), some (.int a1), some (.int a2)] [.int x0, .int x1] τ = (¬ x0 = 0 ∧ Ru M_M_worked d Q 105 [some (.int a0), some (.int a1), some (.int a2)] [.int (x1 / x0)] τ)) ∧
    (∀ (a0 : Int32) (a1 : Int32) (a2 : Int32) (x0 : Int32) (τ : St), Ru M_M_worked d Q 105 [some (.int a0), some (.int a1), some (.int a2)] [.int x0] τ = Q (some (.int x0)) τ) := ⟨
  fun _ _ _ _ => (R_at ok_M_worked rfl).trans (e_ild rfl),
  fun _ _ _ _ _ => (R_at ok_M_worked rfl).trans e_sw,
  fun _ _ _ _ => (R_at ok_M_worked rfl).trans (e_ild rfl),
  fun _ _ _ _ _ => (R_at ok_M_worked rfl).trans (e_ild rfl),
  fun _ _ _ _ _ _ => (R_at ok_M_worked rfl).trans e_ic,
  fun _ _ _ _ => (R_at ok_M_worked rfl).trans e_push,
  fun _ _ _ _ _ => (R_at ok_M_worked rfl).trans e_goto,
  fun _ _ _ _ => (R_at ok_M_worked rfl).trans e_push,
  fun _ _ _ x0 _ => (R_at ok_M_worked rfl).trans (e_cs [.int x0] rfl rfl rfl),
  fun _ _ _ _ _ => (R_at ok_M_worked rfl).trans e_iret,
  fun _ _ _ _ => (R_at ok_M_worked rfl).trans (e_ild rfl),
  fun _ _ _ _ _ => (R_at ok_M_worked rfl).trans (e_ild rfl),
  fun _ _ _ _ _ _ => (R_at ok_M_worked rfl).trans e_ic,
  fun _ _ _ _ => (R_at ok_M_worked rfl).trans e_push,
  fun _ _ _ _ _ => (R_at ok_M_worked rfl).trans e_goto,
  fun _ _ _ _ => (R_at ok_M_worked rfl).trans e_push,
  fun _ _ _ x0 _ => (R_at ok_M_worked rfl).trans (e_cs [.int x0] rfl rfl rfl),
  fun _ _ _ _ _ => (R_at ok_M_worked rfl).trans e_iret,
  fun _ _ _ _ => (R_at ok_M_worked rfl).trans (e_ild rfl),
  fun _ _ _ _ _ => (R_at ok_M_worked rfl).trans (e_ild rfl),
  fun _ _ _ _ _ _ => (R_at ok_M_worked rfl).trans e_icn,
  fun _ _ _ _ => (R_at ok_M_worked rfl).trans e_push,
  fun _ _ _ _ _ => (R_at ok_M_worked rfl).trans e_goto,
  fun _ _ _ _ => (R_at ok_M_worked rfl).trans e_push,
  fun _ _ _ x0 _ => (R_at ok_M_worked rfl).trans (e_cs [.int x0] rfl rfl rfl),
  fun _ _ _ _ _ => (R_at ok_M_worked rfl).trans e_iret,
  fun _ _ _ _ => (R_at ok_M_worked rfl).trans (e_ild rfl),
  fun _ _ _ _ _ => (R_at ok_M_worked rfl).trans (e_ild rfl),
  fun _ _ _ _ _ _ => (R_at ok_M_worked rfl).trans e_bin,
  fun _ _ _ _ _ => (R_at ok_M_worked rfl).trans e_iret,
  fun _ _ _ _ => (R_at ok_M_worked rfl).trans (e_ild rfl),
  fun _ _ _ _ _ => (R_at ok_M_worked rfl).trans (e_ild rfl),
  fun _ _ _ _ _ _ => (R_at ok_M_worked rfl).trans e_bin,
  fun _ _ _ _ _ => (R_at ok_M_worked rfl).trans e_iret,
  fun _ _ _ _ => (R_at ok_M_worked rfl).trans (e_ild rfl),
  fun _ _ _ _ _ => (R_at ok_M_worked rfl).trans (e_ild rfl),
  fun _ _ _ _ _ _ => (R_at ok_M_worked rfl).trans e_bin,
  fun _ _ _ _ _ => (R_at ok_M_worked rfl).trans e_iret,
  fun _ _ _ _ => (R_at ok_M_worked rfl).trans (e_ild rfl),
  fun _ _ _ _ _ => (R_at ok_M_worked rfl).trans e_ifn,
  fun _ _ _ _ => (R_at ok_M_worked rfl).trans e_push,
  fun _ _ _ _ _ => (R_at ok_M_worked rfl).trans e_goto,
  fun _ _ _ _ => (R_at ok_M_worked rfl).trans (e_ild rfl),
  fun _ _ _ _ _ => (R_at ok_M_worked rfl).trans (e_ild rfl),
  fun _ _ _ _ _ _ => (R_at ok_M_worked rfl).trans e_binz,
  fun _ _ _ _ _ => (R_at ok_M_worked rfl).trans e_iret⟩
set_option maxHeartbeats 4000000 in
theorem N_M_ruled (d : Nat) (Q : Qt) : ∀ (x0 : Nat) (τ : St), Cl (d + 1) m_M_ruled [.ref x0] τ Q = Ru M_M_ruled d Q 0 [some (.ref x0), none, none, none] [] τ := fun _ _ => propext ⟨fun h => h.2, fun h => ⟨Nat.le_of_ble_eq_true rfl, h⟩⟩
set_option maxHeartbeats 4000000 in
theorem E_M_ruled (d : Nat) (Q : Qt) :
    (∀ (a0 : Nat) (τ : St), Ru M_M_ruled d Q 0 [some (.ref a0), none, none, none] [] τ = Ru M_M_ruled d Q 1 [some (.ref a0), none, none, none] [.int 0] τ) ∧
    (∀ (a0 : Nat) (x0 : Int32) (τ : St), Ru M_M_ruled d Q 1 [some (.ref a0), none, none, none] [.int x0] τ = Ru M_M_ruled d Q 2 [some (.ref a0), some (.int x0), none, none] [] τ) ∧
    (∀ (a0 : Nat) (a1 : Int32) (τ : St), Ru M_M_ruled d Q 2 [some (.ref a0), some (.int a1), none, none] [] τ = Ru M_M_ruled d Q 3 [some (.ref a0), some (.int a1), none, none] [.int 0] τ) ∧
    (∀ (a0 : Nat) (a1 : Int32) (x0 : Int32) (τ : St), Ru M_M_ruled d Q 3 [some (.ref a0), some (.int a1), none, none] [.int x0] τ = Rs M_M_ruled d Q 4 [some (.ref a0), some (.int a1), some (.int x0), none] [] τ) ∧
    (∀ (a0 : Nat) (a1 : Int32) (a2 : Int32) (a3 : Option Value) (τ : St), Ru M_M_ruled d Q 4 [some (.ref a0), some (.int a1), some (.int a2), a3] [] τ = Ru M_M_ruled d Q 5 [some (.ref a0), some (.int a1), some (.int a2), a3] [.int a2] τ) ∧
    (∀ (a0 : Nat) (a1 : Int32) (a2 : Int32) (a3 : Option Value) (x0 : Int32) (τ : St), Ru M_M_ruled d Q 5 [some (.ref a0), some (.int a1), some (.int a2), a3] [.int x0] τ = Ru M_M_ruled d Q 6 [some (.ref a0), some (.int a1), some (.int a2), a3] [.ref a0, .int x0] τ) ∧
    (∀ (a0 : Nat) (a1 : Int32) (a2 : Int32) (a3 : Option Value) (x0 : Nat) (x1 : Int32) (τ : St), Ru M_M_ruled d Q 6 [some (.ref a0), some (.int a1), some (.int a2), a3] [.ref x0, .int x1] τ = (isA 12 x0 ∧ Ru M_M_ruled d Q 9 [some (.ref a0), some (.int a1), some (.int a2), a3] [.int (τ.1 x0 24), .int x1] τ)) ∧
    (∀ (a0 : Nat) (a1 : Int32) (a2 : Int32) (a3 : Option Value) (x0 : Int32) (x1 : Int32) (τ : St), Ru M_M_ruled d Q 9 [some (.ref a0), some (.int a1), some (.int a2), a3] [.int x0, .int x1] τ = ((x0 ≤ x1 → Ru M_M_ruled d Q 125 [some (.ref a0), some (.int a1), some (.int a2), a3] [] τ) ∧ (¬ x0 ≤ x1 → Ru M_M_ruled d Q 12 [some (.ref a0), some (.int a1), some (.int a2), a3] [] τ))) ∧
    (∀ (a0 : Nat) (a1 : Int32) (a2 : Int32) (a3 : Option Value) (τ : St), Ru M_M_ruled d Q 12 [some (.ref a0), some (.int a1), some (.int a2), a3] [] τ = Ru M_M_ruled d Q 13 [some (.ref a0), some (.int a1), some (.int a2), a3] [.ref a0] τ) ∧
    (∀ (a0 : Nat) (a1 : Int32) (a2 : Int32) (a3 : Option Value) (x0 : Nat) (τ : St), Ru M_M_ruled d Q 13 [some (.ref a0), some (.int a1), some (.int a2), a3] [.ref x0] τ = (isA 12 x0 ∧ Ru M_M_ruled d Q 16 [some (.ref a0), some (.int a1), some (.int a2), a3] [.ref (rtab x0 22)] τ)) ∧
    (∀ (a0 : Nat) (a1 : Int32) (a2 : Int32) (a3 : Option Value) (x0 : Nat) (τ : St), Ru M_M_ruled d Q 16 [some (.ref a0), some (.int a1), some (.int a2), a3] [.ref x0] τ = Ru M_M_ruled d Q 17 [some (.ref a0), some (.int a1), some (.int a2), a3] [.int a2, .ref x0] τ) ∧
    (∀ (a0 : Nat) (a1 : Int32) (a2 : Int32) (a3 : Option Value) (x0 : Int32) (x1 : Nat) (τ : St), Ru M_M_ruled d Q 17 [some (.ref a0), some (.int a1), some (.int a2), a3] [.int x0, .ref x1] τ = (isA 14 x1 ∧ vp_in x0 (len x1) ∧ Ru M_M_ruled d Q 18 [some (.ref a0), some (.int a1), some (.int a2), a3] [.int (τ.1 x1 x0.toNatClampNeg)] τ)) ∧
    (∀ (a0 : Nat) (a1 : Int32) (a2 : Int32) (a3 : Option Value) (x0 : Int32) (τ : St), Ru M_M_ruled d Q 18 [some (.ref a0), some (.int a1), some (.int a2), a3] [.int x0] τ = Ru M_M_ruled d Q 19 [some (.ref a0), some (.int a1), some (.int a2), some (.int x0)] [] τ) ∧
    (∀ (a0 : Nat) (a1 : Int32) (a2 : Int32) (a3 : Int32) (τ : St), Ru M_M_ruled d Q 19 [some (.ref a0), some (.int a1), some (.int a2), some (.int a3)] [] τ = Ru M_M_ruled d Q 20 [some (.ref a0), some (.int a1), some (.int a2), some (.int a3)] [.int a3] τ) ∧
    (∀ (a0 : Nat) (a1 : Int32) (a2 : Int32) (a3 : Int32) (x0 : Int32) (τ : St), Ru M_M_ruled d Q 20 [some (.ref a0), some (.int a1), some (.int a2), some (.int a3)] [.int x0] τ = Ru M_M_ruled d Q 23 [some (.ref a0), some (.int a1), some (.int a2), some (.int a3)] [.int 3000, .int x0] τ) ∧
    (∀ (a0 : Nat) (a1 : Int32) (a2 : Int32) (a3 : Int32) (x0 : Int32) (x1 : Int32) (τ : St), Ru M_M_ruled d Q 23 [some (.ref a0), some (.int a1), some (.int a2), some (.int a3)] [.int x0, .int x1] τ = ((¬ x1 = x0 → Ru M_M_ruled d Q 46 [some (.ref a0), some (.int a1), some (.int a2), some (.int a3)] [] τ) ∧ (x1 = x0 → Ru M_M_ruled d Q 26 [some (.ref a0), some (.int a1), some (.int a2), some (.int a3)] [] τ))) ∧
    (∀ (a0 : Nat) (a1 : Int32) (a2 : Int32) (a3 : Int32) (τ : St), Ru M_M_ruled d Q 26 [some (.ref a0), some (.int a1), some (.int a2), some (.int a3)] [] τ = Ru M_M_ruled d Q 27 [some (.ref a0), some (.int a1), some (.int a2), some (.int a3)] [.ref a0] τ) ∧
    (∀ (a0 : Nat) (a1 : Int32) (a2 : Int32) (a3 : Int32) (x0 : Nat) (τ : St), Ru M_M_ruled d Q 27 [some (.ref a0), some (.int a1), some (.int a2), some (.int a3)] [.ref x0] τ = (isA 12 x0 ∧ Ru M_M_ruled d Q 30 [some (.ref a0), some (.int a1), some (.int a2), some (.int a3)] [.ref (rtab x0 26)] τ)) ∧
    (∀ (a0 : Nat) (a1 : Int32) (a2 : Int32) (a3 : Int32) (x0 : Nat) (τ : St), Ru M_M_ruled d Q 30 [some (.ref a0), some (.int a1), some (.int a2), some (.int a3)] [.ref x0] τ = Ru M_M_ruled d Q 31 [some (.ref a0), some (.int a1), some (.int a2), some (.int a3)] [.int a1, .ref x0] τ) ∧
    (∀ (a0 : Nat) (a1 : Int32) (a2 : Int32) (a3 : Int32) (x0 : Int32) (x1 : Nat) (τ : St), Ru M_M_ruled d Q 31 [some (.ref a0), some (.int a1), some (.int a2), some (.int a3)] [.int x0, .ref x1] τ = Ru M_M_ruled d Q 32 [some (.ref a0), some (.int a1), some (.int a2), some (.int a3)] [.int 1, .int x0, .ref x1] τ) ∧
    (∀ (a0 : Nat) (a1 : Int32) (a2 : Int32) (a3 : Int32) (x0 : Int32) (x1 : Int32) (x2 : Nat) (τ : St), Ru M_M_ruled d Q 32 [some (.ref a0), some (.int a1), some (.int a2), some (.int a3)] [.int x0, .int x1, .ref x2] τ = Ru M_M_ruled d Q 33 [some (.ref a0), some (.int a1), some (.int a2), some (.int a3)] [.int (x1 - x0), .ref x2] τ) ∧
    (∀ (a0 : Nat) (a1 : Int32) (a2 : Int32) (a3 : Int32) (x0 : Int32) (x1 : Nat) (τ : St), Ru M_M_ruled d Q 33 [some (.ref a0), some (.int a1), some (.int a2), some (.int a3)] [.int x0, .ref x1] τ = Ru M_M_ruled d Q 34 [some (.ref a0), some (.int a1), some (.int a2), some (.int a3)] [.ref a0, .int x0, .ref x1] τ) ∧
    (∀ (a0 : Nat) (a1 : Int32) (a2 : Int32) (a3 : Int32) (x0 : Nat) (x1 : Int32) (x2 : Nat) (τ : St), Ru M_M_ruled d Q 34 [some (.ref a0), some (.int a1), some (.int a2), some (.int a3)] [.ref x0, .int x1, .ref x2] τ = (isA 12 x0 ∧ Ru M_M_ruled d Q 37 [some (.ref a0), some (.int a1), some (.int a2), some (.int a3)] [.ref (rtab x0 26), .int x1, .ref x2] τ)) ∧
    (∀ (a0 : Nat) (a1 : Int32) (a2 : Int32) (a3 : Int32) (x0 : Nat) (x1 : Int32) (x2 : Nat) (τ : St), Ru M_M_ruled d Q 37 [some (.ref a0), some (.int a1), some (.int a2), some (.int a3)] [.ref x0, .int x1, .ref x2] τ = Ru M_M_ruled d Q 38 [some (.ref a0), some (.int a1), some (.int a2), some (.int a3)] [.int a1, .ref x0, .int x1, .ref x2] τ) ∧
    (∀ (a0 : Nat) (a1 : Int32) (a2 : Int32) (a3 : Int32) (x0 : Int32) (x1 : Nat) (x2 : Int32) (x3 : Nat) (τ : St), Ru M_M_ruled d Q 38 [some (.ref a0), some (.int a1), some (.int a2), some (.int a3)] [.int x0, .ref x1, .int x2, .ref x3] τ = Ru M_M_ruled d Q 39 [some (.ref a0), some (.int a1), some (.int a2), some (.int a3)] [.int 1, .int x0, .ref x1, .int x2, .ref x3] τ) ∧
    (∀ (a0 : Nat) (a1 : Int32) (a2 : Int32) (a3 : Int32) (x0 : Int32) (x1 : Int32) (x2 : Nat) (x3 : Int32) (x4 : Nat) (τ : St), Ru M_M_ruled d Q 39 [some (.ref a0), some (.int a1), some (.int a2), some (.int a3)] [.int x0, .int x1, .ref x2, .int x3, .ref x4] τ = Ru M_M_ruled d Q 40 [some (.ref a0), some (.int a1), some (.int a2), some (.int a3)] [.int (x1 - x0), .ref x2, .int x3, .ref x4] τ) ∧
    (∀ (a0 : Nat) (a1 : Int32) (a2 : Int32) (a3 : Int32) (x0 : Int32) (x1 : Nat) (x2 : Int32) (x3 : Nat) (τ : St), Ru M_M_ruled d Q 40 [some (.ref a0), some (.int a1), some (.int a2), some (.int a3)] [.int x0, .ref x1, .int x2, .ref x3] τ = (isA 14 x1 ∧ vp_in x0 (len x1) ∧ Ru M_M_ruled d Q 41 [some (.ref a0), some (.int a1), some (.int a2), some (.int a3)] [.int (τ.1 x1 x0.toNatClampNeg), .int x2, .ref x3] τ)) ∧
    (∀ (a0 : Nat) (a1 : Int32) (a2 : Int32) (a3 : Int32) (x0 : Int32) (x1 : Int32) (x2 : Nat) (τ : St), Ru M_M_ruled d Q 41 [some (.ref a0), some (.int a1), some (.int a2), some (.int a3)] [.int x0, .int x1, .ref x2] τ = Ru M_M_ruled d Q 42 [some (.ref a0), some (.int a1), some (.int a2), some (.int a3)] [.int (-x0), .int x1, .ref x2] τ) ∧
    (∀ (a0 : Nat) (a1 : Int32) (a2 : Int32) (a3 : Int32) (x0 : Int32) (x1 : Int32) (x2 : Nat) (τ : St), Ru M_M_ruled d Q 42 [some (.ref a0), some (.int a1), some (.int a2), some (.int a3)] [.int x0, .int x1, .ref x2] τ = (isA 14 x2 ∧ vp_in x1 (len x2) ∧ Ru M_M_ruled d Q 43 [some (.ref a0), some (.int a1), some (.int a2), some (.int a3)] [] (sI τ x2 x1.toNatClampNeg (x0)))) ∧
    (∀ (a0 : Nat) (a1 : Int32) (a2 : Int32) (a3 : Int32) (τ : St), Ru M_M_ruled d Q 43 [some (.ref a0), some (.int a1), some (.int a2), some (.int a3)] [] τ = Ru M_M_ruled d Q 119 [some (.ref a0), some (.int a1), some (.int a2), some (.int a3)] [] τ) ∧
    (∀ (a0 : Nat) (a1 : Int32) (a2 : Int32) (a3 : Int32) (τ : St), Ru M_M_ruled d Q 46 [some (.ref a0), some (.int a1), some (.int a2), some (.int a3)] [] τ = Ru M_M_ruled d Q 47 [some (.ref a0), some (.int a1), some (.int a2), some (.int a3)] [.int a3] τ) ∧
    (∀ (a0 : Nat) (a1 : Int32) (a2 : Int32) (a3 : Int32) (x0 : Int32) (τ : St), Ru M_M_ruled d Q 47 [some (.ref a0), some (.int a1), some (.int a2), some (.int a3)] [.int x0] τ = Ru M_M_ruled d Q 50 [some (.ref a0), some (.int a1), some (.int a2), some (.int a3)] [.int 2000, .int x0] τ) ∧
    (∀ (a0 : Nat) (a1 : Int32) (a2 : Int32) (a3 : Int32) (x0 : Int32) (x1 : Int32) (τ : St), Ru M_M_ruled d Q 50 [some (.ref a0), some (.int a1), some (.int a2), some (.int a3)] [.int x0, .int x1] τ = ((x1 < x0 → Ru M_M_ruled d Q 89 [some (.ref a0), some (.int a1), some (.int a2), some (.int a3)] [] τ) ∧ (¬ x1 < x0 → Ru M_M_ruled d Q 53 [some (.ref a0), some (.int a1), some (.int a2), some (.int a3)] [] τ))) ∧
    (∀ (a0 : Nat) (a1 : Int32) (a2 : Int32) (a3 : Int32) (τ : St), Ru M_M_ruled d Q 53 [some (.ref a0), some (.int a1), some (.int a2), some (.int a3)] [] τ = Ru M_M_ruled d Q 56 [some (.ref a0), some (.int (a1 + (-1))), some (.int a2), some (.int a3)] [] τ) ∧
    (∀ (a0 : Nat) (a1 : Int32) (a2 : Int32) (a3 : Int32) (τ : St), Ru M_M_ruled d Q 56 [some (.ref a0), some (.int a1), some (.int a2), some (.int a3)] [] τ = Ru M_M_ruled d Q 57 [some (.ref a0), some (.int a1), some (.int a2), some (.int a3)] [.ref a0] τ) ∧
    (∀ (a0 : Nat) (a1 : Int32) (a2 : Int32) (a3 : Int32) (x0 : Nat) (τ : St), Ru M_M_ruled d Q 57 [some (.ref a0), some (.int a1), some (.int a2), some (.int a3)] [.ref x0] τ = (isA 12 x0 ∧ Ru M_M_ruled d Q 60 [some (.ref a0), some (.int a1), some (.int a2), some (.int a3)] [.ref (rtab x0 26)] τ)) ∧
    (∀ (a0 : Nat) (a1 : Int32) (a2 : Int32) (a3 : Int32) (x0 : Nat) (τ : St), Ru M_M_ruled d Q 60 [some (.ref a0), some (.int a1), some (.int a2), some (.int a3)] [.ref x0] τ = Ru M_M_ruled d Q 61 [some (.ref a0), some (.int a1), some (.int a2), some (.int a3)] [.int a1, .ref x0] τ) ∧
    (∀ (a0 : Nat) (a1 : Int32) (a2 : Int32) (a3 : Int32) (x0 : Int32) (x1 : Nat) (τ : St), Ru M_M_ruled d Q 61 [some (.ref a0), some (.int a1), some (.int a2), some (.int a3)] [.int x0, .ref x1] τ = Ru M_M_ruled d Q 62 [some (.ref a0), some (.int a1), some (.int a2), some (.int a3)] [.int 1, .int x0, .ref x1] τ) ∧
    (∀ (a0 : Nat) (a1 : Int32) (a2 : Int32) (a3 : Int32) (x0 : Int32) (x1 : Int32) (x2 : Nat) (τ : St), Ru M_M_ruled d Q 62 [some (.ref a0), some (.int a1), some (.int a2), some (.int a3)] [.int x0, .int x1, .ref x2] τ = Ru M_M_ruled d Q 63 [some (.ref a0), some (.int a1), some (.int a2), some (.int a3)] [.int (x1 - x0), .ref x2] τ) ∧
    (∀ (a0 : Nat) (a1 : Int32) (a2 : Int32) (a3 : Int32) (x0 : Int32) (x1 : Nat) (τ : St), Ru M_M_ruled d Q 63 [some (.ref a0), some (.int a1), some (.int a2), some (.int a3)] [.int x0, .ref x1] τ = Ru M_M_ruled d Q 64 [some (.ref a0), some (.int a1), some (.int a2), some (.int a3)] [.int a3, .int x0, .ref x1] τ) ∧
    (∀ (a0 : Nat) (a1 : Int32) (a2 : Int32) (a3 : Int32) (x0 : Int32) (x1 : Int32) (x2 : Nat) (τ : St), Ru M_M_ruled d Q 64 [some (.ref a0), some (.int a1), some (.int a2), some (.int a3)] [.int x0, .int x1, .ref x2] τ = Ru M_M_ruled d Q 67 [some (.ref a0), some (.int a1), some (.int a2), some (.int a3)] [.int 2000, .int x0, .int x1, .ref x2] τ) ∧
    (∀ (a0 : Nat) (a1 : Int32) (a2 : Int32) (a3 : Int32) (x0 : Int32) (x1 : Int32) (x2 : Int32) (x3 : Nat) (τ : St), Ru M_M_ruled d Q 67 [some (.ref a0), some (.int a1), some (.int a2), some (.int a3)] [.int x0, .int x1, .int x2, .ref x3] τ = Ru M_M_ruled d Q 68 [some (.ref a0), some (.int a1), some (.int a2), some (.int a3)] [.int (x1 - x0), .int x2, .ref x3] τ) ∧
    (∀ (a0 : Nat) (a1 : Int32) (a2 : Int32) (a3 : Int32) (x0 : Int32) (x1 : Int32) (x2 : Nat) (τ : St), Ru M_M_ruled d Q 68 [some (.ref a0), some (.int a1), some (.int a2), some (.int a3)] [.int x0, .int x1, .ref x2] τ = Ru M_M_ruled d Q 69 [some (.ref a0), some (.int a1), some (.int a2), some (.int a3)] [.ref a0, .int x0, .int x1, .ref x2] τ) ∧
    (∀ (a0 : Nat) (a1 : Int32) (a2 : Int32) (a3 : Int32) (x0 : Nat) (x1 : Int32) (x2 : Int32) (x3 : Nat) (τ : St), Ru M_M_ruled d Q 69 [some (.ref a0), some (.int a1), some (.int a2), some (.int a3)] [.ref x0, .int x1, .int x2, .ref x3] τ = (isA 12 x0 ∧ Ru M_M_ruled d Q 72 [some (.ref a0), some (.int a1), some (.int a2), some (.int a3)] [.ref (rtab x0 26), .int x1, .int x2, .ref x3] τ)) ∧
    (∀ (a0 : Nat) (a1 : Int32) (a2 : Int32) (a3 : Int32) (x0 : Nat) (x1 : Int32) (x2 : Int32) (x3 : Nat) (τ : St), Ru M_M_ruled d Q 72 [some (.ref a0), some (.int a1), some (.int a2), some (.int a3)] [.ref x0, .int x1, .int x2, .ref x3] τ = Ru M_M_ruled d Q 73 [some (.ref a0), some (.int a1), some (.int a2), some (.int a3)] [.int a1, .ref x0, .int x1, .int x2, .ref x3] τ) ∧
    (∀ (a0 : Nat) (a1 : Int32) (a2 : Int32) (a3 : Int32) (x0 : Int32) (x1 : Nat) (x2 : Int32) (x3 : Int32) (x4 : Nat) (τ : St), Ru M_M_ruled d Q 73 [some (.ref a0), some (.int a1), some (.int a2), some (.int a3)] [.int x0, .ref x1, .int x2, .int x3, .ref x4] τ = Ru M_M_ruled d Q 74 [some (.ref a0), some (.int a1), some (.int a2), some (.int a3)] [.int 1, .int x0, .ref x1, .int x2, .int x3, .ref x4] τ) ∧
    (∀ (a0 : Nat) (a1 : Int32) (a2 : Int32) (a3 : Int32) (x0 : Int32) (x1 : Int32) (x2 : Nat) (x3 : Int32) (x4 : Int32) (x5 : Nat) (τ : St), Ru M_M_ruled d Q 74 [some (.ref a0), some (.int a1), some (.int a2), some (.int a3)] [.int x0, .int x1, .ref x2, .int x3, .int x4, .ref x5] τ = Ru M_M_ruled d Q 75 [some (.ref a0), some (.int a1), some (.int a2), some (.int a3)] [.int (x1 - x0), .ref x2, .int x3, .int x4, .ref x5] τ) ∧
    (∀ (a0 : Nat) (a1 : Int32) (a2 : Int32) (a3 : Int32) (x0 : Int32) (x1 : Nat) (x2 : Int32) (x3 : Int32) (x4 : Nat) (τ : St), Ru M_M_ruled d Q 75 [some (.ref a0), some (.int a1), some (.int a2), some (.int a3)] [.int x0, .ref x1, .int x2, .int x3, .ref x4] τ = (isA 14 x1 ∧ vp_in x0 (len x1) ∧ Ru M_M_ruled d Q 76 [some (.ref a0), some (.int a1), some (.int a2), some (.int a3)] [.int (τ.1 x1 x0.toNatClampNeg), .int x2, .int x3, .ref x4] τ)) ∧
    (∀ (a0 : Nat) (a1 : Int32) (a2 : Int32) (a3 : Int32) (x0 : Int32) (x1 : Int32) (x2 : Int32) (x3 : Nat) (τ : St), Ru M_M_ruled d Q 76 [some (.ref a0), some (.int a1), some (.int a2), some (.int a3)] [.int x0, .int x1, .int x2, .ref x3] τ = Ru M_M_ruled d Q 77 [some (.ref a0), some (.int a1), some (.int a2), some (.int a3)] [.ref a0, .int x0, .int x1, .int x2, .ref x3] τ) ∧
    (∀ (a0 : Nat) (a1 : Int32) (a2 : Int32) (a3 : Int32) (x0 : Nat) (x1 : Int32) (x2 : Int32) (x3 : Int32) (x4 : Nat) (τ : St), Ru M_M_ruled d Q 77 [some (.ref a0), some (.int a1), some (.int a2), some (.int a3)] [.ref x0, .int x1, .int x2, .int x3, .ref x4] τ = (isA 12 x0 ∧ Ru M_M_ruled d Q 80 [some (.ref a0), some (.int a1), some (.int a2), some (.int a3)] [.ref (rtab x0 26), .int x1, .int x2, .int x3, .ref x4] τ)) ∧
    (∀ (a0 : Nat) (a1 : Int32) (a2 : Int32) (a3 : Int32) (x0 : Nat) (x1 : Int32) (x2 : Int32) (x3 : Int32) (x4 : Nat) (τ : St), Ru M_M_ruled d Q 80 [some (.ref a0), some (.int a1), some (.int a2), some (.int a3)] [.ref x0, .int x1, .int x2, .int x3, .ref x4] τ = Ru M_M_ruled d Q 81 [some (.ref a0), some (.int a1), some (.int a2), some (.int a3)] [.int a1, .ref x0, .int x1, .int x2, .int x3, .ref x4] τ) ∧
    (∀ (a0 : Nat) (a1 : Int32) (a2 : Int32) (a3 : Int32) (x0 : Int32) (x1 : Nat) (x2 : Int32) (x3 : Int32) (x4 : Int32) (x5 : Nat) (τ : St), Ru M_M_ruled d Q 81 [some (.ref a0), some (.int a1), some (.int a2), some (.int a3)] [.int x0, .ref x1, .int x2, .int x3, .int x4, .ref x5] τ = (isA 14 x1 ∧ vp_in x0 (len x1) ∧ Ru M_M_ruled d Q 82 [some (.ref a0), some (.int a1), some (.int a2), some (.int a3)] [.int (τ.1 x1 x0.toNatClampNeg), .int x2, .int x3, .int x4, .ref x5] τ)) ∧
    (∀ (a0 : Nat) (a1 : Int32) (a2 : Int32) (a3 : Int32) (x0 : Int32) (x1 : Int32) (x2 : Int32) (x3 : Int32) (x4 : Nat) (τ : St), Ru M_M_ruled d Q 82 [some (.ref a0), some (.int a1), some (.int a2), some (.int a3)] [.int x0, .int x1, .int x2, .int x3, .ref x4] τ = Cl d m_M_worked [.int x2, .int x1, .int x0] τ (fun v τ' => Ru M_M_ruled d Q 85 [some (.ref a0), some (.int a1), some (.int a2), some (.int a3)] (v.toList ++ [.int x3, .ref x4]) τ')) ∧
    (∀ (a0 : Nat) (a1 : Int32) (a2 : Int32) (a3 : Int32) (x0 : Int32) (x1 : Int32) (x2 : Nat) (τ : St), Ru M_M_ruled d Q 85 [some (.ref a0), some (.int a1), some (.int a2), some (.int a3)] [.int x0, .int x1, .ref x2] τ = (isA 14 x2 ∧ vp_in x1 (len x2) ∧ Ru M_M_ruled d Q 86 [some (.ref a0), some (.int a1), some (.int a2), some (.int a3)] [] (sI τ x2 x1.toNatClampNeg (x0)))) ∧
    (∀ (a0 : Nat) (a1 : Int32) (a2 : Int32) (a3 : Int32) (τ : St), Ru M_M_ruled d Q 86 [some (.ref a0), some (.int a1), some (.int a2), some (.int a3)] [] τ = Ru M_M_ruled d Q 119 [some (.ref a0), some (.int a1), some (.int a2), some (.int a3)] [] τ) ∧
    (∀ (a0 : Nat) (a1 : Int32) (a2 : Int32) (a3 : Int32) (τ : St), Ru M_M_ruled d Q 89 [some (.ref a0), some (.int a1), some (.int a2), some (.int a3)] [] τ = Ru M_M_ruled d Q 90 [some (.ref a0), some (.int a1), some (.int a2), some (.int a3)] [.ref a0] τ) ∧
    (∀ (a0 : Nat) (a1 : Int32) (a2 : Int32) (a3 : Int32) (x0 : Nat) (τ : St), Ru M_M_ruled d Q 90 [some (.ref a0), some (.int a1), some (.int a2), some (.int a3)] [.ref x0] τ = (isA 12 x0 ∧ Ru M_M_ruled d Q 93 [some (.ref a0), some (.int a1), some (.int a2), some (.int a3)] [.ref (rtab x0 26)] τ)) ∧
    (∀ (a0 : Nat) (a1 : Int32) (a2 : Int32) (a3 : Int32) (x0 : Nat) (τ : St), Ru M_M_ruled d Q 93 [some (.ref a0), some (.int a1), some (.int a2), some (.int a3)] [.ref x0] τ = Ru M_M_ruled d Q 94 [some (.ref a0), some (.int a1), some (.int a2), some (.int a3)] [.int a1, .ref x0] τ) ∧
    (∀ (a0 : Nat) (a1 : Int32) (a2 : Int32) (a3 : Int32) (x0 : Int32) (x1 : Nat) (τ : St), Ru M_M_ruled d Q 94 [some (.ref a0), some (.int a1), some (.int a2), some (.int a3)] [.int x0, .ref x1] τ = Ru M_M_ruled d Q 95 [some (.ref a0), some (.int a1), some (.int a2), some (.int a3)] [.int a3, .int x0, .ref x1] τ) ∧
    (∀ (a0 : Nat) (a1 : Int32) (a2 : Int32) (a3 : Int32) (x0 : Int32) (x1 : Int32) (x2 : Nat) (τ : St), Ru M_M_ruled d Q 95 [some (.ref a0), some (.int a1), some (.int a2), some (.int a3)] [.int x0, .int x1, .ref x2] τ = Ru M_M_ruled d Q 98 [some (.ref a0), some (.int a1), some (.int a2), some (.int a3)] [.int 1000, .int x0, .int x1, .ref x2] τ) ∧
    (∀ (a0 : Nat) (a1 : Int32) (a2 : Int32) (a3 : Int32) (x0 : Int32) (x1 : Int32) (x2 : Int32) (x3 : Nat) (τ : St), Ru M_M_ruled d Q 98 [some (.ref a0), some (.int a1), some (.int a2), some (.int a3)] [.int x0, .int x1, .int x2, .ref x3] τ = ((x1 < x0 → Ru M_M_ruled d Q 114 [some (.ref a0), some (.int a1), some (.int a2), some (.int a3)] [.int x2, .ref x3] τ) ∧ (¬ x1 < x0 → Ru M_M_ruled d Q 101 [some (.ref a0), some (.int a1), some (.int a2), some (.int a3)] [.int x2, .ref x3] τ))) ∧
    (∀ (a0 : Nat) (a1 : Int32) (a2 : Int32) (a3 : Int32) (x0 : Int32) (x1 : Nat) (τ : St), Ru M_M_ruled d Q 101 [some (.ref a0), some (.int a1), some (.int a2), some (.int a3)] [.int x0, .ref x1] τ = Ru M_M_ruled d Q 102 [some (.ref a0), some (.int a1), some (.int a2), some (.int a3)] [.ref a0, .int x0, .ref x1] τ) ∧
    (∀ (a0 : Nat) (a1 : Int32) (a2 : Int32) (a3 : Int32) (x0 : Nat) (x1 : Int32) (x2 : Nat) (τ : St), Ru M_M_ruled d Q 102 [some (.ref a0), some (.int a1), some (.int a2), some (.int a3)] [.ref x0, .int x1, .ref x2] τ = (isA 12 x0 ∧ Ru M_M_ruled d Q 105 [some (.ref a0), some (.int a1), some (.int a2), some (.int a3)] [.ref (rtab x0 27), .int x1, .ref x2] τ)) ∧
    (∀ (a0 : Nat) (a1 : Int32) (a2 : Int32) (a3 : Int32) (x0 : Nat) (x1 : Int32) (x2 : Nat) (τ : St), Ru M_M_ruled d Q 105 [some (.ref a0), some (.int a1), some (.int a2), some (.int a3)] [.ref x0, .int x1, .ref x2] τ = Ru M_M_ruled d Q 106 [some (.ref a0), some (.int a1), some (.int a2), some (.int a3)] [.int a3, .ref x0, .int x1, .ref x2] τ) ∧
    (∀ (a0 : Nat) (a1 : Int32) (a2 : Int32) (a3 : Int32) (x0 : Int32) (x1 : Nat) (x2 : Int32) (x3 : Nat) (τ : St), Ru M_M_ruled d Q 106 [some (.ref a0), some (.int a1), some (.int a2), some (.int a3)] [.int x0, .ref x1, .int x2, .ref x3] τ = Ru M_M_ruled d Q 109 [some (.ref a0), some (.int a1), some (.int a2), some (.int a3)] [.int 1000, .int x0, .ref x1, .int x2, .ref x3] τ) ∧
    (∀ (a0 : Nat) (a1 : Int32) (a2 : Int32) (a3 : Int32) (x0 : Int32) (x1 : Int32) (x2 : Nat) (x3 : Int32) (x4 : Nat) (τ : St), Ru M_M_ruled d Q 109 [some (.ref a0), some (.int a1), some (.int a2), some (.int a3)] [.int x0, .int x1, .ref x2, .int x3, .ref x4] τ = Ru M_M_ruled d Q 110 [some (.ref a0), some (.int a1), some (.int a2), some (.int a3)] [.int (x1 - x0), .ref x2, .int x3, .ref x4] τ) ∧
    (∀ (a0 : Nat) (a1 : Int32) (a2 : Int32) (a3 : Int32) (x0 : Int32) (x1 : Nat) (x2 : Int32) (x3 : Nat) (τ : St), Ru M_M_ruled d Q 110 [some (.ref a0), some (.int a1), some (.int a2), some (.int a3)] [.int x0, .ref x1, .int x2, .ref x3] τ = (isA 14 x1 ∧ vp_in x0 (len x1) ∧ Ru M_M_ruled d Q 111 [some (.ref a0), some (.int a1), some (.int a2), some (.int a3)] [.int (τ.1 x1 x0.toNatClampNeg), .int x2, .ref x3] τ)) ∧
    (∀ (a0 : Nat) (a1 : Int32) (a2 : Int32) (a3 : Int32) (x0 : Int32) (x1 : Int32) (x2 : Nat) (τ : St), Ru M_M_ruled d Q 111 [some (.ref a0), some (.int a1), some (.int a2), some (.int a3)] [.int x0, .int x1, .ref x2] τ = Ru M_M_ruled d Q 115 [some (.ref a0), some (.int a1), some (.int a2), some (.int a3)] [.int x0, .int x1, .ref x2] τ) ∧
    (∀ (a0 : Nat) (a1 : Int32) (a2 : Int32) (a3 : Int32) (x0 : Int32) (x1 : Nat) (τ : St), Ru M_M_ruled d Q 114 [some (.ref a0), some (.int a1), some (.int a2), some (.int a3)] [.int x0, .ref x1] τ = Ru M_M_ruled d Q 115 [some (.ref a0), some (.int a1), some (.int a2), some (.int a3)] [.int a3, .int x0, .ref x1] τ) ∧
    (∀ (a0 : Nat) (a1 : Int32) (a2 : Int32) (a3 : Int32) (x0 : Int32) (x1 : Int32) (x2 : Nat) (τ : St), Ru M_M_ruled d Q 115 [some (.ref a0), some (.int a1), some (.int a2), some (.int a3)] [.int x0, .int x1, .ref x2] τ = (isA 14 x2 ∧ vp_in x1 (len x2) ∧ Ru M_M_ruled d Q 116 [some (.ref a0), some (.int a1), some (.int a2), some (.int a3)] [] (sI τ x2 x1.toNatClampNeg (x0)))) ∧
    (∀ (a0 : Nat) (a1 : Int32) (a2 : Int32) (a3 : Int32) (τ : St), Ru M_M_ruled d Q 116 [some (.ref a0), some (.int a1), some (.int a2), some (.int a3)] [] τ = Ru M_M_ruled d Q 119 [some (.ref a0), some (.int (a1 + 1)), some (.int a2), some (.int a3)] [] τ) ∧
    (∀ (a0 : Nat) (a1 : Int32) (a2 : Int32) (a3 : Int32) (τ : St), Ru M_M_ruled d Q 119 [some (.ref a0), some (.int a1), some (.int a2), some (.int a3)] [] τ = Ru M_M_ruled d Q 122 [some (.ref a0), some (.int a1), some (.int (a2 + 1)), some (.int a3)] [] τ) ∧
    (∀ (a0 : Nat) (a1 : Int32) (a2 : Int32) (a3 : Int32) (τ : St), Ru M_M_ruled d Q 122 [some (.ref a0), some (.int a1), some (.int a2), some (.int a3)] [] τ = Rs M_M_ruled d Q 4 [some (.ref a0), some (.int a1), some (.int a2), some (.int a3)] [] τ) ∧
    (∀ (a0 : Nat) (a1 : Int32) (a2 : Int32) (a3 : Option Value) (τ : St), Ru M_M_ruled d Q 125 [some (.ref a0), some (.int a1), some (.int a2), a3] [] τ = Ru M_M_ruled d Q 126 [some (.ref a0), some (.int a1), some (.int a2), a3] [.ref a0] τ) ∧
    (∀ (a0 : Nat) (a1 : Int32) (a2 : Int32) (a3 : Option Value) (x0 : Nat) (τ : St), Ru M_M_ruled d Q 126 [some (.ref a0), some (.int a1), some (.int a2), a3] [.ref x0] τ = (isA 12 x0 ∧ Ru M_M_ruled d Q 129 [some (.ref a0), some (.int a1), some (.int a2), a3] [.int (τ.1 x0 24)] τ)) ∧
    (∀ (a0 : Nat) (a1 : Int32) (a2 : Int32) (a3 : Option Value) (x0 : Int32) (τ : St), Ru M_M_ruled d Q 129 [some (.ref a0), some (.int a1), some (.int a2), a3] [.int x0] τ = ((¬ x0 = 0 → Ru M_M_ruled d Q 163 [some (.ref a0), some (.int a1), some (.int a2), a3] [] τ) ∧ (x0 = 0 → Ru M_M_ruled d Q 132 [some (.ref a0), some (.int a1), some (.int a2), a3] [] τ))) ∧
    (∀ (a0 : Nat) (a1 : Int32) (a2 : Int32) (a3 : Option Value) (τ : St), Ru M_M_ruled d Q 132 [some (.ref a0), some (.int a1), some (.int a2), a3] [] τ = Ru M_M_ruled d Q 133 [some (.ref a0), some (.int a1), some (.int a2), a3] [.ref a0] τ) ∧
    (∀ (a0 : Nat) (a1 : Int32) (a2 : Int32) (a3 : Option Value) (x0 : Nat) (τ : St), Ru M_M_ruled d Q 133 [some (.ref a0), some (.int a1), some (.int a2), a3] [.ref x0] τ = (isA 12 x0 ∧ Ru M_M_ruled d Q 136 [some (.ref a0), some (.int a1), some (.int a2), a3] [.ref (rtab x0 27)] τ)) ∧
    (∀ (a0 : Nat) (a1 : Int32) (a2 : Int32) (a3 : Option Value) (x0 : Nat) (τ : St), Ru M_M_ruled d Q 136 [some (.ref a0), some (.int a1), some (.int a2), a3] [.ref x0] τ = Ru M_M_ruled d Q 137 [some (.ref a0), some (.int a1), some (.int a2), a3] [.int 0, .ref x0] τ) ∧
    (∀ (a0 : Nat) (a1 : Int32) (a2 : Int32) (a3 : Option Value) (x0 : Int32) (x1 : Nat) (τ : St), Ru M_M_ruled d Q 137 [some (.ref a0), some (.int a1), some (.int a2), a3] [.int x0, .ref x1] τ = (isA 14 x1 ∧ vp_in x0 (len x1) ∧ Ru M_M_ruled d Q 138 [some (.ref a0), some (.int a1), some (.int a2), a3] [.int (τ.1 x1 x0.toNatClampNeg)] τ)) ∧
    (∀ (a0 : Nat) (a1 : Int32) (a2 : Int32) (a3 : Option Value) (x0 : Int32) (τ : St), Ru M_M_ruled d Q 138 [some (.ref a0), some (.int a1), some (.int a2), a3] [.int x0] τ = Ru M_M_ruled d Q 139 [some (.ref a0), some (.int a1), some (.int a2), a3] [.int 1, .int x0] τ) ∧
    (∀ (a0 : Nat) (a1 : Int32) (a2 : Int32) (a3 : Option Value) (x0 : Int32) (x1 : Int32) (τ : St), Ru M_M_ruled d Q 139 [some (.ref a0), some (.int a1), some (.int a2), a3] [.int x0, .int x1] τ = Ru M_M_ruled d Q 140 [some (.ref a0), some (.int a1), some (.int a2), a3] [.ref a0, .int x0, .int x1] τ) ∧
    (∀ (a0 : Nat) (a1 : Int32) (a2 : Int32) (a3 : Option Value) (x0 : Nat) (x1 : Int32) (x2 : Int32) (τ : St), Ru M_M_ruled d Q 140 [some (.ref a0), some (.int a1), some (.int a2), a3] [.ref x0, .int x1, .int x2] τ = (isA 12 x0 ∧ Ru M_M_ruled d Q 143 [some (.ref a0), some (.int a1), some (.int a2), a3] [.ref (rtab x0 27), .int x1, .int x2] τ)) ∧
    (∀ (a0 : Nat) (a1 : Int32) (a2 : Int32) (a3 : Option Value) (x0 : Nat) (x1 : Int32) (x2 : Int32) (τ : St), Ru M_M_ruled d Q 143 [some (.ref a0), some (.int a1), some (.int a2), a3] [.ref x0, .int x1, .int x2] τ = Ru M_M_ruled d Q 144 [some (.ref a0), some (.int a1), some (.int a2), a3] [.int 1, .ref x0, .int x1, .int x2] τ) ∧
    (∀ (a0 : Nat) (a1 : Int32) (a2 : Int32) (a3 : Option Value) (x0 : Int32) (x1 : Nat) (x2 : Int32) (x3 : Int32) (τ : St), Ru M_M_ruled d Q 144 [some (.ref a0), some (.int a1), some (.int a2), a3] [.int x0, .ref x1, .int x2, .int x3] τ = (isA 14 x1 ∧ vp_in x0 (len x1) ∧ Ru M_M_ruled d Q 145 [some (.ref a0), some (.int a1), some (.int a2), a3] [.int (τ.1 x1 x0.toNatClampNeg), .int x2, .int x3] τ)) ∧
    (∀ (a0 : Nat) (a1 : Int32) (a2 : Int32) (a3 : Option Value) (x0 : Int32) (x1 : Int32) (x2 : Int32) (τ : St), Ru M_M_ruled d Q 145 [some (.ref a0), some (.int a1), some (.int a2), a3] [.int x0, .int x1, .int x2] τ = Ru M_M_ruled d Q 146 [some (.ref a0), some (.int a1), some (.int a2), a3] [.int (x1 + x0), .int x2] τ) ∧
    (∀ (a0 : Nat) (a1 : Int32) (a2 : Int32) (a3 : Option Value) (x0 : Int32) (x1 : Int32) (τ : St), Ru M_M_ruled d Q 146 [some (.ref a0), some (.int a1), some (.int a2), a3] [.int x0, .int x1] τ = Ru M_M_ruled d Q 147 [some (.ref a0), some (.int a1), some (.int a2), a3] [.int (x1 * x0)] τ) ∧
    (∀ (a0 : Nat) (a1 : Int32) (a2 : Int32) (a3 : Option Value) (x0 : Int32) (τ : St), Ru M_M_ruled d Q 147 [some (.ref a0), some (.int a1), some (.int a2), a3] [.int x0] τ = Ru M_M_ruled d Q 148 [some (.ref a0), some (.int a1), some (.int a2), a3] [.int 1, .int x0] τ) ∧
    (∀ (a0 : Nat) (a1 : Int32) (a2 : Int32) (a3 : Option Value) (x0 : Int32) (x1 : Int32) (τ : St), Ru M_M_ruled d Q 148 [some (.ref a0), some (.int a1), some (.int a2), a3] [.int x0, .int x1] τ = Ru M_M_ruled d Q 149 [some (.ref a0), some (.int a1), some (.int a2), a3] [.int 2, .int x0, .int x1] τ) ∧
    (∀ (a0 : Nat) (a1 : Int32) (a2 : Int32) (a3 : Option Value) (x0 : Int32) (x1 : Int32) (x2 : Int32) (τ : St), Ru M_M_ruled d Q 149 [some (.ref a0), some (.int a1), some (.int a2), a3] [.int x0, .int x1, .int x2] τ = Ru M_M_ruled d Q 150 [some (.ref a0), some (.int a1), some (.int a2), a3] [.ref a0, .int x0, .int x1, .int x2] τ) ∧
    (∀ (a0 : Nat) (a1 : Int32) (a2 : Int32) (a3 : Option Value) (x0 : Nat) (x1 : Int32) (x2 : Int32) (x3 : Int32) (τ : St), Ru M_M_ruled d Q 150 [some (.ref a0), some (.int a1), some (.int a2), a3] [.ref x0, .int x1, .int x2, .int x3] τ = (isA 12 x0 ∧ Ru M_M_ruled d Q 153 [some (.ref a0), some (.int a1), some (.int a2), a3] [.ref (rtab x0 27), .int x1, .int x2, .int x3] τ)) ∧
    (∀ (a0 : Nat) (a1 : Int32) (a2 : Int32) (a3 : Option Value) (x0 : Nat) (x1 : Int32) (x2 : Int32) (x3 : Int32) (τ : St), Ru M_M_ruled d Q 153 [some (.ref a0), some (.int a1), some (.int a2), a3] [.ref x0, .int x1, .int x2, .int x3] τ = Ru M_M_ruled d Q 154 [some (.ref a0), some (.int a1), some (.int a2), a3] [.int 3, .ref x0, .int x1, .int x2, .int x3] τ) ∧
    (∀ (a0 : Nat) (a1 : Int32) (a2 : Int32) (a3 : Option Value) (x0 : Int32) (x1 : Nat) (x2 : Int32) (x3 : Int32) (x4 : Int32) (τ : St), Ru M_M_ruled d Q 154 [some (.ref a0), some (.int a1), some (.int a2), a3] [.int x0, .ref x1, .int x2, .int x3, .int x4] τ = (isA 14 x1 ∧ vp_in x0 (len x1) ∧ Ru M_M_ruled d Q 155 [some (.ref a0), some (.int a1), some (.int a2), a3] [.int (τ.1 x1 x0.toNatClampNeg), .int x2, .int x3, .int x4] τ)) ∧
    (∀ (a0 : Nat) (a1 : Int32) (a2 : Int32) (a3 : Option Value) (x0 : Int32) (x1 : Int32) (x2 : Int32) (x3 : Int32) (τ : St), Ru M_M_ruled d Q 155 [some (.ref a0), some (.int a1), some (.int a2), a3] [.int x0, .int x1, .int x2, .int x3] τ = Ru M_M_ruled d Q 156 [some (.ref a0), some (.int a1), some (.int a2), a3] [.int (x1 * x0), .int x2, .int x3] τ) ∧
    (∀ (a0 : Nat) (a1 : Int32) (a2 : Int32) (a3 : Option Value) (x0 : Int32) (x1 : Int32) (x2 : Int32) (τ : St), Ru M_M_ruled d Q 156 [some (.ref a0), some (.int a1), some (.int a2), a3] [.int x0, .int x1, .int x2] τ = Ru M_M_ruled d Q 157 [some (.ref a0), some (.int a1), some (.int a2), a3] [.int (x1 + x0), .int x2] τ) ∧
    (∀ (a0 : Nat) (a1 : Int32) (a2 : Int32) (a3 : Option Value) (x0 : Int32) (x1 : Int32) (τ : St), Ru M_M_ruled d Q 157 [some (.ref a0), some (.int a1), some (.int a2), a3] [.int x0, .int x1] τ = (¬ x0 = 0 ∧ Ru M_M_ruled d Q 158 [some (.ref a0), some (.int a1), some (.int a2), a3] [.int (x1 / x0)] τ)) ∧
    (∀ (a0 : Nat) (a1 : Int32) (a2 : Int32) (a3 : Option Value) (x0 : Int32) (τ : St), Ru M_M_ruled d Q 158 [some (.ref a0), some (.int a1), some (.int a2), a3] [.int x0] τ = Ru M_M_ruled d Q 159 [some (.ref a0), some (.int a1), some (.int a2), a3] [.int 1, .int x0] τ) ∧
    (∀ (a0 : Nat) (a1 : Int32) (a2 : Int32) (a3 : Option Value) (x0 : Int32) (x1 : Int32) (τ : St), Ru M_M_ruled d Q 159 [some (.ref a0), some (.int a1), some (.int a2), a3] [.int x0, .int x1] τ = Ru M_M_ruled d Q 160 [some (.ref a0), some (.int a1), some (.int a2), a3] [.int (x1 + x0)] τ) ∧
    (∀ (a0 : Nat) (a1 : Int32) (a2 : Int32) (a3 : Option Value) (x0 : Int32) (τ : St), Ru M_M_ruled d Q 160 [some (.ref a0), some (.int a1), some (.int a2), a3] [.int x0] τ = Ru M_M_ruled d Q 169 [some (.ref a0), some (.int a1), some (.int a2), a3] [.int x0] τ) ∧
    (∀ (a0 : Nat) (a1 : Int32) (a2 : Int32) (a3 : Option Value) (τ : St), Ru M_M_ruled d Q 163 [some (.ref a0), some (.int a1), some (.int a2), a3] [] τ = Ru M_M_ruled d Q 164 [some (.ref a0), some (.int a1), some (.int a2), a3] [.ref a0] τ) ∧
    (∀ (a0 : Nat) (a1 : Int32) (a2 : Int32) (a3 : Option Value) (x0 : Nat) (τ : St), Ru M_M_ruled d Q 164 [some (.ref a0), some (.int a1), some (.int a2), a3] [.ref x0] τ = (isA 12 x0 ∧ Ru M_M_ruled d Q 167 [some (.ref a0), some (.int a1), some (.int a2), a3] [.ref (rtab x0 26)] τ)) ∧
    (∀ (a0 : Nat) (a1 : Int32) (a2 : Int32) (a3 : Option Value) (x0 : Nat) (τ : St), Ru M_M_ruled d Q 167 [some (.ref a0), some (.int a1), some (.int a2), a3] [.ref x0] τ = Ru M_M_ruled d Q 168 [some (.ref a0), some (.int a1), some (.int a2), a3] [.int 0, .ref x0] τ) ∧
    (∀ (a0 : Nat) (a1 : Int32) (a2 : Int32) (a3 : Option Value) (x0 : Int32) (x1 : Nat) (τ : St), Ru M_M_ruled d Q 168 [some (.ref a0), some (.int a1), some (.int a2), a3] [.int x0, .ref x1] τ = (isA 14 x1 ∧ vp_in x0 (len x1) ∧ Ru M_M_ruled d Q 169 [some (.ref a0), some (.int a1), some (.int a2), a3] [.int (τ.1 x1 x0.toNatClampNeg)] τ)) ∧
    (∀ (a0 : Nat) (a1 : Int32) (a2 : Int32) (a3 : Option Value) (x0 : Int32) (τ : St), Ru M_M_ruled d Q 169 [some (.ref a0), some (.int a1), some (.int a2), a3] [.int x0] τ = Q (some (.int x0)) τ) := ⟨
  fun _ _ => (R_at ok_M_ruled rfl).trans e_push,
  fun _ _ _ => (R_at ok_M_ruled rfl).trans e_ist,
  fun _ _ _ => (R_at ok_M_ruled rfl).trans e_push,
  fun _ _ _ _ => (R_at ok_M_ruled rfl).trans e_ist,
  fun _ _ _ _ _ => (R_at ok_M_ruled rfl).trans (e_ild rfl),
  fun _ _ _ _ _ _ => (R_at ok_M_ruled rfl).trans (e_ald rfl),
  fun _ _ _ _ _ _ _ => (R_at ok_M_ruled rfl).trans e_gI,
  fun _ _ _ _ _ _ _ => (R_at ok_M_ruled rfl).trans e_ic,
  fun _ _ _ _ _ => (R_at ok_M_ruled rfl).trans (e_ald rfl),
  fun _ _ _ _ _ _ => (R_at ok_M_ruled rfl).trans e_gR,
  fun _ _ _ _ _ _ => (R_at ok_M_ruled rfl).trans (e_ild rfl),
  fun _ _ _ _ _ _ _ => (R_at ok_M_ruled rfl).trans e_al,
  fun _ _ _ _ _ _ => (R_at ok_M_ruled rfl).trans e_ist,
  fun _ _ _ _ _ => (R_at ok_M_ruled rfl).trans (e_ild rfl),
  fun _ _ _ _ _ _ => (R_at ok_M_ruled rfl).trans e_push,
  fun _ _ _ _ _ _ _ => (R_at ok_M_ruled rfl).trans e_icn,
  fun _ _ _ _ _ => (R_at ok_M_ruled rfl).trans (e_ald rfl),
  fun _ _ _ _ _ _ => (R_at ok_M_ruled rfl).trans e_gR,
  fun _ _ _ _ _ _ => (R_at ok_M_ruled rfl).trans (e_ild rfl),
  fun _ _ _ _ _ _ _ => (R_at ok_M_ruled rfl).trans e_push,
  fun _ _ _ _ _ _ _ _ => (R_at ok_M_ruled rfl).trans e_bin,
  fun _ _ _ _ _ _ _ => (R_at ok_M_ruled rfl).trans (e_ald rfl),
  fun _ _ _ _ _ _ _ _ => (R_at ok_M_ruled rfl).trans e_gR,
  fun _ _ _ _ _ _ _ _ => (R_at ok_M_ruled rfl).trans (e_ild rfl),
  fun _ _ _ _ _ _ _ _ _ => (R_at ok_M_ruled rfl).trans e_push,
  fun _ _ _ _ _ _ _ _ _ _ => (R_at ok_M_ruled rfl).trans e_bin,
  fun _ _ _ _ _ _ _ _ _ => (R_at ok_M_ruled rfl).trans e_al,
  fun _ _ _ _ _ _ _ _ => (R_at ok_M_ruled rfl).trans e_un,
  fun _ _ _ _ _ _ _ _ => (R_at ok_M_ruled rfl).trans e_as,
  fun _ _ _ _ _ => (R_at ok_M_ruled rfl).trans e_goto,
  fun _ _ _ _ _ => (R_at ok_M_ruled rfl).trans (e_ild rfl),
  fun _ _ _ _ _ _ => (R_at ok_M_ruled rfl).trans e_push,
  fun _ _ _ _ _ _ _ => (R_at ok_M_ruled rfl).trans e_ic,
  fun _ _ _ _ _ => (R_at ok_M_ruled rfl).trans (e_iinc rfl),
  fun _ _ _ _ _ => (R_at ok_M_ruled rfl).trans (e_ald rfl),
  fun _ _ _ _ _ _ => (R_at ok_M_ruled rfl).trans e_gR,
  fun _ _ _ _ _ _ => (R_at ok_M_ruled rfl).trans (e_ild rfl),
  fun _ _ _ _ _ _ _ => (R_at ok_M_ruled rfl).trans e_push,
  fun _ _ _ _ _ _ _ _ => (R_at ok_M_ruled rfl).trans e_bin,
  fun _ _ _ _ _ _ _ => (R_at ok_M_ruled rfl).trans (e_ild rfl),
  fun _ _ _ _ _ _ _ _ => (R_at ok_M_ruled rfl).trans e_push,
  fun _ _ _ _ _ _ _ _ _ => (R_at ok_M_ruled rfl).trans e_bin,
  fun _ _ _ _ _ _ _ _ => (R_at ok_M_ruled rfl).trans (e_ald rfl),
  fun _ _ _ _ _ _ _ _ _ => (R_at ok_M_ruled rfl).trans e_gR,
  fun _ _ _ _ _ _ _ _ _ => (R_at ok_M_ruled rfl).trans (e_ild rfl),
  fun _ _ _ _ _ _ _ _ _ _ => (R_at ok_M_ruled rfl).trans e_push,
  fun _ _ _ _ _ _ _ _ _ _ _ => (R_at ok_M_ruled rfl).trans e_bin,
  fun _ _ _ _ _ _ _ _ _ _ => (R_at ok_M_ruled rfl).trans e_al,
  fun _ _ _ _ _ _ _ _ _ => (R_at ok_M_ruled rfl).trans (e_ald rfl),
  fun _ _ _ _ _ _ _ _ _ _ => (R_at ok_M_ruled rfl).trans e_gR,
  fun _ _ _ _ _ _ _ _ _ _ => (R_at ok_M_ruled rfl).trans (e_ild rfl),
  fun _ _ _ _ _ _ _ _ _ _ _ => (R_at ok_M_ruled rfl).trans e_al,
  fun _ _ _ _ x0 x1 x2 _ _ _ => (R_at ok_M_ruled rfl).trans (e_cs [.int x2, .int x1, .int x0] rfl rfl rfl),
  fun _ _ _ _ _ _ _ _ => (R_at ok_M_ruled rfl).trans e_as,
  fun _ _ _ _ _ => (R_at ok_M_ruled rfl).trans e_goto,
  fun _ _ _ _ _ => (R_at ok_M_ruled rfl).trans (e_ald rfl),
  fun _ _ _ _ _ _ => (R_at ok_M_ruled rfl).trans e_gR,
  fun _ _ _ _ _ _ => (R_at ok_M_ruled rfl).trans (e_ild rfl),
  fun _ _ _ _ _ _ _ => (R_at ok_M_ruled rfl).trans (e_ild rfl),
  fun _ _ _ _ _ _ _ _ => (R_at ok_M_ruled rfl).trans e_push,
  fun _ _ _ _ _ _ _ _ _ => (R_at ok_M_ruled rfl).trans e_ic,
  fun _ _ _ _ _ _ _ => (R_at ok_M_ruled rfl).trans (e_ald rfl),
  fun _ _ _ _ _ _ _ _ => (R_at ok_M_ruled rfl).trans e_gR,
  fun _ _ _ _ _ _ _ _ => (R_at ok_M_ruled rfl).trans (e_ild rfl),
  fun _ _ _ _ _ _ _ _ _ => (R_at ok_M_ruled rfl).trans e_push,
  fun _ _ _ _ _ _ _ _ _ _ => (R_at ok_M_ruled rfl).trans e_bin,
  fun _ _ _ _ _ _ _ _ _ => (R_at ok_M_ruled rfl).trans e_al,
  fun _ _ _ _ _ _ _ _ => (R_at ok_M_ruled rfl).trans e_goto,
  fun _ _ _ _ _ _ _ => (R_at ok_M_ruled rfl).trans (e_ild rfl),
  fun _ _ _ _ _ _ _ _ => (R_at ok_M_ruled rfl).trans e_as,
  fun _ _ _ _ _ => (R_at ok_M_ruled rfl).trans (e_iinc rfl),
  fun _ _ _ _ _ => (R_at ok_M_ruled rfl).trans (e_iinc rfl),
  fun _ _ _ _ _ => (R_at ok_M_ruled rfl).trans e_goto,
  fun _ _ _ _ _ => (R_at ok_M_ruled rfl).trans (e_ald rfl),
  fun _ _ _ _ _ _ => (R_at ok_M_ruled rfl).trans e_gI,
  fun _ _ _ _ _ _ => (R_at ok_M_ruled rfl).trans e_ifn,
  fun _ _ _ _ _ => (R_at ok_M_ruled rfl).trans (e_ald rfl),
  fun _ _ _ _ _ _ => (R_at ok_M_ruled rfl).trans e_gR,
  fun _ _ _ _ _ _ => (R_at ok_M_ruled rfl).trans e_push,
  fun _ _ _ _ _ _ _ => (R_at ok_M_ruled rfl).trans e_al,
  fun _ _ _ _ _ _ => (R_at ok_M_ruled rfl).trans e_push,
  fun _ _ _ _ _ _ _ => (R_at ok_M_ruled rfl).trans (e_ald rfl),
  fun _ _ _ _ _ _ _ _ => (R_at ok_M_ruled rfl).trans e_gR,
  fun _ _ _ _ _ _ _ _ => (R_at ok_M_ruled rfl).trans e_push,
  fun _ _ _ _ _ _ _ _ _ => (R_at ok_M_ruled rfl).trans e_al,
  fun _ _ _ _ _ _ _ _ => (R_at ok_M_ruled rfl).trans e_bin,
  fun _ _ _ _ _ _ _ => (R_at ok_M_ruled rfl).trans e_bin,
  fun _ _ _ _ _ _ => (R_at ok_M_ruled rfl).trans e_push,
  fun _ _ _ _ _ _ _ => (R_at ok_M_ruled rfl).trans e_push,
  fun _ _ _ _ _ _ _ _ => (R_at ok_M_ruled rfl).trans (e_ald rfl),
  fun _ _ _ _ _ _ _ _ _ => (R_at ok_M_ruled rfl).trans e_gR,
  fun _ _ _ _ _ _ _ _ _ => (R_at ok_M_ruled rfl).trans e_push,
  fun _ _ _ _ _ _ _ _ _ _ => (R_at ok_M_ruled rfl).trans e_al,
  fun _ _ _ _ _ _ _ _ _ => (R_at ok_M_ruled rfl).trans e_bin,
  fun _ _ _ _ _ _ _ _ => (R_at ok_M_ruled rfl).trans e_bin,
  fun _ _ _ _ _ _ _ => (R_at ok_M_ruled rfl).trans e_binz,
  fun _ _ _ _ _ _ => (R_at ok_M_ruled rfl).trans e_push,
  fun _ _ _ _ _ _ _ => (R_at ok_M_ruled rfl).trans e_bin,
  fun _ _ _ _ _ _ => (R_at ok_M_ruled rfl).trans e_goto,
  fun _ _ _ _ _ => (R_at ok_M_ruled rfl).trans (e_ald rfl),
  fun _ _ _ _ _ _ => (R_at ok_M_ruled rfl).trans e_gR,
  fun _ _ _ _ _ _ => (R_at ok_M_ruled rfl).trans e_push,
  fun _ _ _ _ _ _ _ => (R_at ok_M_ruled rfl).trans e_al,
  fun _ _ _ _ _ _ => (R_at ok_M_ruled rfl).trans e_iret⟩
set_option maxHeartbeats 4000000 in
theorem N_M_pullOf (d : Nat) (Q : Qt) : ∀ (x0 : Nat) (x1 : Nat) (x2 : Int32) (x3 : Int32) (x4 : Int32) (x5 : Int32) (x6 : Int32) (τ : St), Cl (d + 1) m_M_pullOf [.ref x0, .ref x1, .int x2, .int x3, .int x4, .int x5, .int x6] τ Q = Ru M_M_pullOf d Q 0 [some (.ref x0), some (.ref x1), some (.int x2), some (.int x3), some (.int x4), some (.int x5), some (.int x6), none] [] τ := fun _ _ _ _ _ _ _ _ => propext ⟨fun h => h.2, fun h => ⟨Nat.le_of_ble_eq_true rfl, h⟩⟩
set_option maxHeartbeats 4000000 in
theorem E_M_pullOf (d : Nat) (Q : Qt) :
    (∀ (a0 : Nat) (a1 : Nat) (a2 : Int32) (a3 : Int32) (a4 : Int32) (a5 : Int32) (a6 : Int32) (τ : St), Ru M_M_pullOf d Q 0 [some (.ref a0), some (.ref a1), some (.int a2), some (.int a3), some (.int a4), some (.int a5), some (.int a6), none] [] τ = Ru M_M_pullOf d Q 1 [some (.ref a0), some (.ref a1), some (.int a2), some (.int a3), some (.int a4), some (.int a5), some (.int a6), none] [.ref a0] τ) ∧
    (∀ (a0 : Nat) (a1 : Nat) (a2 : Int32) (a3 : Int32) (a4 : Int32) (a5 : Int32) (a6 : Int32) (x0 : Nat) (τ : St), Ru M_M_pullOf d Q 1 [some (.ref a0), some (.ref a1), some (.int a2), some (.int a3), some (.int a4), some (.int a5), some (.int a6), none] [.ref x0] τ = (isA 12 x0 ∧ Ru M_M_pullOf d Q 4 [some (.ref a0), some (.ref a1), some (.int a2), some (.int a3), some (.int a4), some (.int a5), some (.int a6), none] [.ref (rtab x0 27)] τ)) ∧
    (∀ (a0 : Nat) (a1 : Nat) (a2 : Int32) (a3 : Int32) (a4 : Int32) (a5 : Int32) (a6 : Int32) (x0 : Nat) (τ : St), Ru M_M_pullOf d Q 4 [some (.ref a0), some (.ref a1), some (.int a2), some (.int a3), some (.int a4), some (.int a5), some (.int a6), none] [.ref x0] τ = Ru M_M_pullOf d Q 5 [some (.ref a0), some (.ref a1), some (.int a2), some (.int a3), some (.int a4), some (.int a5), some (.int a6), none] [.int 0, .ref x0] τ) ∧
    (∀ (a0 : Nat) (a1 : Nat) (a2 : Int32) (a3 : Int32) (a4 : Int32) (a5 : Int32) (a6 : Int32) (x0 : Int32) (x1 : Nat) (τ : St), Ru M_M_pullOf d Q 5 [some (.ref a0), some (.ref a1), some (.int a2), some (.int a3), some (.int a4), some (.int a5), some (.int a6), none] [.int x0, .ref x1] τ = Ru M_M_pullOf d Q 6 [some (.ref a0), some (.ref a1), some (.int a2), some (.int a3), some (.int a4), some (.int a5), some (.int a6), none] [.int a2, .int x0, .ref x1] τ) ∧
    (∀ (a0 : Nat) (a1 : Nat) (a2 : Int32) (a3 : Int32) (a4 : Int32) (a5 : Int32) (a6 : Int32) (x0 : Int32) (x1 : Int32) (x2 : Nat) (τ : St), Ru M_M_pullOf d Q 6 [some (.ref a0), some (.ref a1), some (.int a2), some (.int a3), some (.int a4), some (.int a5), some (.int a6), none] [.int x0, .int x1, .ref x2] τ = (isA 14 x2 ∧ vp_in x1 (len x2) ∧ Ru M_M_pullOf d Q 7 [some (.ref a0), some (.ref a1), some (.int a2), some (.int a3), some (.int a4), some (.int a5), some (.int a6), none] [] (sI τ x2 x1.toNatClampNeg (x0)))) ∧
    (∀ (a0 : Nat) (a1 : Nat) (a2 : Int32) (a3 : Int32) (a4 : Int32) (a5 : Int32) (a6 : Int32) (τ : St), Ru M_M_pullOf d Q 7 [some (.ref a0), some (.ref a1), some (.int a2), some (.int a3), some (.int a4), some (.int a5), some (.int a6), none] [] τ = Ru M_M_pullOf d Q 8 [some (.ref a0), some (.ref a1), some (.int a2), some (.int a3), some (.int a4), some (.int a5), some (.int a6), none] [.ref a0] τ) ∧
    (∀ (a0 : Nat) (a1 : Nat) (a2 : Int32) (a3 : Int32) (a4 : Int32) (a5 : Int32) (a6 : Int32) (x0 : Nat) (τ : St), Ru M_M_pullOf d Q 8 [some (.ref a0), some (.ref a1), some (.int a2), some (.int a3), some (.int a4), some (.int a5), some (.int a6), none] [.ref x0] τ = (isA 12 x0 ∧ Ru M_M_pullOf d Q 11 [some (.ref a0), some (.ref a1), some (.int a2), some (.int a3), some (.int a4), some (.int a5), some (.int a6), none] [.ref (rtab x0 27)] τ)) ∧
    (∀ (a0 : Nat) (a1 : Nat) (a2 : Int32) (a3 : Int32) (a4 : Int32) (a5 : Int32) (a6 : Int32) (x0 : Nat) (τ : St), Ru M_M_pullOf d Q 11 [some (.ref a0), some (.ref a1), some (.int a2), some (.int a3), some (.int a4), some (.int a5), some (.int a6), none] [.ref x0] τ = Ru M_M_pullOf d Q 12 [some (.ref a0), some (.ref a1), some (.int a2), some (.int a3), some (.int a4), some (.int a5), some (.int a6), none] [.int 1, .ref x0] τ) ∧
    (∀ (a0 : Nat) (a1 : Nat) (a2 : Int32) (a3 : Int32) (a4 : Int32) (a5 : Int32) (a6 : Int32) (x0 : Int32) (x1 : Nat) (τ : St), Ru M_M_pullOf d Q 12 [some (.ref a0), some (.ref a1), some (.int a2), some (.int a3), some (.int a4), some (.int a5), some (.int a6), none] [.int x0, .ref x1] τ = Ru M_M_pullOf d Q 13 [some (.ref a0), some (.ref a1), some (.int a2), some (.int a3), some (.int a4), some (.int a5), some (.int a6), none] [.int 0, .int x0, .ref x1] τ) ∧
    (∀ (a0 : Nat) (a1 : Nat) (a2 : Int32) (a3 : Int32) (a4 : Int32) (a5 : Int32) (a6 : Int32) (x0 : Int32) (x1 : Int32) (x2 : Nat) (τ : St), Ru M_M_pullOf d Q 13 [some (.ref a0), some (.ref a1), some (.int a2), some (.int a3), some (.int a4), some (.int a5), some (.int a6), none] [.int x0, .int x1, .ref x2] τ = Ru M_M_pullOf d Q 14 [some (.ref a0), some (.ref a1), some (.int a2), some (.int a3), some (.int a4), some (.int a5), some (.int a6), none] [.ref a0, .int x0, .int x1, .ref x2] τ) ∧
    (∀ (a0 : Nat) (a1 : Nat) (a2 : Int32) (a3 : Int32) (a4 : Int32) (a5 : Int32) (a6 : Int32) (x0 : Nat) (x1 : Int32) (x2 : Int32) (x3 : Nat) (τ : St), Ru M_M_pullOf d Q 14 [some (.ref a0), some (.ref a1), some (.int a2), some (.int a3), some (.int a4), some (.int a5), some (.int a6), none] [.ref x0, .int x1, .int x2, .ref x3] τ = (isA 12 x0 ∧ Ru M_M_pullOf d Q 17 [some (.ref a0), some (.ref a1), some (.int a2), some (.int a3), some (.int a4), some (.int a5), some (.int a6), none] [.ref (rtab x0 8), .int x1, .int x2, .ref x3] τ)) ∧
    (∀ (a0 : Nat) (a1 : Nat) (a2 : Int32) (a3 : Int32) (a4 : Int32) (a5 : Int32) (a6 : Int32) (x0 : Nat) (x1 : Int32) (x2 : Int32) (x3 : Nat) (τ : St), Ru M_M_pullOf d Q 17 [some (.ref a0), some (.ref a1), some (.int a2), some (.int a3), some (.int a4), some (.int a5), some (.int a6), none] [.ref x0, .int x1, .int x2, .ref x3] τ = Ru M_M_pullOf d Q 19 [some (.ref a0), some (.ref a1), some (.int a2), some (.int a3), some (.int a4), some (.int a5), some (.int a6), none] [.int a4, .ref x0, .int x1, .int x2, .ref x3] τ) ∧
    (∀ (a0 : Nat) (a1 : Nat) (a2 : Int32) (a3 : Int32) (a4 : Int32) (a5 : Int32) (a6 : Int32) (x0 : Int32) (x1 : Nat) (x2 : Int32) (x3 : Int32) (x4 : Nat) (τ : St), Ru M_M_pullOf d Q 19 [some (.ref a0), some (.ref a1), some (.int a2), some (.int a3), some (.int a4), some (.int a5), some (.int a6), none] [.int x0, .ref x1, .int x2, .int x3, .ref x4] τ = (isA 14 x1 ∧ vp_in x0 (len x1) ∧ Ru M_M_pullOf d Q 20 [some (.ref a0), some (.ref a1), some (.int a2), some (.int a3), some (.int a4), some (.int a5), some (.int a6), none] [.int (τ.1 x1 x0.toNatClampNeg), .int x2, .int x3, .ref x4] τ)) ∧
    (∀ (a0 : Nat) (a1 : Nat) (a2 : Int32) (a3 : Int32) (a4 : Int32) (a5 : Int32) (a6 : Int32) (x0 : Int32) (x1 : Int32) (x2 : Int32) (x3 : Nat) (τ : St), Ru M_M_pullOf d Q 20 [some (.ref a0), some (.ref a1), some (.int a2), some (.int a3), some (.int a4), some (.int a5), some (.int a6), none] [.int x0, .int x1, .int x2, .ref x3] τ = Ru M_M_pullOf d Q 21 [some (.ref a0), some (.ref a1), some (.int a2), some (.int a3), some (.int a4), some (.int a5), some (.int a6), none] [.ref a0, .int x0, .int x1, .int x2, .ref x3] τ) ∧
    (∀ (a0 : Nat) (a1 : Nat) (a2 : Int32) (a3 : Int32) (a4 : Int32) (a5 : Int32) (a6 : Int32) (x0 : Nat) (x1 : Int32) (x2 : Int32) (x3 : Int32) (x4 : Nat) (τ : St), Ru M_M_pullOf d Q 21 [some (.ref a0), some (.ref a1), some (.int a2), some (.int a3), some (.int a4), some (.int a5), some (.int a6), none] [.ref x0, .int x1, .int x2, .int x3, .ref x4] τ = (isA 12 x0 ∧ Ru M_M_pullOf d Q 24 [some (.ref a0), some (.ref a1), some (.int a2), some (.int a3), some (.int a4), some (.int a5), some (.int a6), none] [.ref (rtab x0 8), .int x1, .int x2, .int x3, .ref x4] τ)) ∧
    (∀ (a0 : Nat) (a1 : Nat) (a2 : Int32) (a3 : Int32) (a4 : Int32) (a5 : Int32) (a6 : Int32) (x0 : Nat) (x1 : Int32) (x2 : Int32) (x3 : Int32) (x4 : Nat) (τ : St), Ru M_M_pullOf d Q 24 [some (.ref a0), some (.ref a1), some (.int a2), some (.int a3), some (.int a4), some (.int a5), some (.int a6), none] [.ref x0, .int x1, .int x2, .int x3, .ref x4] τ = Ru M_M_pullOf d Q 25 [some (.ref a0), some (.ref a1), some (.int a2), some (.int a3), some (.int a4), some (.int a5), some (.int a6), none] [.int a3, .ref x0, .int x1, .int x2, .int x3, .ref x4] τ) ∧
    (∀ (a0 : Nat) (a1 : Nat) (a2 : Int32) (a3 : Int32) (a4 : Int32) (a5 : Int32) (a6 : Int32) (x0 : Int32) (x1 : Nat) (x2 : Int32) (x3 : Int32) (x4 : Int32) (x5 : Nat) (τ : St), Ru M_M_pullOf d Q 25 [some (.ref a0), some (.ref a1), some (.int a2), some (.int a3), some (.int a4), some (.int a5), some (.int a6), none] [.int x0, .ref x1, .int x2, .int x3, .int x4, .ref x5] τ = (isA 14 x1 ∧ vp_in x0 (len x1) ∧ Ru M_M_pullOf d Q 26 [some (.ref a0), some (.ref a1), some (.int a2), some (.int a3), some (.int a4), some (.int a5), some (.int a6), none] [.int (τ.1 x1 x0.toNatClampNeg), .int x2, .int x3, .int x4, .ref x5] τ)) ∧
    (∀ (a0 : Nat) (a1 : Nat) (a2 : Int32) (a3 : Int32) (a4 : Int32) (a5 : Int32) (a6 : Int32) (x0 : Int32) (x1 : Int32) (x2 : Int32) (x3 : Int32) (x4 : Nat) (τ : St), Ru M_M_pullOf d Q 26 [some (.ref a0), some (.ref a1), some (.int a2), some (.int a3), some (.int a4), some (.int a5), some (.int a6), none] [.int x0, .int x1, .int x2, .int x3, .ref x4] τ = Ru M_M_pullOf d Q 27 [some (.ref a0), some (.ref a1), some (.int a2), some (.int a3), some (.int a4), some (.int a5), some (.int a6), none] [.int (x1 - x0), .int x2, .int x3, .ref x4] τ) ∧
    (∀ (a0 : Nat) (a1 : Nat) (a2 : Int32) (a3 : Int32) (a4 : Int32) (a5 : Int32) (a6 : Int32) (x0 : Int32) (x1 : Int32) (x2 : Int32) (x3 : Nat) (τ : St), Ru M_M_pullOf d Q 27 [some (.ref a0), some (.ref a1), some (.int a2), some (.int a3), some (.int a4), some (.int a5), some (.int a6), none] [.int x0, .int x1, .int x2, .ref x3] τ = Ru M_M_pullOf d Q 30 [some (.ref a0), some (.ref a1), some (.int a2), some (.int a3), some (.int a4), some (.int a5), some (.int a6), none] [.int (if x1 < x0 then x0 else x1), .int x2, .ref x3] τ) ∧
    (∀ (a0 : Nat) (a1 : Nat) (a2 : Int32) (a3 : Int32) (a4 : Int32) (a5 : Int32) (a6 : Int32) (x0 : Int32) (x1 : Int32) (x2 : Nat) (τ : St), Ru M_M_pullOf d Q 30 [some (.ref a0), some (.ref a1), some (.int a2), some (.int a3), some (.int a4), some (.int a5), some (.int a6), none] [.int x0, .int x1, .ref x2] τ = (isA 14 x2 ∧ vp_in x1 (len x2) ∧ Ru M_M_pullOf d Q 31 [some (.ref a0), some (.ref a1), some (.int a2), some (.int a3), some (.int a4), some (.int a5), some (.int a6), none] [] (sI τ x2 x1.toNatClampNeg (x0)))) ∧
    (∀ (a0 : Nat) (a1 : Nat) (a2 : Int32) (a3 : Int32) (a4 : Int32) (a5 : Int32) (a6 : Int32) (τ : St), Ru M_M_pullOf d Q 31 [some (.ref a0), some (.ref a1), some (.int a2), some (.int a3), some (.int a4), some (.int a5), some (.int a6), none] [] τ = Ru M_M_pullOf d Q 32 [some (.ref a0), some (.ref a1), some (.int a2), some (.int a3), some (.int a4), some (.int a5), some (.int a6), none] [.ref a0] τ) ∧
    (∀ (a0 : Nat) (a1 : Nat) (a2 : Int32) (a3 : Int32) (a4 : Int32) (a5 : Int32) (a6 : Int32) (x0 : Nat) (τ : St), Ru M_M_pullOf d Q 32 [some (.ref a0), some (.ref a1), some (.int a2), some (.int a3), some (.int a4), some (.int a5), some (.int a6), none] [.ref x0] τ = (isA 12 x0 ∧ Ru M_M_pullOf d Q 35 [some (.ref a0), some (.ref a1), some (.int a2), some (.int a3), some (.int a4), some (.int a5), some (.int a6), none] [.ref (rtab x0 27)] τ)) ∧
    (∀ (a0 : Nat) (a1 : Nat) (a2 : Int32) (a3 : Int32) (a4 : Int32) (a5 : Int32) (a6 : Int32) (x0 : Nat) (τ : St), Ru M_M_pullOf d Q 35 [some (.ref a0), some (.ref a1), some (.int a2), some (.int a3), some (.int a4), some (.int a5), some (.int a6), none] [.ref x0] τ = Ru M_M_pullOf d Q 36 [some (.ref a0), some (.ref a1), some (.int a2), some (.int a3), some (.int a4), some (.int a5), some (.int a6), none] [.int 2, .ref x0] τ) ∧
    (∀ (a0 : Nat) (a1 : Nat) (a2 : Int32) (a3 : Int32) (a4 : Int32) (a5 : Int32) (a6 : Int32) (x0 : Int32) (x1 : Nat) (τ : St), Ru M_M_pullOf d Q 36 [some (.ref a0), some (.ref a1), some (.int a2), some (.int a3), some (.int a4), some (.int a5), some (.int a6), none] [.int x0, .ref x1] τ = Ru M_M_pullOf d Q 37 [some (.ref a0), some (.ref a1), some (.int a2), some (.int a3), some (.int a4), some (.int a5), some (.int a6), none] [.int 0, .int x0, .ref x1] τ) ∧
    (∀ (a0 : Nat) (a1 : Nat) (a2 : Int32) (a3 : Int32) (a4 : Int32) (a5 : Int32) (a6 : Int32) (x0 : Int32) (x1 : Int32) (x2 : Nat) (τ : St), Ru M_M_pullOf d Q 37 [some (.ref a0), some (.ref a1), some (.int a2), some (.int a3), some (.int a4), some (.int a5), some (.int a6), none] [.int x0, .int x1, .ref x2] τ = Ru M_M_pullOf d Q 38 [some (.ref a0), some (.ref a1), some (.int a2), some (.int a3), some (.int a4), some (.int a5), some (.int a6), none] [.ref a0, .int x0, .int x1, .ref x2] τ) ∧
    (∀ (a0 : Nat) (a1 : Nat) (a2 : Int32) (a3 : Int32) (a4 : Int32) (a5 : Int32) (a6 : Int32) (x0 : Nat) (x1 : Int32) (x2 : Int32) (x3 : Nat) (τ : St), Ru M_M_pullOf d Q 38 [some (.ref a0), some (.ref a1), some (.int a2), some (.int a3), some (.int a4), some (.int a5), some (.int a6), none] [.ref x0, .int x1, .int x2, .ref x3] τ = (isA 12 x0 ∧ Ru M_M_pullOf d Q 41 [some (.ref a0), some (.ref a1), some (.int a2), some (.int a3), some (.int a4), some (.int a5), some (.int a6), none] [.ref (rtab x0 8), .int x1, .int x2, .ref x3] τ)) ∧
    (∀ (a0 : Nat) (a1 : Nat) (a2 : Int32) (a3 : Int32) (a4 : Int32) (a5 : Int32) (a6 : Int32) (x0 : Nat) (x1 : Int32) (x2 : Int32) (x3 : Nat) (τ : St), Ru M_M_pullOf d Q 41 [some (.ref a0), some (.ref a1), some (.int a2), some (.int a3), some (.int a4), some (.int a5), some (.int a6), none] [.ref x0, .int x1, .int x2, .ref x3] τ = Ru M_M_pullOf d Q 42 [some (.ref a0), some (.ref a1), some (.int a2), some (.int a3), some (.int a4), some (.int a5), some (.int a6), none] [.int a3, .ref x0, .int x1, .int x2, .ref x3] τ) ∧
    (∀ (a0 : Nat) (a1 : Nat) (a2 : Int32) (a3 : Int32) (a4 : Int32) (a5 : Int32) (a6 : Int32) (x0 : Int32) (x1 : Nat) (x2 : Int32) (x3 : Int32) (x4 : Nat) (τ : St), Ru M_M_pullOf d Q 42 [some (.ref a0), some (.ref a1), some (.int a2), some (.int a3), some (.int a4), some (.int a5), some (.int a6), none] [.int x0, .ref x1, .int x2, .int x3, .ref x4] τ = (isA 14 x1 ∧ vp_in x0 (len x1) ∧ Ru M_M_pullOf d Q 43 [some (.ref a0), some (.ref a1), some (.int a2), some (.int a3), some (.int a4), some (.int a5), some (.int a6), none] [.int (τ.1 x1 x0.toNatClampNeg), .int x2, .int x3, .ref x4] τ)) ∧
    (∀ (a0 : Nat) (a1 : Nat) (a2 : Int32) (a3 : Int32) (a4 : Int32) (a5 : Int32) (a6 : Int32) (x0 : Int32) (x1 : Int32) (x2 : Int32) (x3 : Nat) (τ : St), Ru M_M_pullOf d Q 43 [some (.ref a0), some (.ref a1), some (.int a2), some (.int a3), some (.int a4), some (.int a5), some (.int a6), none] [.int x0, .int x1, .int x2, .ref x3] τ = Ru M_M_pullOf d Q 44 [some (.ref a0), some (.ref a1), some (.int a2), some (.int a3), some (.int a4), some (.int a5), some (.int a6), none] [.ref a0, .int x0, .int x1, .int x2, .ref x3] τ) ∧
    (∀ (a0 : Nat) (a1 : Nat) (a2 : Int32) (a3 : Int32) (a4 : Int32) (a5 : Int32) (a6 : Int32) (x0 : Nat) (x1 : Int32) (x2 : Int32) (x3 : Int32) (x4 : Nat) (τ : St), Ru M_M_pullOf d Q 44 [some (.ref a0), some (.ref a1), some (.int a2), some (.int a3), some (.int a4), some (.int a5), some (.int a6), none] [.ref x0, .int x1, .int x2, .int x3, .ref x4] τ = (isA 12 x0 ∧ Ru M_M_pullOf d Q 47 [some (.ref a0), some (.ref a1), some (.int a2), some (.int a3), some (.int a4), some (.int a5), some (.int a6), none] [.ref (rtab x0 8), .int x1, .int x2, .int x3, .ref x4] τ)) ∧
    (∀ (a0 : Nat) (a1 : Nat) (a2 : Int32) (a3 : Int32) (a4 : Int32) (a5 : Int32) (a6 : Int32) (x0 : Nat) (x1 : Int32) (x2 : Int32) (x3 : Int32) (x4 : Nat) (τ : St), Ru M_M_pullOf d Q 47 [some (.ref a0), some (.ref a1), some (.int a2), some (.int a3), some (.int a4), some (.int a5), some (.int a6), none] [.ref x0, .int x1, .int x2, .int x3, .ref x4] τ = Ru M_M_pullOf d Q 49 [some (.ref a0), some (.ref a1), some (.int a2), some (.int a3), some (.int a4), some (.int a5), some (.int a6), none] [.int a4, .ref x0, .int x1, .int x2, .int x3, .ref x4] τ) ∧
    (∀ (a0 : Nat) (a1 : Nat) (a2 : Int32) (a3 : Int32) (a4 : Int32) (a5 : Int32) (a6 : Int32) (x0 : Int32) (x1 : Nat) (x2 : Int32) (x3 : Int32) (x4 : Int32) (x5 : Nat) (τ : St), Ru M_M_pullOf d Q 49 [some (.ref a0), some (.ref a1), some (.int a2), some (.int a3), some (.int a4), some (.int a5), some (.int a6), none] [.int x0, .ref x1, .int x2, .int x3, .int x4, .ref x5] τ = (isA 14 x1 ∧ vp_in x0 (len x1) ∧ Ru M_M_pullOf d Q 50 [some (.ref a0), some (.ref a1), some (.int a2), some (.int a3), some (.int a4), some (.int a5), some (.int a6), none] [.int (τ.1 x1 x0.toNatClampNeg), .int x2, .int x3, .int x4, .ref x5] τ)) ∧
    (∀ (a0 : Nat) (a1 : Nat) (a2 : Int32) (a3 : Int32) (a4 : Int32) (a5 : Int32) (a6 : Int32) (x0 : Int32) (x1 : Int32) (x2 : Int32) (x3 : Int32) (x4 : Nat) (τ : St), Ru M_M_pullOf d Q 50 [some (.ref a0), some (.ref a1), some (.int a2), some (.int a3), some (.int a4), some (.int a5), some (.int a6), none] [.int x0, .int x1, .int x2, .int x3, .ref x4] τ = Ru M_M_pullOf d Q 51 [some (.ref a0), some (.ref a1), some (.int a2), some (.int a3), some (.int a4), some (.int a5), some (.int a6), none] [.int (x1 - x0), .int x2, .int x3, .ref x4] τ) ∧
    (∀ (a0 : Nat) (a1 : Nat) (a2 : Int32) (a3 : Int32) (a4 : Int32) (a5 : Int32) (a6 : Int32) (x0 : Int32) (x1 : Int32) (x2 : Int32) (x3 : Nat) (τ : St), Ru M_M_pullOf d Q 51 [some (.ref a0), some (.ref a1), some (.int a2), some (.int a3), some (.int a4), some (.int a5), some (.int a6), none] [.int x0, .int x1, .int x2, .ref x3] τ = Ru M_M_pullOf d Q 54 [some (.ref a0), some (.ref a1), some (.int a2), some (.int a3), some (.int a4), some (.int a5), some (.int a6), none] [.int (if x1 < x0 then x0 else x1), .int x2, .ref x3] τ) ∧
    (∀ (a0 : Nat) (a1 : Nat) (a2 : Int32) (a3 : Int32) (a4 : Int32) (a5 : Int32) (a6 : Int32) (x0 : Int32) (x1 : Int32) (x2 : Nat) (τ : St), Ru M_M_pullOf d Q 54 [some (.ref a0), some (.ref a1), some (.int a2), some (.int a3), some (.int a4), some (.int a5), some (.int a6), none] [.int x0, .int x1, .ref x2] τ = (isA 14 x2 ∧ vp_in x1 (len x2) ∧ Ru M_M_pullOf d Q 55 [some (.ref a0), some (.ref a1), some (.int a2), some (.int a3), some (.int a4), some (.int a5), some (.int a6), none] [] (sI τ x2 x1.toNatClampNeg (x0)))) ∧
    (∀ (a0 : Nat) (a1 : Nat) (a2 : Int32) (a3 : Int32) (a4 : Int32) (a5 : Int32) (a6 : Int32) (τ : St), Ru M_M_pullOf d Q 55 [some (.ref a0), some (.ref a1), some (.int a2), some (.int a3), some (.int a4), some (.int a5), some (.int a6), none] [] τ = Ru M_M_pullOf d Q 56 [some (.ref a0), some (.ref a1), some (.int a2), some (.int a3), some (.int a4), some (.int a5), some (.int a6), none] [.ref a0] τ) ∧
    (∀ (a0 : Nat) (a1 : Nat) (a2 : Int32) (a3 : Int32) (a4 : Int32) (a5 : Int32) (a6 : Int32) (x0 : Nat) (τ : St), Ru M_M_pullOf d Q 56 [some (.ref a0), some (.ref a1), some (.int a2), some (.int a3), some (.int a4), some (.int a5), some (.int a6), none] [.ref x0] τ = (isA 12 x0 ∧ Ru M_M_pullOf d Q 59 [some (.ref a0), some (.ref a1), some (.int a2), some (.int a3), some (.int a4), some (.int a5), some (.int a6), none] [.ref (rtab x0 27)] τ)) ∧
    (∀ (a0 : Nat) (a1 : Nat) (a2 : Int32) (a3 : Int32) (a4 : Int32) (a5 : Int32) (a6 : Int32) (x0 : Nat) (τ : St), Ru M_M_pullOf d Q 59 [some (.ref a0), some (.ref a1), some (.int a2), some (.int a3), some (.int a4), some (.int a5), some (.int a6), none] [.ref x0] τ = Ru M_M_pullOf d Q 60 [some (.ref a0), some (.ref a1), some (.int a2), some (.int a3), some (.int a4), some (.int a5), some (.int a6), none] [.int 3, .ref x0] τ) ∧
    (∀ (a0 : Nat) (a1 : Nat) (a2 : Int32) (a3 : Int32) (a4 : Int32) (a5 : Int32) (a6 : Int32) (x0 : Int32) (x1 : Nat) (τ : St), Ru M_M_pullOf d Q 60 [some (.ref a0), some (.ref a1), some (.int a2), some (.int a3), some (.int a4), some (.int a5), some (.int a6), none] [.int x0, .ref x1] τ = Ru M_M_pullOf d Q 61 [some (.ref a0), some (.ref a1), some (.int a2), some (.int a3), some (.int a4), some (.int a5), some (.int a6), none] [.ref a1, .int x0, .ref x1] τ) ∧
    (∀ (a0 : Nat) (a1 : Nat) (a2 : Int32) (a3 : Int32) (a4 : Int32) (a5 : Int32) (a6 : Int32) (x0 : Nat) (x1 : Int32) (x2 : Nat) (τ : St), Ru M_M_pullOf d Q 61 [some (.ref a0), some (.ref a1), some (.int a2), some (.int a3), some (.int a4), some (.int a5), some (.int a6), none] [.ref x0, .int x1, .ref x2] τ = Ru M_M_pullOf d Q 63 [some (.ref a0), some (.ref a1), some (.int a2), some (.int a3), some (.int a4), some (.int a5), some (.int a6), none] [.int a4, .ref x0, .int x1, .ref x2] τ) ∧
    (∀ (a0 : Nat) (a1 : Nat) (a2 : Int32) (a3 : Int32) (a4 : Int32) (a5 : Int32) (a6 : Int32) (x0 : Int32) (x1 : Nat) (x2 : Int32) (x3 : Nat) (τ : St), Ru M_M_pullOf d Q 63 [some (.ref a0), some (.ref a1), some (.int a2), some (.int a3), some (.int a4), some (.int a5), some (.int a6), none] [.int x0, .ref x1, .int x2, .ref x3] τ = (isA 14 x1 ∧ vp_in x0 (len x1) ∧ Ru M_M_pullOf d Q 64 [some (.ref a0), some (.ref a1), some (.int a2), some (.int a3), some (.int a4), some (.int a5), some (.int a6), none] [.int (τ.1 x1 x0.toNatClampNeg), .int x2, .ref x3] τ)) ∧
    (∀ (a0 : Nat) (a1 : Nat) (a2 : Int32) (a3 : Int32) (a4 : Int32) (a5 : Int32) (a6 : Int32) (x0 : Int32) (x1 : Int32) (x2 : Nat) (τ : St), Ru M_M_pullOf d Q 64 [some (.ref a0), some (.ref a1), some (.int a2), some (.int a3), some (.int a4), some (.int a5), some (.int a6), none] [.int x0, .int x1, .ref x2] τ = (isA 14 x2 ∧ vp_in x1 (len x2) ∧ Ru M_M_pullOf d Q 65 [some (.ref a0), some (.ref a1), some (.int a2), some (.int a3), some (.int a4), some (.int a5), some (.int a6), none] [] (sI τ x2 x1.toNatClampNeg (x0)))) ∧
    (∀ (a0 : Nat) (a1 : Nat) (a2 : Int32) (a3 : Int32) (a4 : Int32) (a5 : Int32) (a6 : Int32) (τ : St), Ru M_M_pullOf d Q 65 [some (.ref a0), some (.ref a1), some (.int a2), some (.int a3), some (.int a4), some (.int a5), some (.int a6), none] [] τ = Ru M_M_pullOf d Q 66 [some (.ref a0), some (.ref a1), some (.int a2), some (.int a3), some (.int a4), some (.int a5), some (.int a6), none] [.ref a0] τ) ∧
    (∀ (a0 : Nat) (a1 : Nat) (a2 : Int32) (a3 : Int32) (a4 : Int32) (a5 : Int32) (a6 : Int32) (x0 : Nat) (τ : St), Ru M_M_pullOf d Q 66 [some (.ref a0), some (.ref a1), some (.int a2), some (.int a3), some (.int a4), some (.int a5), some (.int a6), none] [.ref x0] τ = (isA 12 x0 ∧ Ru M_M_pullOf d Q 69 [some (.ref a0), some (.ref a1), some (.int a2), some (.int a3), some (.int a4), some (.int a5), some (.int a6), none] [.ref (rtab x0 27)] τ)) ∧
    (∀ (a0 : Nat) (a1 : Nat) (a2 : Int32) (a3 : Int32) (a4 : Int32) (a5 : Int32) (a6 : Int32) (x0 : Nat) (τ : St), Ru M_M_pullOf d Q 69 [some (.ref a0), some (.ref a1), some (.int a2), some (.int a3), some (.int a4), some (.int a5), some (.int a6), none] [.ref x0] τ = Ru M_M_pullOf d Q 70 [some (.ref a0), some (.ref a1), some (.int a2), some (.int a3), some (.int a4), some (.int a5), some (.int a6), none] [.int 4, .ref x0] τ) ∧
    (∀ (a0 : Nat) (a1 : Nat) (a2 : Int32) (a3 : Int32) (a4 : Int32) (a5 : Int32) (a6 : Int32) (x0 : Int32) (x1 : Nat) (τ : St), Ru M_M_pullOf d Q 70 [some (.ref a0), some (.ref a1), some (.int a2), some (.int a3), some (.int a4), some (.int a5), some (.int a6), none] [.int x0, .ref x1] τ = Ru M_M_pullOf d Q 72 [some (.ref a0), some (.ref a1), some (.int a2), some (.int a3), some (.int a4), some (.int a5), some (.int a6), none] [.int a6, .int x0, .ref x1] τ) ∧
    (∀ (a0 : Nat) (a1 : Nat) (a2 : Int32) (a3 : Int32) (a4 : Int32) (a5 : Int32) (a6 : Int32) (x0 : Int32) (x1 : Int32) (x2 : Nat) (τ : St), Ru M_M_pullOf d Q 72 [some (.ref a0), some (.ref a1), some (.int a2), some (.int a3), some (.int a4), some (.int a5), some (.int a6), none] [.int x0, .int x1, .ref x2] τ = (isA 14 x2 ∧ vp_in x1 (len x2) ∧ Ru M_M_pullOf d Q 73 [some (.ref a0), some (.ref a1), some (.int a2), some (.int a3), some (.int a4), some (.int a5), some (.int a6), none] [] (sI τ x2 x1.toNatClampNeg (x0)))) ∧
    (∀ (a0 : Nat) (a1 : Nat) (a2 : Int32) (a3 : Int32) (a4 : Int32) (a5 : Int32) (a6 : Int32) (τ : St), Ru M_M_pullOf d Q 73 [some (.ref a0), some (.ref a1), some (.int a2), some (.int a3), some (.int a4), some (.int a5), some (.int a6), none] [] τ = Ru M_M_pullOf d Q 74 [some (.ref a0), some (.ref a1), some (.int a2), some (.int a3), some (.int a4), some (.int a5), some (.int a6), none] [.int 0] τ) ∧
    (∀ (a0 : Nat) (a1 : Nat) (a2 : Int32) (a3 : Int32) (a4 : Int32) (a5 : Int32) (a6 : Int32) (x0 : Int32) (τ : St), Ru M_M_pullOf d Q 74 [some (.ref a0), some (.ref a1), some (.int a2), some (.int a3), some (.int a4), some (.int a5), some (.int a6), none] [.int x0] τ = Ru M_M_pullOf d Q 77 [some (.ref a0), some (.ref a1), some (.int a2), some (.int a3), some (.int a4), some (.int a5), some (.int a6), none] [.int 999, .int x0] τ) ∧
    (∀ (a0 : Nat) (a1 : Nat) (a2 : Int32) (a3 : Int32) (a4 : Int32) (a5 : Int32) (a6 : Int32) (x0 : Int32) (x1 : Int32) (τ : St), Ru M_M_pullOf d Q 77 [some (.ref a0), some (.ref a1), some (.int a2), some (.int a3), some (.int a4), some (.int a5), some (.int a6), none] [.int x0, .int x1] τ = Ru M_M_pullOf d Q 78 [some (.ref a0), some (.ref a1), some (.int a2), some (.int a3), some (.int a4), some (.int a5), some (.int a6), none] [.ref a0, .int x0, .int x1] τ) ∧
    (∀ (a0 : Nat) (a1 : Nat) (a2 : Int32) (a3 : Int32) (a4 : Int32) (a5 : Int32) (a6 : Int32) (x0 : Nat) (x1 : Int32) (x2 : Int32) (τ : St), Ru M_M_pullOf d Q 78 [some (.ref a0), some (.ref a1), some (.int a2), some (.int a3), some (.int a4), some (.int a5), some (.int a6), none] [.ref x0, .int x1, .int x2] τ = (isA 12 x0 ∧ Cl d m_M_ruled [.ref x0] τ (fun v τ' => Ru M_M_pullOf d Q 81 [some (.ref a0), some (.ref a1), some (.int a2), some (.int a3), some (.int a4), some (.int a5), some (.int a6), none] (v.toList ++ [.int x1, .int x2]) τ'))) ∧
    (∀ (a0 : Nat) (a1 : Nat) (a2 : Int32) (a3 : Int32) (a4 : Int32) (a5 : Int32) (a6 : Int32) (x0 : Int32) (x1 : Int32) (x2 : Int32) (τ : St), Ru M_M_pullOf d Q 81 [some (.ref a0), some (.ref a1), some (.int a2), some (.int a3), some (.int a4), some (.int a5), some (.int a6), none] [.int x0, .int x1, .int x2] τ = Ru M_M_pullOf d Q 84 [some (.ref a0), some (.ref a1), some (.int a2), some (.int a3), some (.int a4), some (.int a5), some (.int a6), none] [.int (if x0 < x1 then x0 else x1), .int x2] τ) ∧
    (∀ (a0 : Nat) (a1 : Nat) (a2 : Int32) (a3 : Int32) (a4 : Int32) (a5 : Int32) (a6 : Int32) (x0 : Int32) (x1 : Int32) (τ : St), Ru M_M_pullOf d Q 84 [some (.ref a0), some (.ref a1), some (.int a2), some (.int a3), some (.int a4), some (.int a5), some (.int a6), none] [.int x0, .int x1] τ = Ru M_M_pullOf d Q 87 [some (.ref a0), some (.ref a1), some (.int a2), some (.int a3), some (.int a4), some (.int a5), some (.int a6), none] [.int (if x1 < x0 then x0 else x1)] τ) ∧
    (∀ (a0 : Nat) (a1 : Nat) (a2 : Int32) (a3 : Int32) (a4 : Int32) (a5 : Int32) (a6 : Int32) (x0 : Int32) (τ : St), Ru M_M_pullOf d Q 87 [some (.ref a0), some (.ref a1), some (.int a2), some (.int a3), some (.int a4), some (.int a5), some (.int a6), none] [.int x0] τ = Ru M_M_pullOf d Q 89 [some (.ref a0), some (.ref a1), some (.int a2), some (.int a3), some (.int a4), some (.int a5), some (.int a6), some (.int x0)] [] τ) ∧
    (∀ (a0 : Nat) (a1 : Nat) (a2 : Int32) (a3 : Int32) (a4 : Int32) (a5 : Int32) (a6 : Int32) (a7 : Int32) (τ : St), Ru M_M_pullOf d Q 89 [some (.ref a0), some (.ref a1), some (.int a2), some (.int a3), some (.int a4), some (.int a5), some (.int a6), some (.int a7)] [] τ = Ru M_M_pullOf d Q 91 [some (.ref a0), some (.ref a1), some (.int a2), some (.int a3), some (.int a4), some (.int a5), some (.int a6), some (.int a7)] [.int a7] τ) ∧
    (∀ (a0 : Nat) (a1 : Nat) (a2 : Int32) (a3 : Int32) (a4 : Int32) (a5 : Int32) (a6 : Int32) (a7 : Int32) (x0 : Int32) (τ : St), Ru M_M_pullOf d Q 91 [some (.ref a0), some (.ref a1), some (.int a2), some (.int a3), some (.int a4), some (.int a5), some (.int a6), some (.int a7)] [.int x0] τ = Ru M_M_pullOf d Q 93 [some (.ref a0), some (.ref a1), some (.int a2), some (.int a3), some (.int a4), some (.int a5), some (.int a6), some (.int a7)] [.int a5, .int x0] τ) ∧
    (∀ (a0 : Nat) (a1 : Nat) (a2 : Int32) (a3 : Int32) (a4 : Int32) (a5 : Int32) (a6 : Int32) (a7 : Int32) (x0 : Int32) (x1 : Int32) (τ : St), Ru M_M_pullOf d Q 93 [some (.ref a0), some (.ref a1), some (.int a2), some (.int a3), some (.int a4), some (.int a5), some (.int a6), some (.int a7)] [.int x0, .int x1] τ = Ru M_M_pullOf d Q 94 [some (.ref a0), some (.ref a1), some (.int a2), some (.int a3), some (.int a4), some (.int a5), some (.int a6), some (.int a7)] [.int 4, .int x0, .int x1] τ) ∧
    (∀ (a0 : Nat) (a1 : Nat) (a2 : Int32) (a3 : Int32) (a4 : Int32) (a5 : Int32) (a6 : Int32) (a7 : Int32) (x0 : Int32) (x1 : Int32) (x2 : Int32) (τ : St), Ru M_M_pullOf d Q 94 [some (.ref a0), some (.ref a1), some (.int a2), some (.int a3), some (.int a4), some (.int a5), some (.int a6), some (.int a7)] [.int x0, .int x1, .int x2] τ = (¬ x0 = 0 ∧ Ru M_M_pullOf d Q 95 [some (.ref a0), some (.ref a1), some (.int a2), some (.int a3), some (.int a4), some (.int a5), some (.int a6), some (.int a7)] [.int (x1 - x1 / x0 * x0), .int x2] τ)) ∧
    (∀ (a0 : Nat) (a1 : Nat) (a2 : Int32) (a3 : Int32) (a4 : Int32) (a5 : Int32) (a6 : Int32) (a7 : Int32) (x0 : Int32) (x1 : Int32) (τ : St), Ru M_M_pullOf d Q 95 [some (.ref a0), some (.ref a1), some (.int a2), some (.int a3), some (.int a4), some (.int a5), some (.int a6), some (.int a7)] [.int x0, .int x1] τ = Ru M_M_pullOf d Q 96 [some (.ref a0), some (.ref a1), some (.int a2), some (.int a3), some (.int a4), some (.int a5), some (.int a6), some (.int a7)] [.int 3, .int x0, .int x1] τ) ∧
    (∀ (a0 : Nat) (a1 : Nat) (a2 : Int32) (a3 : Int32) (a4 : Int32) (a5 : Int32) (a6 : Int32) (a7 : Int32) (x0 : Int32) (x1 : Int32) (x2 : Int32) (τ : St), Ru M_M_pullOf d Q 96 [some (.ref a0), some (.ref a1), some (.int a2), some (.int a3), some (.int a4), some (.int a5), some (.int a6), some (.int a7)] [.int x0, .int x1, .int x2] τ = ((¬ x1 = x0 → Ru M_M_pullOf d Q 106 [some (.ref a0), some (.ref a1), some (.int a2), some (.int a3), some (.int a4), some (.int a5), some (.int a6), some (.int a7)] [.int x2] τ) ∧ (x1 = x0 → Ru M_M_pullOf d Q 99 [some (.ref a0), some (.ref a1), some (.int a2), some (.int a3), some (.int a4), some (.int a5), some (.int a6), some (.int a7)] [.int x2] τ))) ∧
    (∀ (a0 : Nat) (a1 : Nat) (a2 : Int32) (a3 : Int32) (a4 : Int32) (a5 : Int32) (a6 : Int32) (a7 : Int32) (x0 : Int32) (τ : St), Ru M_M_pullOf d Q 99 [some (.ref a0), some (.ref a1), some (.int a2), some (.int a3), some (.int a4), some (.int a5), some (.int a6), some (.int a7)] [.int x0] τ = Ru M_M_pullOf d Q 101 [some (.ref a0), some (.ref a1), some (.int a2), some (.int a3), some (.int a4), some (.int a5), some (.int a6), some (.int a7)] [.int a7, .int x0] τ) ∧
    (∀ (a0 : Nat) (a1 : Nat) (a2 : Int32) (a3 : Int32) (a4 : Int32) (a5 : Int32) (a6 : Int32) (a7 : Int32) (x0 : Int32) (x1 : Int32) (τ : St), Ru M_M_pullOf d Q 101 [some (.ref a0), some (.ref a1), some (.int a2), some (.int a3), some (.int a4), some (.int a5), some (.int a6), some (.int a7)] [.int x0, .int x1] τ = Ru M_M_pullOf d Q 102 [some (.ref a0), some (.ref a1), some (.int a2), some (.int a3), some (.int a4), some (.int a5), some (.int a6), some (.int a7)] [.int 2, .int x0, .int x1] τ) ∧
    (∀ (a0 : Nat) (a1 : Nat) (a2 : Int32) (a3 : Int32) (a4 : Int32) (a5 : Int32) (a6 : Int32) (a7 : Int32) (x0 : Int32) (x1 : Int32) (x2 : Int32) (τ : St), Ru M_M_pullOf d Q 102 [some (.ref a0), some (.ref a1), some (.int a2), some (.int a3), some (.int a4), some (.int a5), some (.int a6), some (.int a7)] [.int x0, .int x1, .int x2] τ = (¬ x0 = 0 ∧ Ru M_M_pullOf d Q 103 [some (.ref a0), some (.ref a1), some (.int a2), some (.int a3), some (.int a4), some (.int a5), some (.int a6), some (.int a7)] [.int (x1 / x0), .int x2] τ)) ∧
    (∀ (a0 : Nat) (a1 : Nat) (a2 : Int32) (a3 : Int32) (a4 : Int32) (a5 : Int32) (a6 : Int32) (a7 : Int32) (x0 : Int32) (x1 : Int32) (τ : St), Ru M_M_pullOf d Q 103 [some (.ref a0), some (.ref a1), some (.int a2), some (.int a3), some (.int a4), some (.int a5), some (.int a6), some (.int a7)] [.int x0, .int x1] τ = Ru M_M_pullOf d Q 107 [some (.ref a0), some (.ref a1), some (.int a2), some (.int a3), some (.int a4), some (.int a5), some (.int a6), some (.int a7)] [.int x0, .int x1] τ) ∧
    (∀ (a0 : Nat) (a1 : Nat) (a2 : Int32) (a3 : Int32) (a4 : Int32) (a5 : Int32) (a6 : Int32) (a7 : Int32) (x0 : Int32) (τ : St), Ru M_M_pullOf d Q 106 [some (.ref a0), some (.ref a1), some (.int a2), some (.int a3), some (.int a4), some (.int a5), some (.int a6), some (.int a7)] [.int x0] τ = Ru M_M_pullOf d Q 107 [some (.ref a0), some (.ref a1), some (.int a2), some (.int a3), some (.int a4), some (.int a5), some (.int a6), some (.int a7)] [.int 0, .int x0] τ) ∧
    (∀ (a0 : Nat) (a1 : Nat) (a2 : Int32) (a3 : Int32) (a4 : Int32) (a5 : Int32) (a6 : Int32) (a7 : Int32) (x0 : Int32) (x1 : Int32) (τ : St), Ru M_M_pullOf d Q 107 [some (.ref a0), some (.ref a1), some (.int a2), some (.int a3), some (.int a4), some (.int a5), some (.int a6), some (.int a7)] [.int x0, .int x1] τ = Ru M_M_pullOf d Q 108 [some (.ref a0), some (.ref a1), some (.int a2), some (.int a3), some (.int a4), some (.int a5), some (.int a6), some (.int a7)] [.int (x1 + x0)] τ) ∧
    (∀ (a0 : Nat) (a1 : Nat) (a2 : Int32) (a3 : Int32) (a4 : Int32) (a5 : Int32) (a6 : Int32) (a7 : Int32) (x0 : Int32) (τ : St), Ru M_M_pullOf d Q 108 [some (.ref a0), some (.ref a1), some (.int a2), some (.int a3), some (.int a4), some (.int a5), some (.int a6), some (.int a7)] [.int x0] τ = Q (some (.int x0)) τ) := ⟨
  fun _ _ _ _ _ _ _ _ => (R_at ok_M_pullOf rfl).trans (e_ald rfl),
  fun _ _ _ _ _ _ _ _ _ => (R_at ok_M_pullOf rfl).trans e_gR,
  fun _ _ _ _ _ _ _ _ _ => (R_at ok_M_pullOf rfl).trans e_push,
  fun _ _ _ _ _ _ _ _ _ _ => (R_at ok_M_pullOf rfl).trans (e_ild rfl),
  fun _ _ _ _ _ _ _ _ _ _ _ => (R_at ok_M_pullOf rfl).trans e_as,
  fun _ _ _ _ _ _ _ _ => (R_at ok_M_pullOf rfl).trans (e_ald rfl),
  fun _ _ _ _ _ _ _ _ _ => (R_at ok_M_pullOf rfl).trans e_gR,
  fun _ _ _ _ _ _ _ _ _ => (R_at ok_M_pullOf rfl).trans e_push,
  fun _ _ _ _ _ _ _ _ _ _ => (R_at ok_M_pullOf rfl).trans e_push,
  fun _ _ _ _ _ _ _ _ _ _ _ => (R_at ok_M_pullOf rfl).trans (e_ald rfl),
  fun _ _ _ _ _ _ _ _ _ _ _ _ => (R_at ok_M_pullOf rfl).trans e_gR,
  fun _ _ _ _ _ _ _ _ _ _ _ _ => (R_at ok_M_pullOf rfl).trans (e_ild rfl),
  fun _ _ _ _ _ _ _ _ _ _ _ _ _ => (R_at ok_M_pullOf rfl).trans e_al,
  fun _ _ _ _ _ _ _ _ _ _ _ _ => (R_at ok_M_pullOf rfl).trans (e_ald rfl),
  fun _ _ _ _ _ _ _ _ _ _ _ _ _ => (R_at ok_M_pullOf rfl).trans e_gR,
  fun _ _ _ _ _ _ _ _ _ _ _ _ _ => (R_at ok_M_pullOf rfl).trans (e_ild rfl),
  fun _ _ _ _ _ _ _ _ _ _ _ _ _ _ => (R_at ok_M_pullOf rfl).trans e_al,
  fun _ _ _ _ _ _ _ _ _ _ _ _ _ => (R_at ok_M_pullOf rfl).trans e_bin,
  fun _ _ _ _ _ _ _ _ _ _ _ _ => (R_at ok_M_pullOf rfl).trans (e_mm rfl),
  fun _ _ _ _ _ _ _ _ _ _ _ => (R_at ok_M_pullOf rfl).trans e_as,
  fun _ _ _ _ _ _ _ _ => (R_at ok_M_pullOf rfl).trans (e_ald rfl),
  fun _ _ _ _ _ _ _ _ _ => (R_at ok_M_pullOf rfl).trans e_gR,
  fun _ _ _ _ _ _ _ _ _ => (R_at ok_M_pullOf rfl).trans e_push,
  fun _ _ _ _ _ _ _ _ _ _ => (R_at ok_M_pullOf rfl).trans e_push,
  fun _ _ _ _ _ _ _ _ _ _ _ => (R_at ok_M_pullOf rfl).trans (e_ald rfl),
  fun _ _ _ _ _ _ _ _ _ _ _ _ => (R_at ok_M_pullOf rfl).trans e_gR,
  fun _ _ _ _ _ _ _ _ _ _ _ _ => (R_at ok_M_pullOf rfl).trans (e_ild rfl),
  fun _ _ _ _ _ _ _ _ _ _ _ _ _ => (R_at ok_M_pullOf rfl).trans e_al,
  fun _ _ _ _ _ _ _ _ _ _ _ _ => (R_at ok_M_pullOf rfl).trans (e_ald rfl),
  fun _ _ _ _ _ _ _ _ _ _ _ _ _ => (R_at ok_M_pullOf rfl).trans e_gR,
  fun _ _ _ _ _ _ _ _ _ _ _ _ _ => (R_at ok_M_pullOf rfl).trans (e_ild rfl),
  fun _ _ _ _ _ _ _ _ _ _ _ _ _ _ => (R_at ok_M_pullOf rfl).trans e_al,
  fun _ _ _ _ _ _ _ _ _ _ _ _ _ => (R_at ok_M_pullOf rfl).trans e_bin,
  fun _ _ _ _ _ _ _ _ _ _ _ _ => (R_at ok_M_pullOf rfl).trans (e_mm rfl),
  fun _ _ _ _ _ _ _ _ _ _ _ => (R_at ok_M_pullOf rfl).trans e_as,
  fun _ _ _ _ _ _ _ _ => (R_at ok_M_pullOf rfl).trans (e_ald rfl),
  fun _ _ _ _ _ _ _ _ _ => (R_at ok_M_pullOf rfl).trans e_gR,
  fun _ _ _ _ _ _ _ _ _ => (R_at ok_M_pullOf rfl).trans e_push,
  fun _ _ _ _ _ _ _ _ _ _ => (R_at ok_M_pullOf rfl).trans (e_ald rfl),
  fun _ _ _ _ _ _ _ _ _ _ _ => (R_at ok_M_pullOf rfl).trans (e_ild rfl),
  fun _ _ _ _ _ _ _ _ _ _ _ _ => (R_at ok_M_pullOf rfl).trans e_al,
  fun _ _ _ _ _ _ _ _ _ _ _ => (R_at ok_M_pullOf rfl).trans e_as,
  fun _ _ _ _ _ _ _ _ => (R_at ok_M_pullOf rfl).trans (e_ald rfl),
  fun _ _ _ _ _ _ _ _ _ => (R_at ok_M_pullOf rfl).trans e_gR,
  fun _ _ _ _ _ _ _ _ _ => (R_at ok_M_pullOf rfl).trans e_push,
  fun _ _ _ _ _ _ _ _ _ _ => (R_at ok_M_pullOf rfl).trans (e_ild rfl),
  fun _ _ _ _ _ _ _ _ _ _ _ => (R_at ok_M_pullOf rfl).trans e_as,
  fun _ _ _ _ _ _ _ _ => (R_at ok_M_pullOf rfl).trans e_push,
  fun _ _ _ _ _ _ _ _ _ => (R_at ok_M_pullOf rfl).trans e_push,
  fun _ _ _ _ _ _ _ _ _ _ => (R_at ok_M_pullOf rfl).trans (e_ald rfl),
  fun _ _ _ _ _ _ _ _ _ _ _ => (R_at ok_M_pullOf rfl).trans (e_cv [] rfl rfl rfl),
  fun _ _ _ _ _ _ _ _ _ _ _ => (R_at ok_M_pullOf rfl).trans (e_mm rfl),
  fun _ _ _ _ _ _ _ _ _ _ => (R_at ok_M_pullOf rfl).trans (e_mm rfl),
  fun _ _ _ _ _ _ _ _ _ => (R_at ok_M_pullOf rfl).trans e_ist,
  fun _ _ _ _ _ _ _ _ _ => (R_at ok_M_pullOf rfl).trans (e_ild rfl),
  fun _ _ _ _ _ _ _ _ _ _ => (R_at ok_M_pullOf rfl).trans (e_ild rfl),
  fun _ _ _ _ _ _ _ _ _ _ _ => (R_at ok_M_pullOf rfl).trans e_push,
  fun _ _ _ _ _ _ _ _ _ _ _ _ => (R_at ok_M_pullOf rfl).trans e_binz,
  fun _ _ _ _ _ _ _ _ _ _ _ => (R_at ok_M_pullOf rfl).trans e_push,
  fun _ _ _ _ _ _ _ _ _ _ _ _ => (R_at ok_M_pullOf rfl).trans e_icn,
  fun _ _ _ _ _ _ _ _ _ _ => (R_at ok_M_pullOf rfl).trans (e_ild rfl),
  fun _ _ _ _ _ _ _ _ _ _ _ => (R_at ok_M_pullOf rfl).trans e_push,
  fun _ _ _ _ _ _ _ _ _ _ _ _ => (R_at ok_M_pullOf rfl).trans e_binz,
  fun _ _ _ _ _ _ _ _ _ _ _ => (R_at ok_M_pullOf rfl).trans e_goto,
  fun _ _ _ _ _ _ _ _ _ _ => (R_at ok_M_pullOf rfl).trans e_push,
  fun _ _ _ _ _ _ _ _ _ _ _ => (R_at ok_M_pullOf rfl).trans e_bin,
  fun _ _ _ _ _ _ _ _ _ _ => (R_at ok_M_pullOf rfl).trans e_iret⟩
set_option maxHeartbeats 4000000 in
theorem N_M_noiseOf (d : Nat) (Q : Qt) : ∀ (x0 : Int32) (x1 : Int32) (τ : St), Cl (d + 1) m_M_noiseOf [.int x0, .int x1] τ Q = Ru M_M_noiseOf d Q 0 [some (.int x0), some (.int x1), none] [] τ := fun _ _ _ => propext ⟨fun h => h.2, fun h => ⟨Nat.le_of_ble_eq_true rfl, h⟩⟩
set_option maxHeartbeats 4000000 in
theorem E_M_noiseOf (d : Nat) (Q : Qt) :
    (∀ (a0 : Int32) (a1 : Int32) (τ : St), Ru M_M_noiseOf d Q 0 [some (.int a0), some (.int a1), none] [] τ = Ru M_M_noiseOf d Q 1 [some (.int a0), some (.int a1), none] [.int a0] τ) ∧
    (∀ (a0 : Int32) (a1 : Int32) (x0 : Int32) (τ : St), Ru M_M_noiseOf d Q 1 [some (.int a0), some (.int a1), none] [.int x0] τ = Ru M_M_noiseOf d Q 3 [some (.int a0), some (.int a1), none] [.int 10, .int x0] τ) ∧
    (∀ (a0 : Int32) (a1 : Int32) (x0 : Int32) (x1 : Int32) (τ : St), Ru M_M_noiseOf d Q 3 [some (.int a0), some (.int a1), none] [.int x0, .int x1] τ = (¬ x0 = 0 ∧ Ru M_M_noiseOf d Q 4 [some (.int a0), some (.int a1), none] [.int (x1 / x0)] τ)) ∧
    (∀ (a0 : Int32) (a1 : Int32) (x0 : Int32) (τ : St), Ru M_M_noiseOf d Q 4 [some (.int a0), some (.int a1), none] [.int x0] τ = Ru M_M_noiseOf d Q 5 [some (.int a0), some (.int a1), some (.int x0)] [] τ) ∧
    (∀ (a0 : Int32) (a1 : Int32) (a2 : Int32) (τ : St), Ru M_M_noiseOf d Q 5 [some (.int a0), some (.int a1), some (.int a2)] [] τ = Ru M_M_noiseOf d Q 6 [some (.int a0), some (.int a1), some (.int a2)] [.int a1] τ) ∧
    (∀ (a0 : Int32) (a1 : Int32) (a2 : Int32) (x0 : Int32) (τ : St), Ru M_M_noiseOf d Q 6 [some (.int a0), some (.int a1), some (.int a2)] [.int x0] τ = Ru M_M_noiseOf d Q 7 [some (.int a0), some (.int a1), some (.int a2)] [.int 4, .int x0] τ) ∧
    (∀ (a0 : Int32) (a1 : Int32) (a2 : Int32) (x0 : Int32) (x1 : Int32) (τ : St), Ru M_M_noiseOf d Q 7 [some (.int a0), some (.int a1), some (.int a2)] [.int x0, .int x1] τ = (¬ x0 = 0 ∧ Ru M_M_noiseOf d Q 8 [some (.int a0), some (.int a1), some (.int a2)] [.int (x1 - x1 / x0 * x0)] τ)) ∧
    (∀ (a0 : Int32) (a1 : Int32) (a2 : Int32) (x0 : Int32) (τ : St), Ru M_M_noiseOf d Q 8 [some (.int a0), some (.int a1), some (.int a2)] [.int x0] τ = Ru M_M_noiseOf d Q 9 [some (.int a0), some (.int a1), some (.int a2)] [.int 1, .int x0] τ) ∧
    (∀ (a0 : Int32) (a1 : Int32) (a2 : Int32) (x0 : Int32) (x1 : Int32) (τ : St), Ru M_M_noiseOf d Q 9 [some (.int a0), some (.int a1), some (.int a2)] [.int x0, .int x1] τ = ((¬ x1 = x0 → Ru M_M_noiseOf d Q 18 [some (.int a0), some (.int a1), some (.int a2)] [] τ) ∧ (x1 = x0 → Ru M_M_noiseOf d Q 12 [some (.int a0), some (.int a1), some (.int a2)] [] τ))) ∧
    (∀ (a0 : Int32) (a1 : Int32) (a2 : Int32) (τ : St), Ru M_M_noiseOf d Q 12 [some (.int a0), some (.int a1), some (.int a2)] [] τ = Ru M_M_noiseOf d Q 13 [some (.int a0), some (.int a1), some (.int a2)] [.int a2] τ) ∧
    (∀ (a0 : Int32) (a1 : Int32) (a2 : Int32) (x0 : Int32) (τ : St), Ru M_M_noiseOf d Q 13 [some (.int a0), some (.int a1), some (.int a2)] [.int x0] τ = Ru M_M_noiseOf d Q 14 [some (.int a0), some (.int a1), some (.int a2)] [.int 2, .int x0] τ) ∧
    (∀ (a0 : Int32) (a1 : Int32) (a2 : Int32) (x0 : Int32) (x1 : Int32) (τ : St), Ru M_M_noiseOf d Q 14 [some (.int a0), some (.int a1), some (.int a2)] [.int x0, .int x1] τ = (¬ x0 = 0 ∧ Ru M_M_noiseOf d Q 15 [some (.int a0), some (.int a1), some (.int a2)] [.int (x1 / x0)] τ)) ∧
    (∀ (a0 : Int32) (a1 : Int32) (a2 : Int32) (x0 : Int32) (τ : St), Ru M_M_noiseOf d Q 15 [some (.int a0), some (.int a1), some (.int a2)] [.int x0] τ = Ru M_M_noiseOf d Q 32 [some (.int a0), some (.int a1), some (.int a2)] [.int x0] τ) ∧
    (∀ (a0 : Int32) (a1 : Int32) (a2 : Int32) (τ : St), Ru M_M_noiseOf d Q 18 [some (.int a0), some (.int a1), some (.int a2)] [] τ = Ru M_M_noiseOf d Q 19 [some (.int a0), some (.int a1), some (.int a2)] [.int a1] τ) ∧
    (∀ (a0 : Int32) (a1 : Int32) (a2 : Int32) (x0 : Int32) (τ : St), Ru M_M_noiseOf d Q 19 [some (.int a0), some (.int a1), some (.int a2)] [.int x0] τ = Ru M_M_noiseOf d Q 20 [some (.int a0), some (.int a1), some (.int a2)] [.int 4, .int x0] τ) ∧
    (∀ (a0 : Int32) (a1 : Int32) (a2 : Int32) (x0 : Int32) (x1 : Int32) (τ : St), Ru M_M_noiseOf d Q 20 [some (.int a0), some (.int a1), some (.int a2)] [.int x0, .int x1] τ = (¬ x0 = 0 ∧ Ru M_M_noiseOf d Q 21 [some (.int a0), some (.int a1), some (.int a2)] [.int (x1 - x1 / x0 * x0)] τ)) ∧
    (∀ (a0 : Int32) (a1 : Int32) (a2 : Int32) (x0 : Int32) (τ : St), Ru M_M_noiseOf d Q 21 [some (.int a0), some (.int a1), some (.int a2)] [.int x0] τ = Ru M_M_noiseOf d Q 22 [some (.int a0), some (.int a1), some (.int a2)] [.int 2, .int x0] τ) ∧
    (∀ (a0 : Int32) (a1 : Int32) (a2 : Int32) (x0 : Int32) (x1 : Int32) (τ : St), Ru M_M_noiseOf d Q 22 [some (.int a0), some (.int a1), some (.int a2)] [.int x0, .int x1] τ = ((¬ x1 = x0 → Ru M_M_noiseOf d Q 31 [some (.int a0), some (.int a1), some (.int a2)] [] τ) ∧ (x1 = x0 → Ru M_M_noiseOf d Q 25 [some (.int a0), some (.int a1), some (.int a2)] [] τ))) ∧
    (∀ (a0 : Int32) (a1 : Int32) (a2 : Int32) (τ : St), Ru M_M_noiseOf d Q 25 [some (.int a0), some (.int a1), some (.int a2)] [] τ = Ru M_M_noiseOf d Q 26 [some (.int a0), some (.int a1), some (.int a2)] [.int 2] τ) ∧
    (∀ (a0 : Int32) (a1 : Int32) (a2 : Int32) (x0 : Int32) (τ : St), Ru M_M_noiseOf d Q 26 [some (.int a0), some (.int a1), some (.int a2)] [.int x0] τ = Ru M_M_noiseOf d Q 27 [some (.int a0), some (.int a1), some (.int a2)] [.int a2, .int x0] τ) ∧
    (∀ (a0 : Int32) (a1 : Int32) (a2 : Int32) (x0 : Int32) (x1 : Int32) (τ : St), Ru M_M_noiseOf d Q 27 [some (.int a0), some (.int a1), some (.int a2)] [.int x0, .int x1] τ = Ru M_M_noiseOf d Q 28 [some (.int a0), some (.int a1), some (.int a2)] [.int (x1 * x0)] τ) ∧
    (∀ (a0 : Int32) (a1 : Int32) (a2 : Int32) (x0 : Int32) (τ : St), Ru M_M_noiseOf d Q 28 [some (.int a0), some (.int a1), some (.int a2)] [.int x0] τ = Ru M_M_noiseOf d Q 32 [some (.int a0), some (.int a1), some (.int a2)] [.int x0] τ) ∧
    (∀ (a0 : Int32) (a1 : Int32) (a2 : Int32) (τ : St), Ru M_M_noiseOf d Q 31 [some (.int a0), some (.int a1), some (.int a2)] [] τ = Ru M_M_noiseOf d Q 32 [some (.int a0), some (.int a1), some (.int a2)] [.int a2] τ) ∧
    (∀ (a0 : Int32) (a1 : Int32) (a2 : Int32) (x0 : Int32) (τ : St), Ru M_M_noiseOf d Q 32 [some (.int a0), some (.int a1), some (.int a2)] [.int x0] τ = Q (some (.int x0)) τ) := ⟨
  fun _ _ _ => (R_at ok_M_noiseOf rfl).trans (e_ild rfl),
  fun _ _ _ _ => (R_at ok_M_noiseOf rfl).trans e_push,
  fun _ _ _ _ _ => (R_at ok_M_noiseOf rfl).trans e_binz,
  fun _ _ _ _ => (R_at ok_M_noiseOf rfl).trans e_ist,
  fun _ _ _ _ => (R_at ok_M_noiseOf rfl).trans (e_ild rfl),
  fun _ _ _ _ _ => (R_at ok_M_noiseOf rfl).trans e_push,
  fun _ _ _ _ _ _ => (R_at ok_M_noiseOf rfl).trans e_binz,
  fun _ _ _ _ _ => (R_at ok_M_noiseOf rfl).trans e_push,
  fun _ _ _ _ _ _ => (R_at ok_M_noiseOf rfl).trans e_icn,
  fun _ _ _ _ => (R_at ok_M_noiseOf rfl).trans (e_ild rfl),
  fun _ _ _ _ _ => (R_at ok_M_noiseOf rfl).trans e_push,
  fun _ _ _ _ _ _ => (R_at ok_M_noiseOf rfl).trans e_binz,
  fun _ _ _ _ _ => (R_at ok_M_noiseOf rfl).trans e_goto,
  fun _ _ _ _ => (R_at ok_M_noiseOf rfl).trans (e_ild rfl),
  fun _ _ _ _ _ => (R_at ok_M_noiseOf rfl).trans e_push,
  fun _ _ _ _ _ _ => (R_at ok_M_noiseOf rfl).trans e_binz,
  fun _ _ _ _ _ => (R_at ok_M_noiseOf rfl).trans e_push,
  fun _ _ _ _ _ _ => (R_at ok_M_noiseOf rfl).trans e_icn,
  fun _ _ _ _ => (R_at ok_M_noiseOf rfl).trans e_push,
  fun _ _ _ _ _ => (R_at ok_M_noiseOf rfl).trans (e_ild rfl),
  fun _ _ _ _ _ _ => (R_at ok_M_noiseOf rfl).trans e_bin,
  fun _ _ _ _ _ => (R_at ok_M_noiseOf rfl).trans e_goto,
  fun _ _ _ _ => (R_at ok_M_noiseOf rfl).trans (e_ild rfl),
  fun _ _ _ _ _ => (R_at ok_M_noiseOf rfl).trans e_iret⟩
