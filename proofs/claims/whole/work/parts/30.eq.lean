/-! what each method does, an instruction an equation -/
theorem e_ifnullN {K : Kt} {C : Ct} {Q : Qt} {L : Lc} {r : List Value} {τ : St} {nx tg : Nat} : t_ifnull tg nx K C Q L (.null :: r) τ = K tg L r τ := propext ⟨fun k => k.elim (fun ⟨_, q, k⟩ => by cases q; exact k) (fun ⟨_, _, q, _⟩ => by cases q), fun k => Or.inl ⟨r, rfl, k⟩⟩
theorem e_ifnullR {K : Kt} {C : Ct} {Q : Qt} {L : Lc} {r : List Value} {τ : St} {nx tg k : Nat} : t_ifnull tg nx K C Q L (.ref k :: r) τ = K nx L r τ := propext ⟨fun k => k.elim (fun ⟨_, q, _⟩ => by cases q) (fun ⟨_, _, q, k⟩ => by cases q; exact k), fun h => Or.inr ⟨k, r, rfl, h⟩⟩
set_option maxHeartbeats 4000000 in
theorem N_Ground_has (d : Nat) (Q : Qt) : ∀ (x0 : Nat) (x1 : Int32) (τ : St), Cl (d + 1) m_Ground_has [.ref x0, .int x1] τ Q = Ru M_Ground_has d Q 0 [some (.ref x0), some (.int x1)] [] τ := fun _ _ _ => propext ⟨fun h => h.2, fun h => ⟨Nat.le_of_ble_eq_true rfl, h⟩⟩
set_option maxHeartbeats 4000000 in
theorem E_Ground_has (d : Nat) (Q : Qt) :
    (∀ (a0 : Nat) (a1 : Int32) (τ : St), Ru M_Ground_has d Q 0 [some (.ref a0), some (.int a1)] [] τ = Ru M_Ground_has d Q 1 [some (.ref a0), some (.int a1)] [.int a1] τ) ∧
    (∀ (a0 : Nat) (a1 : Int32) (x0 : Int32) (τ : St), Ru M_Ground_has d Q 1 [some (.ref a0), some (.int a1)] [.int x0] τ = ((x0 < 0 → Ru M_Ground_has d Q 22 [some (.ref a0), some (.int a1)] [] τ) ∧ (¬ x0 < 0 → Ru M_Ground_has d Q 4 [some (.ref a0), some (.int a1)] [] τ))) ∧
    (∀ (a0 : Nat) (a1 : Int32) (τ : St), Ru M_Ground_has d Q 4 [some (.ref a0), some (.int a1)] [] τ = Ru M_Ground_has d Q 5 [some (.ref a0), some (.int a1)] [.int a1] τ) ∧
    (∀ (a0 : Nat) (a1 : Int32) (x0 : Int32) (τ : St), Ru M_Ground_has d Q 5 [some (.ref a0), some (.int a1)] [.int x0] τ = Ru M_Ground_has d Q 6 [some (.ref a0), some (.int a1)] [.ref a0, .int x0] τ) ∧
    (∀ (a0 : Nat) (a1 : Int32) (x0 : Nat) (x1 : Int32) (τ : St), Ru M_Ground_has d Q 6 [some (.ref a0), some (.int a1)] [.ref x0, .int x1] τ = (isA 0 x0 ∧ Ru M_Ground_has d Q 9 [some (.ref a0), some (.int a1)] [.int (τ.1 x0 2), .int x1] τ)) ∧
    (∀ (a0 : Nat) (a1 : Int32) (x0 : Int32) (x1 : Int32) (τ : St), Ru M_Ground_has d Q 9 [some (.ref a0), some (.int a1)] [.int x0, .int x1] τ = ((x0 ≤ x1 → Ru M_Ground_has d Q 22 [some (.ref a0), some (.int a1)] [] τ) ∧ (¬ x0 ≤ x1 → Ru M_Ground_has d Q 12 [some (.ref a0), some (.int a1)] [] τ))) ∧
    (∀ (a0 : Nat) (a1 : Int32) (τ : St), Ru M_Ground_has d Q 12 [some (.ref a0), some (.int a1)] [] τ = Ru M_Ground_has d Q 13 [some (.ref a0), some (.int a1)] [.int a1] τ) ∧
    (∀ (a0 : Nat) (a1 : Int32) (x0 : Int32) (τ : St), Ru M_Ground_has d Q 13 [some (.ref a0), some (.int a1)] [.int x0] τ = Ru M_Ground_has d Q 15 [some (.ref a0), some (.int a1)] [.int 36, .int x0] τ) ∧
    (∀ (a0 : Nat) (a1 : Int32) (x0 : Int32) (x1 : Int32) (τ : St), Ru M_Ground_has d Q 15 [some (.ref a0), some (.int a1)] [.int x0, .int x1] τ = ((x0 ≤ x1 → Ru M_Ground_has d Q 22 [some (.ref a0), some (.int a1)] [] τ) ∧ (¬ x0 ≤ x1 → Ru M_Ground_has d Q 18 [some (.ref a0), some (.int a1)] [] τ))) ∧
    (∀ (a0 : Nat) (a1 : Int32) (τ : St), Ru M_Ground_has d Q 18 [some (.ref a0), some (.int a1)] [] τ = Ru M_Ground_has d Q 19 [some (.ref a0), some (.int a1)] [.int 1] τ) ∧
    (∀ (a0 : Nat) (a1 : Int32) (x0 : Int32) (τ : St), Ru M_Ground_has d Q 19 [some (.ref a0), some (.int a1)] [.int x0] τ = Ru M_Ground_has d Q 23 [some (.ref a0), some (.int a1)] [.int x0] τ) ∧
    (∀ (a0 : Nat) (a1 : Int32) (τ : St), Ru M_Ground_has d Q 22 [some (.ref a0), some (.int a1)] [] τ = Ru M_Ground_has d Q 23 [some (.ref a0), some (.int a1)] [.int 0] τ) ∧
    (∀ (a0 : Nat) (a1 : Int32) (x0 : Int32) (τ : St), Ru M_Ground_has d Q 23 [some (.ref a0), some (.int a1)] [.int x0] τ = ((x0 = 0 ∨ x0 = 1) ∧ Q (some (.int x0)) τ)) := ⟨
  fun _ _ _ => (R_at ok_Ground_has rfl).trans (e_ild rfl),
  fun _ _ _ _ => (R_at ok_Ground_has rfl).trans e_if,
  fun _ _ _ => (R_at ok_Ground_has rfl).trans (e_ild rfl),
  fun _ _ _ _ => (R_at ok_Ground_has rfl).trans (e_ald rfl),
  fun _ _ _ _ _ => (R_at ok_Ground_has rfl).trans e_gI,
  fun _ _ _ _ _ => (R_at ok_Ground_has rfl).trans e_ic,
  fun _ _ _ => (R_at ok_Ground_has rfl).trans (e_ild rfl),
  fun _ _ _ _ => (R_at ok_Ground_has rfl).trans e_push,
  fun _ _ _ _ _ => (R_at ok_Ground_has rfl).trans e_ic,
  fun _ _ _ => (R_at ok_Ground_has rfl).trans e_push,
  fun _ _ _ _ => (R_at ok_Ground_has rfl).trans e_goto,
  fun _ _ _ => (R_at ok_Ground_has rfl).trans e_push,
  fun _ _ _ _ => (R_at ok_Ground_has rfl).trans e_zret⟩
set_option maxHeartbeats 4000000 in
theorem N_Ground_kindOf (d : Nat) (Q : Qt) : ∀ (x0 : Nat) (x1 : Int32) (τ : St), Cl (d + 1) m_Ground_kindOf [.ref x0, .int x1] τ Q = Ru M_Ground_kindOf d Q 0 [some (.ref x0), some (.int x1)] [] τ := fun _ _ _ => propext ⟨fun h => h.2, fun h => ⟨Nat.le_of_ble_eq_true rfl, h⟩⟩
set_option maxHeartbeats 4000000 in
theorem E_Ground_kindOf (d : Nat) (Q : Qt) :
    (∀ (a0 : Nat) (a1 : Int32) (τ : St), Ru M_Ground_kindOf d Q 0 [some (.ref a0), some (.int a1)] [] τ = Ru M_Ground_kindOf d Q 1 [some (.ref a0), some (.int a1)] [.ref a0] τ) ∧
    (∀ (a0 : Nat) (a1 : Int32) (x0 : Nat) (τ : St), Ru M_Ground_kindOf d Q 1 [some (.ref a0), some (.int a1)] [.ref x0] τ = Ru M_Ground_kindOf d Q 2 [some (.ref a0), some (.int a1)] [.int a1, .ref x0] τ) ∧
    (∀ (a0 : Nat) (a1 : Int32) (x0 : Int32) (x1 : Nat) (τ : St), Ru M_Ground_kindOf d Q 2 [some (.ref a0), some (.int a1)] [.int x0, .ref x1] τ = (isA 0 x1 ∧ Cl d m_Ground_has [.ref x1, .int x0] τ (fun v τ' => Ru M_Ground_kindOf d Q 5 [some (.ref a0), some (.int a1)] (v.toList ++ []) τ'))) ∧
    (∀ (a0 : Nat) (a1 : Int32) (x0 : Int32) (τ : St), Ru M_Ground_kindOf d Q 5 [some (.ref a0), some (.int a1)] [.int x0] τ = ((x0 = 0 → Ru M_Ground_kindOf d Q 17 [some (.ref a0), some (.int a1)] [] τ) ∧ (¬ x0 = 0 → Ru M_Ground_kindOf d Q 8 [some (.ref a0), some (.int a1)] [] τ))) ∧
    (∀ (a0 : Nat) (a1 : Int32) (τ : St), Ru M_Ground_kindOf d Q 8 [some (.ref a0), some (.int a1)] [] τ = Ru M_Ground_kindOf d Q 9 [some (.ref a0), some (.int a1)] [.ref a0] τ) ∧
    (∀ (a0 : Nat) (a1 : Int32) (x0 : Nat) (τ : St), Ru M_Ground_kindOf d Q 9 [some (.ref a0), some (.int a1)] [.ref x0] τ = (isA 0 x0 ∧ Ru M_Ground_kindOf d Q 12 [some (.ref a0), some (.int a1)] [.ref (rtab x0 3)] τ)) ∧
    (∀ (a0 : Nat) (a1 : Int32) (x0 : Nat) (τ : St), Ru M_Ground_kindOf d Q 12 [some (.ref a0), some (.int a1)] [.ref x0] τ = Ru M_Ground_kindOf d Q 13 [some (.ref a0), some (.int a1)] [.int a1, .ref x0] τ) ∧
    (∀ (a0 : Nat) (a1 : Int32) (x0 : Int32) (x1 : Nat) (τ : St), Ru M_Ground_kindOf d Q 13 [some (.ref a0), some (.int a1)] [.int x0, .ref x1] τ = (isA 14 x1 ∧ vp_in x0 (len x1) ∧ Ru M_Ground_kindOf d Q 14 [some (.ref a0), some (.int a1)] [.int (τ.1 x1 x0.toNatClampNeg)] τ)) ∧
    (∀ (a0 : Nat) (a1 : Int32) (x0 : Int32) (τ : St), Ru M_Ground_kindOf d Q 14 [some (.ref a0), some (.int a1)] [.int x0] τ = Ru M_Ground_kindOf d Q 18 [some (.ref a0), some (.int a1)] [.int x0] τ) ∧
    (∀ (a0 : Nat) (a1 : Int32) (τ : St), Ru M_Ground_kindOf d Q 17 [some (.ref a0), some (.int a1)] [] τ = Ru M_Ground_kindOf d Q 18 [some (.ref a0), some (.int a1)] [.int 3] τ) ∧
    (∀ (a0 : Nat) (a1 : Int32) (x0 : Int32) (τ : St), Ru M_Ground_kindOf d Q 18 [some (.ref a0), some (.int a1)] [.int x0] τ = Q (some (.int x0)) τ) := ⟨
  fun _ _ _ => (R_at ok_Ground_kindOf rfl).trans (e_ald rfl),
  fun _ _ _ _ => (R_at ok_Ground_kindOf rfl).trans (e_ild rfl),
  fun _ _ x0 _ _ => (R_at ok_Ground_kindOf rfl).trans (e_cv [.int x0] rfl rfl rfl),
  fun _ _ _ _ => (R_at ok_Ground_kindOf rfl).trans e_if,
  fun _ _ _ => (R_at ok_Ground_kindOf rfl).trans (e_ald rfl),
  fun _ _ _ _ => (R_at ok_Ground_kindOf rfl).trans e_gR,
  fun _ _ _ _ => (R_at ok_Ground_kindOf rfl).trans (e_ild rfl),
  fun _ _ _ _ _ => (R_at ok_Ground_kindOf rfl).trans e_al,
  fun _ _ _ _ => (R_at ok_Ground_kindOf rfl).trans e_goto,
  fun _ _ _ => (R_at ok_Ground_kindOf rfl).trans e_push,
  fun _ _ _ _ => (R_at ok_Ground_kindOf rfl).trans e_iret⟩
set_option maxHeartbeats 4000000 in
theorem N_Ground_heightOf (d : Nat) (Q : Qt) : ∀ (x0 : Nat) (x1 : Int32) (τ : St), Cl (d + 1) m_Ground_heightOf [.ref x0, .int x1] τ Q = Ru M_Ground_heightOf d Q 0 [some (.ref x0), some (.int x1)] [] τ := fun _ _ _ => propext ⟨fun h => h.2, fun h => ⟨Nat.le_of_ble_eq_true rfl, h⟩⟩
set_option maxHeartbeats 4000000 in
theorem E_Ground_heightOf (d : Nat) (Q : Qt) :
    (∀ (a0 : Nat) (a1 : Int32) (τ : St), Ru M_Ground_heightOf d Q 0 [some (.ref a0), some (.int a1)] [] τ = Ru M_Ground_heightOf d Q 1 [some (.ref a0), some (.int a1)] [.int a1] τ) ∧
    (∀ (a0 : Nat) (a1 : Int32) (x0 : Int32) (τ : St), Ru M_Ground_heightOf d Q 1 [some (.ref a0), some (.int a1)] [.int x0] τ = ((x0 < 0 → Ru M_Ground_heightOf d Q 19 [some (.ref a0), some (.int a1)] [] τ) ∧ (¬ x0 < 0 → Ru M_Ground_heightOf d Q 4 [some (.ref a0), some (.int a1)] [] τ))) ∧
    (∀ (a0 : Nat) (a1 : Int32) (τ : St), Ru M_Ground_heightOf d Q 4 [some (.ref a0), some (.int a1)] [] τ = Ru M_Ground_heightOf d Q 5 [some (.ref a0), some (.int a1)] [.int a1] τ) ∧
    (∀ (a0 : Nat) (a1 : Int32) (x0 : Int32) (τ : St), Ru M_Ground_heightOf d Q 5 [some (.ref a0), some (.int a1)] [.int x0] τ = Ru M_Ground_heightOf d Q 7 [some (.ref a0), some (.int a1)] [.int 36, .int x0] τ) ∧
    (∀ (a0 : Nat) (a1 : Int32) (x0 : Int32) (x1 : Int32) (τ : St), Ru M_Ground_heightOf d Q 7 [some (.ref a0), some (.int a1)] [.int x0, .int x1] τ = ((x0 ≤ x1 → Ru M_Ground_heightOf d Q 19 [some (.ref a0), some (.int a1)] [] τ) ∧ (¬ x0 ≤ x1 → Ru M_Ground_heightOf d Q 10 [some (.ref a0), some (.int a1)] [] τ))) ∧
    (∀ (a0 : Nat) (a1 : Int32) (τ : St), Ru M_Ground_heightOf d Q 10 [some (.ref a0), some (.int a1)] [] τ = Ru M_Ground_heightOf d Q 11 [some (.ref a0), some (.int a1)] [.ref a0] τ) ∧
    (∀ (a0 : Nat) (a1 : Int32) (x0 : Nat) (τ : St), Ru M_Ground_heightOf d Q 11 [some (.ref a0), some (.int a1)] [.ref x0] τ = (isA 0 x0 ∧ Ru M_Ground_heightOf d Q 14 [some (.ref a0), some (.int a1)] [.ref (rtab x0 4)] τ)) ∧
    (∀ (a0 : Nat) (a1 : Int32) (x0 : Nat) (τ : St), Ru M_Ground_heightOf d Q 14 [some (.ref a0), some (.int a1)] [.ref x0] τ = Ru M_Ground_heightOf d Q 15 [some (.ref a0), some (.int a1)] [.int a1, .ref x0] τ) ∧
    (∀ (a0 : Nat) (a1 : Int32) (x0 : Int32) (x1 : Nat) (τ : St), Ru M_Ground_heightOf d Q 15 [some (.ref a0), some (.int a1)] [.int x0, .ref x1] τ = (isA 14 x1 ∧ vp_in x0 (len x1) ∧ Ru M_Ground_heightOf d Q 16 [some (.ref a0), some (.int a1)] [.int (τ.1 x1 x0.toNatClampNeg)] τ)) ∧
    (∀ (a0 : Nat) (a1 : Int32) (x0 : Int32) (τ : St), Ru M_Ground_heightOf d Q 16 [some (.ref a0), some (.int a1)] [.int x0] τ = Ru M_Ground_heightOf d Q 20 [some (.ref a0), some (.int a1)] [.int x0] τ) ∧
    (∀ (a0 : Nat) (a1 : Int32) (τ : St), Ru M_Ground_heightOf d Q 19 [some (.ref a0), some (.int a1)] [] τ = Ru M_Ground_heightOf d Q 20 [some (.ref a0), some (.int a1)] [.int 0] τ) ∧
    (∀ (a0 : Nat) (a1 : Int32) (x0 : Int32) (τ : St), Ru M_Ground_heightOf d Q 20 [some (.ref a0), some (.int a1)] [.int x0] τ = Q (some (.int x0)) τ) := ⟨
  fun _ _ _ => (R_at ok_Ground_heightOf rfl).trans (e_ild rfl),
  fun _ _ _ _ => (R_at ok_Ground_heightOf rfl).trans e_if,
  fun _ _ _ => (R_at ok_Ground_heightOf rfl).trans (e_ild rfl),
  fun _ _ _ _ => (R_at ok_Ground_heightOf rfl).trans e_push,
  fun _ _ _ _ _ => (R_at ok_Ground_heightOf rfl).trans e_ic,
  fun _ _ _ => (R_at ok_Ground_heightOf rfl).trans (e_ald rfl),
  fun _ _ _ _ => (R_at ok_Ground_heightOf rfl).trans e_gR,
  fun _ _ _ _ => (R_at ok_Ground_heightOf rfl).trans (e_ild rfl),
  fun _ _ _ _ _ => (R_at ok_Ground_heightOf rfl).trans e_al,
  fun _ _ _ _ => (R_at ok_Ground_heightOf rfl).trans e_goto,
  fun _ _ _ => (R_at ok_Ground_heightOf rfl).trans e_push,
  fun _ _ _ _ => (R_at ok_Ground_heightOf rfl).trans e_iret⟩
set_option maxHeartbeats 4000000 in
theorem N_Ground_beside (d : Nat) (Q : Qt) : ∀ (x0 : Nat) (x1 : Int32) (x2 : Int32) (τ : St), Cl (d + 1) m_Ground_beside [.ref x0, .int x1, .int x2] τ Q = Ru M_Ground_beside d Q 0 [some (.ref x0), some (.int x1), some (.int x2)] [] τ := fun _ _ _ _ => propext ⟨fun h => h.2, fun h => ⟨Nat.le_of_ble_eq_true rfl, h⟩⟩
set_option maxHeartbeats 4000000 in
theorem E_Ground_beside (d : Nat) (Q : Qt) :
    (∀ (a0 : Nat) (a1 : Int32) (a2 : Int32) (τ : St), Ru M_Ground_beside d Q 0 [some (.ref a0), some (.int a1), some (.int a2)] [] τ = Ru M_Ground_beside d Q 1 [some (.ref a0), some (.int a1), some (.int a2)] [.ref a0] τ) ∧
    (∀ (a0 : Nat) (a1 : Int32) (a2 : Int32) (x0 : Nat) (τ : St), Ru M_Ground_beside d Q 1 [some (.ref a0), some (.int a1), some (.int a2)] [.ref x0] τ = Ru M_Ground_beside d Q 2 [some (.ref a0), some (.int a1), some (.int a2)] [.int a1, .ref x0] τ) ∧
    (∀ (a0 : Nat) (a1 : Int32) (a2 : Int32) (x0 : Int32) (x1 : Nat) (τ : St), Ru M_Ground_beside d Q 2 [some (.ref a0), some (.int a1), some (.int a2)] [.int x0, .ref x1] τ = (isA 0 x1 ∧ Cl d m_Ground_has [.ref x1, .int x0] τ (fun v τ' => Ru M_Ground_beside d Q 5 [some (.ref a0), some (.int a1), some (.int a2)] (v.toList ++ []) τ'))) ∧
    (∀ (a0 : Nat) (a1 : Int32) (a2 : Int32) (x0 : Int32) (τ : St), Ru M_Ground_beside d Q 5 [some (.ref a0), some (.int a1), some (.int a2)] [.int x0] τ = ((x0 = 0 → Ru M_Ground_beside d Q 17 [some (.ref a0), some (.int a1), some (.int a2)] [] τ) ∧ (¬ x0 = 0 → Ru M_Ground_beside d Q 8 [some (.ref a0), some (.int a1), some (.int a2)] [] τ))) ∧
    (∀ (a0 : Nat) (a1 : Int32) (a2 : Int32) (τ : St), Ru M_Ground_beside d Q 8 [some (.ref a0), some (.int a1), some (.int a2)] [] τ = Ru M_Ground_beside d Q 9 [some (.ref a0), some (.int a1), some (.int a2)] [.int a2] τ) ∧
    (∀ (a0 : Nat) (a1 : Int32) (a2 : Int32) (x0 : Int32) (τ : St), Ru M_Ground_beside d Q 9 [some (.ref a0), some (.int a1), some (.int a2)] [.int x0] τ = ((x0 < 0 → Ru M_Ground_beside d Q 17 [some (.ref a0), some (.int a1), some (.int a2)] [] τ) ∧ (¬ x0 < 0 → Ru M_Ground_beside d Q 12 [some (.ref a0), some (.int a1), some (.int a2)] [] τ))) ∧
    (∀ (a0 : Nat) (a1 : Int32) (a2 : Int32) (τ : St), Ru M_Ground_beside d Q 12 [some (.ref a0), some (.int a1), some (.int a2)] [] τ = Ru M_Ground_beside d Q 13 [some (.ref a0), some (.int a1), some (.int a2)] [.int a2] τ) ∧
    (∀ (a0 : Nat) (a1 : Int32) (a2 : Int32) (x0 : Int32) (τ : St), Ru M_Ground_beside d Q 13 [some (.ref a0), some (.int a1), some (.int a2)] [.int x0] τ = Ru M_Ground_beside d Q 14 [some (.ref a0), some (.int a1), some (.int a2)] [.int 4, .int x0] τ) ∧
    (∀ (a0 : Nat) (a1 : Int32) (a2 : Int32) (x0 : Int32) (x1 : Int32) (τ : St), Ru M_Ground_beside d Q 14 [some (.ref a0), some (.int a1), some (.int a2)] [.int x0, .int x1] τ = ((x1 < x0 → Ru M_Ground_beside d Q 19 [some (.ref a0), some (.int a1), some (.int a2)] [] τ) ∧ (¬ x1 < x0 → Ru M_Ground_beside d Q 17 [some (.ref a0), some (.int a1), some (.int a2)] [] τ))) ∧
    (∀ (a0 : Nat) (a1 : Int32) (a2 : Int32) (τ : St), Ru M_Ground_beside d Q 17 [some (.ref a0), some (.int a1), some (.int a2)] [] τ = Ru M_Ground_beside d Q 18 [some (.ref a0), some (.int a1), some (.int a2)] [.int (-1)] τ) ∧
    (∀ (a0 : Nat) (a1 : Int32) (a2 : Int32) (x0 : Int32) (τ : St), Ru M_Ground_beside d Q 18 [some (.ref a0), some (.int a1), some (.int a2)] [.int x0] τ = Q (some (.int x0)) τ) ∧
    (∀ (a0 : Nat) (a1 : Int32) (a2 : Int32) (τ : St), Ru M_Ground_beside d Q 19 [some (.ref a0), some (.int a1), some (.int a2)] [] τ = Ru M_Ground_beside d Q 20 [some (.ref a0), some (.int a1), some (.int a2)] [.ref a0] τ) ∧
    (∀ (a0 : Nat) (a1 : Int32) (a2 : Int32) (x0 : Nat) (τ : St), Ru M_Ground_beside d Q 20 [some (.ref a0), some (.int a1), some (.int a2)] [.ref x0] τ = (isA 0 x0 ∧ Ru M_Ground_beside d Q 23 [some (.ref a0), some (.int a1), some (.int a2)] [.ref (rtab x0 5)] τ)) ∧
    (∀ (a0 : Nat) (a1 : Int32) (a2 : Int32) (x0 : Nat) (τ : St), Ru M_Ground_beside d Q 23 [some (.ref a0), some (.int a1), some (.int a2)] [.ref x0] τ = Ru M_Ground_beside d Q 24 [some (.ref a0), some (.int a1), some (.int a2)] [.int a1, .ref x0] τ) ∧
    (∀ (a0 : Nat) (a1 : Int32) (a2 : Int32) (x0 : Int32) (x1 : Nat) (τ : St), Ru M_Ground_beside d Q 24 [some (.ref a0), some (.int a1), some (.int a2)] [.int x0, .ref x1] τ = Ru M_Ground_beside d Q 25 [some (.ref a0), some (.int a1), some (.int a2)] [.int 4, .int x0, .ref x1] τ) ∧
    (∀ (a0 : Nat) (a1 : Int32) (a2 : Int32) (x0 : Int32) (x1 : Int32) (x2 : Nat) (τ : St), Ru M_Ground_beside d Q 25 [some (.ref a0), some (.int a1), some (.int a2)] [.int x0, .int x1, .ref x2] τ = Ru M_Ground_beside d Q 26 [some (.ref a0), some (.int a1), some (.int a2)] [.int (x1 * x0), .ref x2] τ) ∧
    (∀ (a0 : Nat) (a1 : Int32) (a2 : Int32) (x0 : Int32) (x1 : Nat) (τ : St), Ru M_Ground_beside d Q 26 [some (.ref a0), some (.int a1), some (.int a2)] [.int x0, .ref x1] τ = Ru M_Ground_beside d Q 27 [some (.ref a0), some (.int a1), some (.int a2)] [.int a2, .int x0, .ref x1] τ) ∧
    (∀ (a0 : Nat) (a1 : Int32) (a2 : Int32) (x0 : Int32) (x1 : Int32) (x2 : Nat) (τ : St), Ru M_Ground_beside d Q 27 [some (.ref a0), some (.int a1), some (.int a2)] [.int x0, .int x1, .ref x2] τ = Ru M_Ground_beside d Q 28 [some (.ref a0), some (.int a1), some (.int a2)] [.int (x1 + x0), .ref x2] τ) ∧
    (∀ (a0 : Nat) (a1 : Int32) (a2 : Int32) (x0 : Int32) (x1 : Nat) (τ : St), Ru M_Ground_beside d Q 28 [some (.ref a0), some (.int a1), some (.int a2)] [.int x0, .ref x1] τ = (isA 14 x1 ∧ vp_in x0 (len x1) ∧ Ru M_Ground_beside d Q 29 [some (.ref a0), some (.int a1), some (.int a2)] [.int (τ.1 x1 x0.toNatClampNeg)] τ)) ∧
    (∀ (a0 : Nat) (a1 : Int32) (a2 : Int32) (x0 : Int32) (τ : St), Ru M_Ground_beside d Q 29 [some (.ref a0), some (.int a1), some (.int a2)] [.int x0] τ = Q (some (.int x0)) τ) := ⟨
  fun _ _ _ _ => (R_at ok_Ground_beside rfl).trans (e_ald rfl),
  fun _ _ _ _ _ => (R_at ok_Ground_beside rfl).trans (e_ild rfl),
  fun _ _ _ x0 _ _ => (R_at ok_Ground_beside rfl).trans (e_cv [.int x0] rfl rfl rfl),
  fun _ _ _ _ _ => (R_at ok_Ground_beside rfl).trans e_if,
  fun _ _ _ _ => (R_at ok_Ground_beside rfl).trans (e_ild rfl),
  fun _ _ _ _ _ => (R_at ok_Ground_beside rfl).trans e_if,
  fun _ _ _ _ => (R_at ok_Ground_beside rfl).trans (e_ild rfl),
  fun _ _ _ _ _ => (R_at ok_Ground_beside rfl).trans e_push,
  fun _ _ _ _ _ _ => (R_at ok_Ground_beside rfl).trans e_ic,
  fun _ _ _ _ => (R_at ok_Ground_beside rfl).trans e_push,
  fun _ _ _ _ _ => (R_at ok_Ground_beside rfl).trans e_iret,
  fun _ _ _ _ => (R_at ok_Ground_beside rfl).trans (e_ald rfl),
  fun _ _ _ _ _ => (R_at ok_Ground_beside rfl).trans e_gR,
  fun _ _ _ _ _ => (R_at ok_Ground_beside rfl).trans (e_ild rfl),
  fun _ _ _ _ _ _ => (R_at ok_Ground_beside rfl).trans e_push,
  fun _ _ _ _ _ _ _ => (R_at ok_Ground_beside rfl).trans e_bin,
  fun _ _ _ _ _ _ => (R_at ok_Ground_beside rfl).trans (e_ild rfl),
  fun _ _ _ _ _ _ _ => (R_at ok_Ground_beside rfl).trans e_bin,
  fun _ _ _ _ _ _ => (R_at ok_Ground_beside rfl).trans e_al,
  fun _ _ _ _ _ => (R_at ok_Ground_beside rfl).trans e_iret⟩
set_option maxHeartbeats 4000000 in
theorem N_Ground_canRead (d : Nat) (Q : Qt) : ∀ (x0 : Nat) (x1 : Nat) (τ : St), Cl (d + 1) m_Ground_canRead [.ref x0, .ref x1] τ Q = Ru M_Ground_canRead d Q 0 [some (.ref x0), some (.ref x1), none, none, none] [] τ := fun _ _ _ => propext ⟨fun h => h.2, fun h => ⟨Nat.le_of_ble_eq_true rfl, h⟩⟩
set_option maxHeartbeats 4000000 in
theorem E_Ground_canRead (d : Nat) (Q : Qt) :
    (∀ (a0 : Nat) (a1 : Nat) (τ : St), Ru M_Ground_canRead d Q 0 [some (.ref a0), some (.ref a1), none, none, none] [] τ = Ru M_Ground_canRead d Q 1 [some (.ref a0), some (.ref a1), none, none, none] [.int 0] τ) ∧
    (∀ (a0 : Nat) (a1 : Nat) (x0 : Int32) (τ : St), Ru M_Ground_canRead d Q 1 [some (.ref a0), some (.ref a1), none, none, none] [.int x0] τ = Ru M_Ground_canRead d Q 2 [some (.ref a0), some (.ref a1), some (.int x0), none, none] [] τ) ∧
    (∀ (a0 : Nat) (a1 : Nat) (a2 : Int32) (τ : St), Ru M_Ground_canRead d Q 2 [some (.ref a0), some (.ref a1), some (.int a2), none, none] [] τ = Ru M_Ground_canRead d Q 3 [some (.ref a0), some (.ref a1), some (.int a2), none, none] [.int 0] τ) ∧
    (∀ (a0 : Nat) (a1 : Nat) (a2 : Int32) (x0 : Int32) (τ : St), Ru M_Ground_canRead d Q 3 [some (.ref a0), some (.ref a1), some (.int a2), none, none] [.int x0] τ = Rs M_Ground_canRead d Q 4 [some (.ref a0), some (.ref a1), some (.int a2), some (.int x0), none] [] τ) ∧
    (∀ (a0 : Nat) (a1 : Nat) (a2 : Int32) (a3 : Int32) (a4 : Option Value) (τ : St), Ru M_Ground_canRead d Q 4 [some (.ref a0), some (.ref a1), some (.int a2), some (.int a3), a4] [] τ = Ru M_Ground_canRead d Q 5 [some (.ref a0), some (.ref a1), some (.int a2), some (.int a3), a4] [.int a3] τ) ∧
    (∀ (a0 : Nat) (a1 : Nat) (a2 : Int32) (a3 : Int32) (a4 : Option Value) (x0 : Int32) (τ : St), Ru M_Ground_canRead d Q 5 [some (.ref a0), some (.ref a1), some (.int a2), some (.int a3), a4] [.int x0] τ = Ru M_Ground_canRead d Q 7 [some (.ref a0), some (.ref a1), some (.int a2), some (.int a3), a4] [.int 6, .int x0] τ) ∧
    (∀ (a0 : Nat) (a1 : Nat) (a2 : Int32) (a3 : Int32) (a4 : Option Value) (x0 : Int32) (x1 : Int32) (τ : St), Ru M_Ground_canRead d Q 7 [some (.ref a0), some (.ref a1), some (.int a2), some (.int a3), a4] [.int x0, .int x1] τ = ((x0 ≤ x1 → Ru M_Ground_canRead d Q 77 [some (.ref a0), some (.ref a1), some (.int a2), some (.int a3), a4] [] τ) ∧ (¬ x0 ≤ x1 → Ru M_Ground_canRead d Q 10 [some (.ref a0), some (.ref a1), some (.int a2), some (.int a3), a4] [] τ))) ∧
    (∀ (a0 : Nat) (a1 : Nat) (a2 : Int32) (a3 : Int32) (a4 : Option Value) (τ : St), Ru M_Ground_canRead d Q 10 [some (.ref a0), some (.ref a1), some (.int a2), some (.int a3), a4] [] τ = Ru M_Ground_canRead d Q 11 [some (.ref a0), some (.ref a1), some (.int a2), some (.int a3), a4] [.ref a1] τ) ∧
    (∀ (a0 : Nat) (a1 : Nat) (a2 : Int32) (a3 : Int32) (a4 : Option Value) (x0 : Nat) (τ : St), Ru M_Ground_canRead d Q 11 [some (.ref a0), some (.ref a1), some (.int a2), some (.int a3), a4] [.ref x0] τ = Ru M_Ground_canRead d Q 12 [some (.ref a0), some (.ref a1), some (.int a2), some (.int a3), a4] [.int a3, .ref x0] τ) ∧
    (∀ (a0 : Nat) (a1 : Nat) (a2 : Int32) (a3 : Int32) (a4 : Option Value) (x0 : Int32) (x1 : Nat) (τ : St), Ru M_Ground_canRead d Q 12 [some (.ref a0), some (.ref a1), some (.int a2), some (.int a3), a4] [.int x0, .ref x1] τ = ((¬ x0 = 0 → Ru M_Ground_canRead d Q 20 [some (.ref a0), some (.ref a1), some (.int a2), some (.int a3), a4] [.ref x1] τ) ∧ (x0 = 0 → Ru M_Ground_canRead d Q 15 [some (.ref a0), some (.ref a1), some (.int a2), some (.int a3), a4] [.ref x1] τ))) ∧
    (∀ (a0 : Nat) (a1 : Nat) (a2 : Int32) (a3 : Int32) (a4 : Option Value) (x0 : Nat) (τ : St), Ru M_Ground_canRead d Q 15 [some (.ref a0), some (.ref a1), some (.int a2), some (.int a3), a4] [.ref x0] τ = Ru M_Ground_canRead d Q 17 [some (.ref a0), some (.ref a1), some (.int a2), some (.int a3), a4] [.int 6, .ref x0] τ) ∧
    (∀ (a0 : Nat) (a1 : Nat) (a2 : Int32) (a3 : Int32) (a4 : Option Value) (x0 : Int32) (x1 : Nat) (τ : St), Ru M_Ground_canRead d Q 17 [some (.ref a0), some (.ref a1), some (.int a2), some (.int a3), a4] [.int x0, .ref x1] τ = Rs M_Ground_canRead d Q 21 [some (.ref a0), some (.ref a1), some (.int a2), some (.int a3), a4] [.int x0, .ref x1] τ) ∧
    (∀ (a0 : Nat) (a1 : Nat) (a2 : Int32) (a3 : Int32) (a4 : Option Value) (x0 : Nat) (τ : St), Ru M_Ground_canRead d Q 20 [some (.ref a0), some (.ref a1), some (.int a2), some (.int a3), a4] [.ref x0] τ = Rs M_Ground_canRead d Q 21 [some (.ref a0), some (.ref a1), some (.int a2), some (.int a3), a4] [.int a2, .ref x0] τ) ∧
    (∀ (a0 : Nat) (a1 : Nat) (a2 : Int32) (a3 : Int32) (a4 : Option Value) (x0 : Int32) (x1 : Nat) (τ : St), Ru M_Ground_canRead d Q 21 [some (.ref a0), some (.ref a1), some (.int a2), some (.int a3), a4] [.int x0, .ref x1] τ = Cl d m_Ground_fieldsAhead [.ref x1, .int x0] τ (fun v τ' => Ru M_Ground_canRead d Q 24 [some (.ref a0), some (.ref a1), some (.int a2), some (.int a3), a4] (v.toList ++ []) τ')) ∧
    (∀ (a0 : Nat) (a1 : Nat) (a2 : Int32) (a3 : Int32) (a4 : Option Value) (x0 : Int32) (τ : St), Ru M_Ground_canRead d Q 24 [some (.ref a0), some (.ref a1), some (.int a2), some (.int a3), a4] [.int x0] τ = Ru M_Ground_canRead d Q 26 [some (.ref a0), some (.ref a1), some (.int a2), some (.int a3), some (.int x0)] [] τ) ∧
    (∀ (a0 : Nat) (a1 : Nat) (a2 : Int32) (a3 : Int32) (a4 : Int32) (τ : St), Ru M_Ground_canRead d Q 26 [some (.ref a0), some (.ref a1), some (.int a2), some (.int a3), some (.int a4)] [] τ = Ru M_Ground_canRead d Q 28 [some (.ref a0), some (.ref a1), some (.int a2), some (.int a3), some (.int a4)] [.int a4] τ) ∧
    (∀ (a0 : Nat) (a1 : Nat) (a2 : Int32) (a3 : Int32) (a4 : Int32) (x0 : Int32) (τ : St), Ru M_Ground_canRead d Q 28 [some (.ref a0), some (.ref a1), some (.int a2), some (.int a3), some (.int a4)] [.int x0] τ = ((x0 = 0 → Ru M_Ground_canRead d Q 41 [some (.ref a0), some (.ref a1), some (.int a2), some (.int a3), some (.int a4)] [] τ) ∧ (¬ x0 = 0 → Ru M_Ground_canRead d Q 31 [some (.ref a0), some (.ref a1), some (.int a2), some (.int a3), some (.int a4)] [] τ))) ∧
    (∀ (a0 : Nat) (a1 : Nat) (a2 : Int32) (a3 : Int32) (a4 : Int32) (τ : St), Ru M_Ground_canRead d Q 31 [some (.ref a0), some (.ref a1), some (.int a2), some (.int a3), some (.int a4)] [] τ = Ru M_Ground_canRead d Q 32 [some (.ref a0), some (.ref a1), some (.int a2), some (.int a3), some (.int a4)] [.int a3] τ) ∧
    (∀ (a0 : Nat) (a1 : Nat) (a2 : Int32) (a3 : Int32) (a4 : Int32) (x0 : Int32) (τ : St), Ru M_Ground_canRead d Q 32 [some (.ref a0), some (.ref a1), some (.int a2), some (.int a3), some (.int a4)] [.int x0] τ = ((x0 ≤ 0 → Ru M_Ground_canRead d Q 43 [some (.ref a0), some (.ref a1), some (.int a2), some (.int a3), some (.int a4)] [] τ) ∧ (¬ x0 ≤ 0 → Ru M_Ground_canRead d Q 35 [some (.ref a0), some (.ref a1), some (.int a2), some (.int a3), some (.int a4)] [] τ))) ∧
    (∀ (a0 : Nat) (a1 : Nat) (a2 : Int32) (a3 : Int32) (a4 : Int32) (τ : St), Ru M_Ground_canRead d Q 35 [some (.ref a0), some (.ref a1), some (.int a2), some (.int a3), some (.int a4)] [] τ = Ru M_Ground_canRead d Q 37 [some (.ref a0), some (.ref a1), some (.int a2), some (.int a3), some (.int a4)] [.int a4] τ) ∧
    (∀ (a0 : Nat) (a1 : Nat) (a2 : Int32) (a3 : Int32) (a4 : Int32) (x0 : Int32) (τ : St), Ru M_Ground_canRead d Q 37 [some (.ref a0), some (.ref a1), some (.int a2), some (.int a3), some (.int a4)] [.int x0] τ = Ru M_Ground_canRead d Q 38 [some (.ref a0), some (.ref a1), some (.int a2), some (.int a3), some (.int a4)] [.int a2, .int x0] τ) ∧
    (∀ (a0 : Nat) (a1 : Nat) (a2 : Int32) (a3 : Int32) (a4 : Int32) (x0 : Int32) (x1 : Int32) (τ : St), Ru M_Ground_canRead d Q 38 [some (.ref a0), some (.ref a1), some (.int a2), some (.int a3), some (.int a4)] [.int x0, .int x1] τ = ((x0 ≤ x1 → Ru M_Ground_canRead d Q 43 [some (.ref a0), some (.ref a1), some (.int a2), some (.int a3), some (.int a4)] [] τ) ∧ (¬ x0 ≤ x1 → Ru M_Ground_canRead d Q 41 [some (.ref a0), some (.ref a1), some (.int a2), some (.int a3), some (.int a4)] [] τ))) ∧
    (∀ (a0 : Nat) (a1 : Nat) (a2 : Int32) (a3 : Int32) (a4 : Int32) (τ : St), Ru M_Ground_canRead d Q 41 [some (.ref a0), some (.ref a1), some (.int a2), some (.int a3), some (.int a4)] [] τ = Ru M_Ground_canRead d Q 42 [some (.ref a0), some (.ref a1), some (.int a2), some (.int a3), some (.int a4)] [.int 0] τ) ∧
    (∀ (a0 : Nat) (a1 : Nat) (a2 : Int32) (a3 : Int32) (a4 : Int32) (x0 : Int32) (τ : St), Ru M_Ground_canRead d Q 42 [some (.ref a0), some (.ref a1), some (.int a2), some (.int a3), some (.int a4)] [.int x0] τ = ((x0 = 0 ∨ x0 = 1) ∧ Q (some (.int x0)) τ)) ∧
    (∀ (a0 : Nat) (a1 : Nat) (a2 : Int32) (a3 : Int32) (a4 : Int32) (τ : St), Ru M_Ground_canRead d Q 43 [some (.ref a0), some (.ref a1), some (.int a2), some (.int a3), some (.int a4)] [] τ = Ru M_Ground_canRead d Q 45 [some (.ref a0), some (.ref a1), some (.int a2), some (.int a3), some (.int a4)] [.int a4] τ) ∧
    (∀ (a0 : Nat) (a1 : Nat) (a2 : Int32) (a3 : Int32) (a4 : Int32) (x0 : Int32) (τ : St), Ru M_Ground_canRead d Q 45 [some (.ref a0), some (.ref a1), some (.int a2), some (.int a3), some (.int a4)] [.int x0] τ = Ru M_Ground_canRead d Q 46 [some (.ref a0), some (.ref a1), some (.int x0), some (.int a3), some (.int a4)] [] τ) ∧
    (∀ (a0 : Nat) (a1 : Nat) (a2 : Int32) (a3 : Int32) (a4 : Int32) (τ : St), Ru M_Ground_canRead d Q 46 [some (.ref a0), some (.ref a1), some (.int a2), some (.int a3), some (.int a4)] [] τ = Ru M_Ground_canRead d Q 47 [some (.ref a0), some (.ref a1), some (.int a2), some (.int a3), some (.int a4)] [.ref a1] τ) ∧
    (∀ (a0 : Nat) (a1 : Nat) (a2 : Int32) (a3 : Int32) (a4 : Int32) (x0 : Nat) (τ : St), Ru M_Ground_canRead d Q 47 [some (.ref a0), some (.ref a1), some (.int a2), some (.int a3), some (.int a4)] [.ref x0] τ = (isA 6 x0 ∧ Cl d m_Text_finished [.ref x0] τ (fun v τ' => Ru M_Ground_canRead d Q 50 [some (.ref a0), some (.ref a1), some (.int a2), some (.int a3), some (.int a4)] (v.toList ++ []) τ'))) ∧
    (∀ (a0 : Nat) (a1 : Nat) (a2 : Int32) (a3 : Int32) (a4 : Int32) (x0 : Int32) (τ : St), Ru M_Ground_canRead d Q 50 [some (.ref a0), some (.ref a1), some (.int a2), some (.int a3), some (.int a4)] [.int x0] τ = ((x0 = 0 → Ru M_Ground_canRead d Q 55 [some (.ref a0), some (.ref a1), some (.int a2), some (.int a3), some (.int a4)] [] τ) ∧ (¬ x0 = 0 → Ru M_Ground_canRead d Q 53 [some (.ref a0), some (.ref a1), some (.int a2), some (.int a3), some (.int a4)] [] τ))) ∧
    (∀ (a0 : Nat) (a1 : Nat) (a2 : Int32) (a3 : Int32) (a4 : Int32) (τ : St), Ru M_Ground_canRead d Q 53 [some (.ref a0), some (.ref a1), some (.int a2), some (.int a3), some (.int a4)] [] τ = Ru M_Ground_canRead d Q 54 [some (.ref a0), some (.ref a1), some (.int a2), some (.int a3), some (.int a4)] [.int 1] τ) ∧
    (∀ (a0 : Nat) (a1 : Nat) (a2 : Int32) (a3 : Int32) (a4 : Int32) (x0 : Int32) (τ : St), Ru M_Ground_canRead d Q 54 [some (.ref a0), some (.ref a1), some (.int a2), some (.int a3), some (.int a4)] [.int x0] τ = ((x0 = 0 ∨ x0 = 1) ∧ Q (some (.int x0)) τ)) ∧
    (∀ (a0 : Nat) (a1 : Nat) (a2 : Int32) (a3 : Int32) (a4 : Int32) (τ : St), Ru M_Ground_canRead d Q 55 [some (.ref a0), some (.ref a1), some (.int a2), some (.int a3), some (.int a4)] [] τ = Ru M_Ground_canRead d Q 56 [some (.ref a0), some (.ref a1), some (.int a2), some (.int a3), some (.int a4)] [.int a3] τ) ∧
    (∀ (a0 : Nat) (a1 : Nat) (a2 : Int32) (a3 : Int32) (a4 : Int32) (x0 : Int32) (τ : St), Ru M_Ground_canRead d Q 56 [some (.ref a0), some (.ref a1), some (.int a2), some (.int a3), some (.int a4)] [.int x0] τ = Ru M_Ground_canRead d Q 57 [some (.ref a0), some (.ref a1), some (.int a2), some (.int a3), some (.int a4)] [.int 5, .int x0] τ) ∧
    (∀ (a0 : Nat) (a1 : Nat) (a2 : Int32) (a3 : Int32) (a4 : Int32) (x0 : Int32) (x1 : Int32) (τ : St), Ru M_Ground_canRead d Q 57 [some (.ref a0), some (.ref a1), some (.int a2), some (.int a3), some (.int a4)] [.int x0, .int x1] τ = ((x1 = x0 → Ru M_Ground_canRead d Q 69 [some (.ref a0), some (.ref a1), some (.int a2), some (.int a3), some (.int a4)] [] τ) ∧ (¬ x1 = x0 → Ru M_Ground_canRead d Q 60 [some (.ref a0), some (.ref a1), some (.int a2), some (.int a3), some (.int a4)] [] τ))) ∧
    (∀ (a0 : Nat) (a1 : Nat) (a2 : Int32) (a3 : Int32) (a4 : Int32) (τ : St), Ru M_Ground_canRead d Q 60 [some (.ref a0), some (.ref a1), some (.int a2), some (.int a3), some (.int a4)] [] τ = Ru M_Ground_canRead d Q 61 [some (.ref a0), some (.ref a1), some (.int a2), some (.int a3), some (.int a4)] [.ref a1] τ) ∧
    (∀ (a0 : Nat) (a1 : Nat) (a2 : Int32) (a3 : Int32) (a4 : Int32) (x0 : Nat) (τ : St), Ru M_Ground_canRead d Q 61 [some (.ref a0), some (.ref a1), some (.int a2), some (.int a3), some (.int a4)] [.ref x0] τ = Ru M_Ground_canRead d Q 63 [some (.ref a0), some (.ref a1), some (.int a2), some (.int a3), some (.int a4)] [.int 47, .ref x0] τ) ∧
    (∀ (a0 : Nat) (a1 : Nat) (a2 : Int32) (a3 : Int32) (a4 : Int32) (x0 : Int32) (x1 : Nat) (τ : St), Ru M_Ground_canRead d Q 63 [some (.ref a0), some (.ref a1), some (.int a2), some (.int a3), some (.int a4)] [.int x0, .ref x1] τ = (isA 6 x1 ∧ Cl d m_Text_takeSign [.ref x1, .int x0] τ (fun v τ' => Ru M_Ground_canRead d Q 66 [some (.ref a0), some (.ref a1), some (.int a2), some (.int a3), some (.int a4)] (v.toList ++ []) τ'))) ∧
    (∀ (a0 : Nat) (a1 : Nat) (a2 : Int32) (a3 : Int32) (a4 : Int32) (x0 : Int32) (τ : St), Ru M_Ground_canRead d Q 66 [some (.ref a0), some (.ref a1), some (.int a2), some (.int a3), some (.int a4)] [.int x0] τ = ((¬ x0 = 0 → Ru M_Ground_canRead d Q 71 [some (.ref a0), some (.ref a1), some (.int a2), some (.int a3), some (.int a4)] [] τ) ∧ (x0 = 0 → Ru M_Ground_canRead d Q 69 [some (.ref a0), some (.ref a1), some (.int a2), some (.int a3), some (.int a4)] [] τ))) ∧
    (∀ (a0 : Nat) (a1 : Nat) (a2 : Int32) (a3 : Int32) (a4 : Int32) (τ : St), Ru M_Ground_canRead d Q 69 [some (.ref a0), some (.ref a1), some (.int a2), some (.int a3), some (.int a4)] [] τ = Ru M_Ground_canRead d Q 70 [some (.ref a0), some (.ref a1), some (.int a2), some (.int a3), some (.int a4)] [.int 0] τ) ∧
    (∀ (a0 : Nat) (a1 : Nat) (a2 : Int32) (a3 : Int32) (a4 : Int32) (x0 : Int32) (τ : St), Ru M_Ground_canRead d Q 70 [some (.ref a0), some (.ref a1), some (.int a2), some (.int a3), some (.int a4)] [.int x0] τ = ((x0 = 0 ∨ x0 = 1) ∧ Q (some (.int x0)) τ)) ∧
    (∀ (a0 : Nat) (a1 : Nat) (a2 : Int32) (a3 : Int32) (a4 : Int32) (τ : St), Ru M_Ground_canRead d Q 71 [some (.ref a0), some (.ref a1), some (.int a2), some (.int a3), some (.int a4)] [] τ = Ru M_Ground_canRead d Q 74 [some (.ref a0), some (.ref a1), some (.int a2), some (.int (a3 + 1)), some (.int a4)] [] τ) ∧
    (∀ (a0 : Nat) (a1 : Nat) (a2 : Int32) (a3 : Int32) (a4 : Int32) (τ : St), Ru M_Ground_canRead d Q 74 [some (.ref a0), some (.ref a1), some (.int a2), some (.int a3), some (.int a4)] [] τ = Rs M_Ground_canRead d Q 4 [some (.ref a0), some (.ref a1), some (.int a2), some (.int a3), some (.int a4)] [] τ) ∧
    (∀ (a0 : Nat) (a1 : Nat) (a2 : Int32) (a3 : Int32) (a4 : Option Value) (τ : St), Ru M_Ground_canRead d Q 77 [some (.ref a0), some (.ref a1), some (.int a2), some (.int a3), a4] [] τ = Ru M_Ground_canRead d Q 78 [some (.ref a0), some (.ref a1), some (.int a2), some (.int a3), a4] [.int 0] τ) ∧
    (∀ (a0 : Nat) (a1 : Nat) (a2 : Int32) (a3 : Int32) (a4 : Option Value) (x0 : Int32) (τ : St), Ru M_Ground_canRead d Q 78 [some (.ref a0), some (.ref a1), some (.int a2), some (.int a3), a4] [.int x0] τ = ((x0 = 0 ∨ x0 = 1) ∧ Q (some (.int x0)) τ)) := ⟨
  fun _ _ _ => (R_at ok_Ground_canRead rfl).trans e_push,
  fun _ _ _ _ => (R_at ok_Ground_canRead rfl).trans e_ist,
  fun _ _ _ _ => (R_at ok_Ground_canRead rfl).trans e_push,
  fun _ _ _ _ _ => (R_at ok_Ground_canRead rfl).trans e_ist,
  fun _ _ _ _ _ _ => (R_at ok_Ground_canRead rfl).trans (e_ild rfl),
  fun _ _ _ _ _ _ _ => (R_at ok_Ground_canRead rfl).trans e_push,
  fun _ _ _ _ _ _ _ _ => (R_at ok_Ground_canRead rfl).trans e_ic,
  fun _ _ _ _ _ _ => (R_at ok_Ground_canRead rfl).trans (e_ald rfl),
  fun _ _ _ _ _ _ _ => (R_at ok_Ground_canRead rfl).trans (e_ild rfl),
  fun _ _ _ _ _ _ _ _ => (R_at ok_Ground_canRead rfl).trans e_ifn,
  fun _ _ _ _ _ _ _ => (R_at ok_Ground_canRead rfl).trans e_push,
  fun _ _ _ _ _ _ _ _ => (R_at ok_Ground_canRead rfl).trans e_goto,
  fun _ _ _ _ _ _ _ => (R_at ok_Ground_canRead rfl).trans (e_ild rfl),
  fun _ _ _ _ _ x0 x1 _ => (R_at ok_Ground_canRead rfl).trans (e_cs [.ref x1, .int x0] rfl rfl rfl),
  fun _ _ _ _ _ _ _ => (R_at ok_Ground_canRead rfl).trans e_ist,
  fun _ _ _ _ _ _ => (R_at ok_Ground_canRead rfl).trans (e_ild rfl),
  fun _ _ _ _ _ _ _ => (R_at ok_Ground_canRead rfl).trans e_if,
  fun _ _ _ _ _ _ => (R_at ok_Ground_canRead rfl).trans (e_ild rfl),
  fun _ _ _ _ _ _ _ => (R_at ok_Ground_canRead rfl).trans e_if,
  fun _ _ _ _ _ _ => (R_at ok_Ground_canRead rfl).trans (e_ild rfl),
  fun _ _ _ _ _ _ _ => (R_at ok_Ground_canRead rfl).trans (e_ild rfl),
  fun _ _ _ _ _ _ _ _ => (R_at ok_Ground_canRead rfl).trans e_ic,
  fun _ _ _ _ _ _ => (R_at ok_Ground_canRead rfl).trans e_push,
  fun _ _ _ _ _ _ _ => (R_at ok_Ground_canRead rfl).trans e_zret,
  fun _ _ _ _ _ _ => (R_at ok_Ground_canRead rfl).trans (e_ild rfl),
  fun _ _ _ _ _ _ _ => (R_at ok_Ground_canRead rfl).trans e_ist,
  fun _ _ _ _ _ _ => (R_at ok_Ground_canRead rfl).trans (e_ald rfl),
  fun _ _ _ _ _ _ _ => (R_at ok_Ground_canRead rfl).trans (e_cv [] rfl rfl rfl),
  fun _ _ _ _ _ _ _ => (R_at ok_Ground_canRead rfl).trans e_if,
  fun _ _ _ _ _ _ => (R_at ok_Ground_canRead rfl).trans e_push,
  fun _ _ _ _ _ _ _ => (R_at ok_Ground_canRead rfl).trans e_zret,
  fun _ _ _ _ _ _ => (R_at ok_Ground_canRead rfl).trans (e_ild rfl),
  fun _ _ _ _ _ _ _ => (R_at ok_Ground_canRead rfl).trans e_push,
  fun _ _ _ _ _ _ _ _ => (R_at ok_Ground_canRead rfl).trans e_ic,
  fun _ _ _ _ _ _ => (R_at ok_Ground_canRead rfl).trans (e_ald rfl),
  fun _ _ _ _ _ _ _ => (R_at ok_Ground_canRead rfl).trans e_push,
  fun _ _ _ _ _ x0 _ _ => (R_at ok_Ground_canRead rfl).trans (e_cv [.int x0] rfl rfl rfl),
  fun _ _ _ _ _ _ _ => (R_at ok_Ground_canRead rfl).trans e_ifn,
  fun _ _ _ _ _ _ => (R_at ok_Ground_canRead rfl).trans e_push,
  fun _ _ _ _ _ _ _ => (R_at ok_Ground_canRead rfl).trans e_zret,
  fun _ _ _ _ _ _ => (R_at ok_Ground_canRead rfl).trans (e_iinc rfl),
  fun _ _ _ _ _ _ => (R_at ok_Ground_canRead rfl).trans e_goto,
  fun _ _ _ _ _ _ => (R_at ok_Ground_canRead rfl).trans e_push,
  fun _ _ _ _ _ _ _ => (R_at ok_Ground_canRead rfl).trans e_zret⟩
set_option maxHeartbeats 4000000 in
theorem N_Ground_fieldsAhead (d : Nat) (Q : Qt) : ∀ (x0 : Nat) (x1 : Int32) (τ : St), Cl (d + 1) m_Ground_fieldsAhead [.ref x0, .int x1] τ Q = Ru M_Ground_fieldsAhead d Q 0 [some (.ref x0), some (.int x1), none] [] τ := fun _ _ _ => propext ⟨fun h => h.2, fun h => ⟨Nat.le_of_ble_eq_true rfl, h⟩⟩
set_option maxHeartbeats 4000000 in
theorem E_Ground_fieldsAhead (d : Nat) (Q : Qt) :
    (∀ (a0 : Nat) (a1 : Int32) (τ : St), Ru M_Ground_fieldsAhead d Q 0 [some (.ref a0), some (.int a1), none] [] τ = Ru M_Ground_fieldsAhead d Q 1 [some (.ref a0), some (.int a1), none] [.int 0] τ) ∧
    (∀ (a0 : Nat) (a1 : Int32) (x0 : Int32) (τ : St), Ru M_Ground_fieldsAhead d Q 1 [some (.ref a0), some (.int a1), none] [.int x0] τ = Rs M_Ground_fieldsAhead d Q 2 [some (.ref a0), some (.int a1), some (.int x0)] [] τ) ∧
    (∀ (a0 : Nat) (a1 : Int32) (a2 : Int32) (τ : St), Ru M_Ground_fieldsAhead d Q 2 [some (.ref a0), some (.int a1), some (.int a2)] [] τ = Ru M_Ground_fieldsAhead d Q 3 [some (.ref a0), some (.int a1), some (.int a2)] [.int a2] τ) ∧
    (∀ (a0 : Nat) (a1 : Int32) (a2 : Int32) (x0 : Int32) (τ : St), Ru M_Ground_fieldsAhead d Q 3 [some (.ref a0), some (.int a1), some (.int a2)] [.int x0] τ = Ru M_Ground_fieldsAhead d Q 4 [some (.ref a0), some (.int a1), some (.int a2)] [.int a1, .int x0] τ) ∧
    (∀ (a0 : Nat) (a1 : Int32) (a2 : Int32) (x0 : Int32) (x1 : Int32) (τ : St), Ru M_Ground_fieldsAhead d Q 4 [some (.ref a0), some (.int a1), some (.int a2)] [.int x0, .int x1] τ = ((x0 ≤ x1 → Ru M_Ground_fieldsAhead d Q 30 [some (.ref a0), some (.int a1), some (.int a2)] [] τ) ∧ (¬ x0 ≤ x1 → Ru M_Ground_fieldsAhead d Q 7 [some (.ref a0), some (.int a1), some (.int a2)] [] τ))) ∧
    (∀ (a0 : Nat) (a1 : Int32) (a2 : Int32) (τ : St), Ru M_Ground_fieldsAhead d Q 7 [some (.ref a0), some (.int a1), some (.int a2)] [] τ = Ru M_Ground_fieldsAhead d Q 8 [some (.ref a0), some (.int a1), some (.int a2)] [.ref a0] τ) ∧
    (∀ (a0 : Nat) (a1 : Int32) (a2 : Int32) (x0 : Nat) (τ : St), Ru M_Ground_fieldsAhead d Q 8 [some (.ref a0), some (.int a1), some (.int a2)] [.ref x0] τ = (isA 6 x0 ∧ Cl d m_Text_peek [.ref x0] τ (fun v τ' => Ru M_Ground_fieldsAhead d Q 11 [some (.ref a0), some (.int a1), some (.int a2)] (v.toList ++ []) τ'))) ∧
    (∀ (a0 : Nat) (a1 : Int32) (a2 : Int32) (x0 : Int32) (τ : St), Ru M_Ground_fieldsAhead d Q 11 [some (.ref a0), some (.int a1), some (.int a2)] [.int x0] τ = Cl d m_Ground_kindTold [.int x0] τ (fun v τ' => Ru M_Ground_fieldsAhead d Q 14 [some (.ref a0), some (.int a1), some (.int a2)] (v.toList ++ []) τ')) ∧
    (∀ (a0 : Nat) (a1 : Int32) (a2 : Int32) (x0 : Int32) (τ : St), Ru M_Ground_fieldsAhead d Q 14 [some (.ref a0), some (.int a1), some (.int a2)] [.int x0] τ = Ru M_Ground_fieldsAhead d Q 15 [some (.ref a0), some (.int a1), some (.int a2)] [.int (-1), .int x0] τ) ∧
    (∀ (a0 : Nat) (a1 : Int32) (a2 : Int32) (x0 : Int32) (x1 : Int32) (τ : St), Ru M_Ground_fieldsAhead d Q 15 [some (.ref a0), some (.int a1), some (.int a2)] [.int x0, .int x1] τ = ((¬ x1 = x0 → Ru M_Ground_fieldsAhead d Q 20 [some (.ref a0), some (.int a1), some (.int a2)] [] τ) ∧ (x1 = x0 → Ru M_Ground_fieldsAhead d Q 18 [some (.ref a0), some (.int a1), some (.int a2)] [] τ))) ∧
    (∀ (a0 : Nat) (a1 : Int32) (a2 : Int32) (τ : St), Ru M_Ground_fieldsAhead d Q 18 [some (.ref a0), some (.int a1), some (.int a2)] [] τ = Ru M_Ground_fieldsAhead d Q 19 [some (.ref a0), some (.int a1), some (.int a2)] [.int a2] τ) ∧
    (∀ (a0 : Nat) (a1 : Int32) (a2 : Int32) (x0 : Int32) (τ : St), Ru M_Ground_fieldsAhead d Q 19 [some (.ref a0), some (.int a1), some (.int a2)] [.int x0] τ = Q (some (.int x0)) τ) ∧
    (∀ (a0 : Nat) (a1 : Int32) (a2 : Int32) (τ : St), Ru M_Ground_fieldsAhead d Q 20 [some (.ref a0), some (.int a1), some (.int a2)] [] τ = Ru M_Ground_fieldsAhead d Q 21 [some (.ref a0), some (.int a1), some (.int a2)] [.ref a0] τ) ∧
    (∀ (a0 : Nat) (a1 : Int32) (a2 : Int32) (x0 : Nat) (τ : St), Ru M_Ground_fieldsAhead d Q 21 [some (.ref a0), some (.int a1), some (.int a2)] [.ref x0] τ = (isA 6 x0 ∧ Cl d m_Text_step [.ref x0] τ (fun v τ' => Ru M_Ground_fieldsAhead d Q 24 [some (.ref a0), some (.int a1), some (.int a2)] (v.toList ++ []) τ'))) ∧
    (∀ (a0 : Nat) (a1 : Int32) (a2 : Int32) (τ : St), Ru M_Ground_fieldsAhead d Q 24 [some (.ref a0), some (.int a1), some (.int a2)] [] τ = Ru M_Ground_fieldsAhead d Q 27 [some (.ref a0), some (.int a1), some (.int (a2 + 1))] [] τ) ∧
    (∀ (a0 : Nat) (a1 : Int32) (a2 : Int32) (τ : St), Ru M_Ground_fieldsAhead d Q 27 [some (.ref a0), some (.int a1), some (.int a2)] [] τ = Rs M_Ground_fieldsAhead d Q 2 [some (.ref a0), some (.int a1), some (.int a2)] [] τ) ∧
    (∀ (a0 : Nat) (a1 : Int32) (a2 : Int32) (τ : St), Ru M_Ground_fieldsAhead d Q 30 [some (.ref a0), some (.int a1), some (.int a2)] [] τ = Ru M_Ground_fieldsAhead d Q 31 [some (.ref a0), some (.int a1), some (.int a2)] [.int a1] τ) ∧
    (∀ (a0 : Nat) (a1 : Int32) (a2 : Int32) (x0 : Int32) (τ : St), Ru M_Ground_fieldsAhead d Q 31 [some (.ref a0), some (.int a1), some (.int a2)] [.int x0] τ = Q (some (.int x0)) τ) := ⟨
  fun _ _ _ => (R_at ok_Ground_fieldsAhead rfl).trans e_push,
  fun _ _ _ _ => (R_at ok_Ground_fieldsAhead rfl).trans e_ist,
  fun _ _ _ _ => (R_at ok_Ground_fieldsAhead rfl).trans (e_ild rfl),
  fun _ _ _ _ _ => (R_at ok_Ground_fieldsAhead rfl).trans (e_ild rfl),
  fun _ _ _ _ _ _ => (R_at ok_Ground_fieldsAhead rfl).trans e_ic,
  fun _ _ _ _ => (R_at ok_Ground_fieldsAhead rfl).trans (e_ald rfl),
  fun _ _ _ _ _ => (R_at ok_Ground_fieldsAhead rfl).trans (e_cv [] rfl rfl rfl),
  fun _ _ _ x0 _ => (R_at ok_Ground_fieldsAhead rfl).trans (e_cs [.int x0] rfl rfl rfl),
  fun _ _ _ _ _ => (R_at ok_Ground_fieldsAhead rfl).trans e_push,
  fun _ _ _ _ _ _ => (R_at ok_Ground_fieldsAhead rfl).trans e_icn,
  fun _ _ _ _ => (R_at ok_Ground_fieldsAhead rfl).trans (e_ild rfl),
  fun _ _ _ _ _ => (R_at ok_Ground_fieldsAhead rfl).trans e_iret,
  fun _ _ _ _ => (R_at ok_Ground_fieldsAhead rfl).trans (e_ald rfl),
  fun _ _ _ _ _ => (R_at ok_Ground_fieldsAhead rfl).trans (e_cv [] rfl rfl rfl),
  fun _ _ _ _ => (R_at ok_Ground_fieldsAhead rfl).trans (e_iinc rfl),
  fun _ _ _ _ => (R_at ok_Ground_fieldsAhead rfl).trans e_goto,
  fun _ _ _ _ => (R_at ok_Ground_fieldsAhead rfl).trans (e_ild rfl),
  fun _ _ _ _ _ => (R_at ok_Ground_fieldsAhead rfl).trans e_iret⟩
set_option maxHeartbeats 4000000 in
theorem N_Ground_kindTold (d : Nat) (Q : Qt) : ∀ (x0 : Int32) (τ : St), Cl (d + 1) m_Ground_kindTold [.int x0] τ Q = Ru M_Ground_kindTold d Q 0 [some (.int x0)] [] τ := fun _ _ => propext ⟨fun h => h.2, fun h => ⟨Nat.le_of_ble_eq_true rfl, h⟩⟩
set_option maxHeartbeats 4000000 in
theorem E_Ground_kindTold (d : Nat) (Q : Qt) :
    (∀ (a0 : Int32) (τ : St), Ru M_Ground_kindTold d Q 0 [some (.int a0)] [] τ = Ru M_Ground_kindTold d Q 1 [some (.int a0)] [.int a0] τ) ∧
    (∀ (a0 : Int32) (x0 : Int32) (τ : St), Ru M_Ground_kindTold d Q 1 [some (.int a0)] [.int x0] τ = ((∀ q ∈ ([(35, 40), (42, 38), (126, 36)] : List (Int32 × Nat)), x0 = q.1 → Ru M_Ground_kindTold d Q q.2 [some (.int a0)] [] τ) ∧ ((∀ q ∈ ([(35, 40), (42, 38), (126, 36)] : List (Int32 × Nat)), ¬ x0 = q.1) → Ru M_Ground_kindTold d Q 42 [some (.int a0)] [] τ))) ∧
    (∀ (a0 : Int32) (τ : St), Ru M_Ground_kindTold d Q 36 [some (.int a0)] [] τ = Ru M_Ground_kindTold d Q 37 [some (.int a0)] [.int 1] τ) ∧
    (∀ (a0 : Int32) (x0 : Int32) (τ : St), Ru M_Ground_kindTold d Q 37 [some (.int a0)] [.int x0] τ = Q (some (.int x0)) τ) ∧
    (∀ (a0 : Int32) (τ : St), Ru M_Ground_kindTold d Q 38 [some (.int a0)] [] τ = Ru M_Ground_kindTold d Q 39 [some (.int a0)] [.int 2] τ) ∧
    (∀ (a0 : Int32) (x0 : Int32) (τ : St), Ru M_Ground_kindTold d Q 39 [some (.int a0)] [.int x0] τ = Q (some (.int x0)) τ) ∧
    (∀ (a0 : Int32) (τ : St), Ru M_Ground_kindTold d Q 40 [some (.int a0)] [] τ = Ru M_Ground_kindTold d Q 41 [some (.int a0)] [.int 3] τ) ∧
    (∀ (a0 : Int32) (x0 : Int32) (τ : St), Ru M_Ground_kindTold d Q 41 [some (.int a0)] [.int x0] τ = Q (some (.int x0)) τ) ∧
    (∀ (a0 : Int32) (τ : St), Ru M_Ground_kindTold d Q 42 [some (.int a0)] [] τ = Ru M_Ground_kindTold d Q 43 [some (.int a0)] [.int a0] τ) ∧
    (∀ (a0 : Int32) (x0 : Int32) (τ : St), Ru M_Ground_kindTold d Q 43 [some (.int a0)] [.int x0] τ = Ru M_Ground_kindTold d Q 45 [some (.int a0)] [.int 48, .int x0] τ) ∧
    (∀ (a0 : Int32) (x0 : Int32) (x1 : Int32) (τ : St), Ru M_Ground_kindTold d Q 45 [some (.int a0)] [.int x0, .int x1] τ = ((x1 < x0 → Ru M_Ground_kindTold d Q 58 [some (.int a0)] [] τ) ∧ (¬ x1 < x0 → Ru M_Ground_kindTold d Q 48 [some (.int a0)] [] τ))) ∧
    (∀ (a0 : Int32) (τ : St), Ru M_Ground_kindTold d Q 48 [some (.int a0)] [] τ = Ru M_Ground_kindTold d Q 49 [some (.int a0)] [.int a0] τ) ∧
    (∀ (a0 : Int32) (x0 : Int32) (τ : St), Ru M_Ground_kindTold d Q 49 [some (.int a0)] [.int x0] τ = Ru M_Ground_kindTold d Q 51 [some (.int a0)] [.int 57, .int x0] τ) ∧
    (∀ (a0 : Int32) (x0 : Int32) (x1 : Int32) (τ : St), Ru M_Ground_kindTold d Q 51 [some (.int a0)] [.int x0, .int x1] τ = ((x0 < x1 → Ru M_Ground_kindTold d Q 58 [some (.int a0)] [] τ) ∧ (¬ x0 < x1 → Ru M_Ground_kindTold d Q 54 [some (.int a0)] [] τ))) ∧
    (∀ (a0 : Int32) (τ : St), Ru M_Ground_kindTold d Q 54 [some (.int a0)] [] τ = Ru M_Ground_kindTold d Q 55 [some (.int a0)] [.int 0] τ) ∧
    (∀ (a0 : Int32) (x0 : Int32) (τ : St), Ru M_Ground_kindTold d Q 55 [some (.int a0)] [.int x0] τ = Ru M_Ground_kindTold d Q 59 [some (.int a0)] [.int x0] τ) ∧
    (∀ (a0 : Int32) (τ : St), Ru M_Ground_kindTold d Q 58 [some (.int a0)] [] τ = Ru M_Ground_kindTold d Q 59 [some (.int a0)] [.int (-1)] τ) ∧
    (∀ (a0 : Int32) (x0 : Int32) (τ : St), Ru M_Ground_kindTold d Q 59 [some (.int a0)] [.int x0] τ = Q (some (.int x0)) τ) := ⟨
  fun _ _ => (R_at ok_Ground_kindTold rfl).trans (e_ild rfl),
  fun _ _ _ => (R_at ok_Ground_kindTold rfl).trans e_sw,
  fun _ _ => (R_at ok_Ground_kindTold rfl).trans e_push,
  fun _ _ _ => (R_at ok_Ground_kindTold rfl).trans e_iret,
  fun _ _ => (R_at ok_Ground_kindTold rfl).trans e_push,
  fun _ _ _ => (R_at ok_Ground_kindTold rfl).trans e_iret,
  fun _ _ => (R_at ok_Ground_kindTold rfl).trans e_push,
  fun _ _ _ => (R_at ok_Ground_kindTold rfl).trans e_iret,
  fun _ _ => (R_at ok_Ground_kindTold rfl).trans (e_ild rfl),
  fun _ _ _ => (R_at ok_Ground_kindTold rfl).trans e_push,
  fun _ _ _ _ => (R_at ok_Ground_kindTold rfl).trans e_ic,
  fun _ _ => (R_at ok_Ground_kindTold rfl).trans (e_ild rfl),
  fun _ _ _ => (R_at ok_Ground_kindTold rfl).trans e_push,
  fun _ _ _ _ => (R_at ok_Ground_kindTold rfl).trans e_ic,
  fun _ _ => (R_at ok_Ground_kindTold rfl).trans e_push,
  fun _ _ _ => (R_at ok_Ground_kindTold rfl).trans e_goto,
  fun _ _ => (R_at ok_Ground_kindTold rfl).trans e_push,
  fun _ _ _ => (R_at ok_Ground_kindTold rfl).trans e_iret⟩
set_option maxHeartbeats 4000000 in
theorem N_Ground_take (d : Nat) (Q : Qt) : ∀ (x0 : Nat) (x1 : Nat) (τ : St), Cl (d + 1) m_Ground_take [.ref x0, .ref x1] τ Q = Ru M_Ground_take d Q 0 [some (.ref x0), some (.ref x1), none] [] τ := fun _ _ _ => propext ⟨fun h => h.2, fun h => ⟨Nat.le_of_ble_eq_true rfl, h⟩⟩
set_option maxHeartbeats 4000000 in
theorem E_Ground_take (d : Nat) (Q : Qt) :
    (∀ (a0 : Nat) (a1 : Nat) (τ : St), Ru M_Ground_take d Q 0 [some (.ref a0), some (.ref a1), none] [] τ = Ru M_Ground_take d Q 1 [some (.ref a0), some (.ref a1), none] [.ref a0] τ) ∧
    (∀ (a0 : Nat) (a1 : Nat) (x0 : Nat) (τ : St), Ru M_Ground_take d Q 1 [some (.ref a0), some (.ref a1), none] [.ref x0] τ = Ru M_Ground_take d Q 2 [some (.ref a0), some (.ref a1), none] [.int 0, .ref x0] τ) ∧
    (∀ (a0 : Nat) (a1 : Nat) (x0 : Int32) (x1 : Nat) (τ : St), Ru M_Ground_take d Q 2 [some (.ref a0), some (.ref a1), none] [.int x0, .ref x1] τ = (isA 0 x1 ∧ Ru M_Ground_take d Q 5 [some (.ref a0), some (.ref a1), none] [] (sI τ x1 2 x0))) ∧
    (∀ (a0 : Nat) (a1 : Nat) (τ : St), Ru M_Ground_take d Q 5 [some (.ref a0), some (.ref a1), none] [] τ = Ru M_Ground_take d Q 6 [some (.ref a0), some (.ref a1), none] [.ref a0] τ) ∧
    (∀ (a0 : Nat) (a1 : Nat) (x0 : Nat) (τ : St), Ru M_Ground_take d Q 6 [some (.ref a0), some (.ref a1), none] [.ref x0] τ = Ru M_Ground_take d Q 7 [some (.ref a0), some (.ref a1), none] [.int 1, .ref x0] τ) ∧
    (∀ (a0 : Nat) (a1 : Nat) (x0 : Int32) (x1 : Nat) (τ : St), Ru M_Ground_take d Q 7 [some (.ref a0), some (.ref a1), none] [.int x0, .ref x1] τ = (isA 0 x1 ∧ Ru M_Ground_take d Q 10 [some (.ref a0), some (.ref a1), none] [] (sI τ x1 0 x0))) ∧
    (∀ (a0 : Nat) (a1 : Nat) (τ : St), Ru M_Ground_take d Q 10 [some (.ref a0), some (.ref a1), none] [] τ = Ru M_Ground_take d Q 11 [some (.ref a0), some (.ref a1), none] [.ref a0] τ) ∧
    (∀ (a0 : Nat) (a1 : Nat) (x0 : Nat) (τ : St), Ru M_Ground_take d Q 11 [some (.ref a0), some (.ref a1), none] [.ref x0] τ = Ru M_Ground_take d Q 12 [some (.ref a0), some (.ref a1), none] [.long 0, .ref x0] τ) ∧
    (∀ (a0 : Nat) (a1 : Nat) (x0 : Int64) (x1 : Nat) (τ : St), Ru M_Ground_take d Q 12 [some (.ref a0), some (.ref a1), none] [.long x0, .ref x1] τ = (isA 0 x1 ∧ Ru M_Ground_take d Q 15 [some (.ref a0), some (.ref a1), none] [] (sL τ x1 6 x0))) ∧
    (∀ (a0 : Nat) (a1 : Nat) (τ : St), Ru M_Ground_take d Q 15 [some (.ref a0), some (.ref a1), none] [] τ = Ru M_Ground_take d Q 16 [some (.ref a0), some (.ref a1), none] [.ref a0] τ) ∧
    (∀ (a0 : Nat) (a1 : Nat) (x0 : Nat) (τ : St), Ru M_Ground_take d Q 16 [some (.ref a0), some (.ref a1), none] [.ref x0] τ = Ru M_Ground_take d Q 17 [some (.ref a0), some (.ref a1), none] [.long 0, .ref x0] τ) ∧
    (∀ (a0 : Nat) (a1 : Nat) (x0 : Int64) (x1 : Nat) (τ : St), Ru M_Ground_take d Q 17 [some (.ref a0), some (.ref a1), none] [.long x0, .ref x1] τ = (isA 0 x1 ∧ Ru M_Ground_take d Q 20 [some (.ref a0), some (.ref a1), none] [] (sL τ x1 7 x0))) ∧
    (∀ (a0 : Nat) (a1 : Nat) (τ : St), Ru M_Ground_take d Q 20 [some (.ref a0), some (.ref a1), none] [] τ = Ru M_Ground_take d Q 21 [some (.ref a0), some (.ref a1), none] [.ref a0] τ) ∧
    (∀ (a0 : Nat) (a1 : Nat) (x0 : Nat) (τ : St), Ru M_Ground_take d Q 21 [some (.ref a0), some (.ref a1), none] [.ref x0] τ = Ru M_Ground_take d Q 22 [some (.ref a0), some (.ref a1), none] [.long 0, .ref x0] τ) ∧
    (∀ (a0 : Nat) (a1 : Nat) (x0 : Int64) (x1 : Nat) (τ : St), Ru M_Ground_take d Q 22 [some (.ref a0), some (.ref a1), none] [.long x0, .ref x1] τ = (isA 0 x1 ∧ Ru M_Ground_take d Q 25 [some (.ref a0), some (.ref a1), none] [] (sL τ x1 8 x0))) ∧
    (∀ (a0 : Nat) (a1 : Nat) (τ : St), Ru M_Ground_take d Q 25 [some (.ref a0), some (.ref a1), none] [] τ = Ru M_Ground_take d Q 26 [some (.ref a0), some (.ref a1), none] [.ref a1] τ) ∧
    (∀ (a0 : Nat) (a1 : Nat) (x0 : Nat) (τ : St), Ru M_Ground_take d Q 26 [some (.ref a0), some (.ref a1), none] [.ref x0] τ = Ru M_Ground_take d Q 28 [some (.ref a0), some (.ref a1), none] [.int 80, .ref x0] τ) ∧
    (∀ (a0 : Nat) (a1 : Nat) (x0 : Int32) (x1 : Nat) (τ : St), Ru M_Ground_take d Q 28 [some (.ref a0), some (.ref a1), none] [.int x0, .ref x1] τ = (isA 6 x1 ∧ Cl d m_Text_open [.ref x1, .int x0] τ (fun v τ' => Ru M_Ground_take d Q 31 [some (.ref a0), some (.ref a1), none] (v.toList ++ []) τ'))) ∧
    (∀ (a0 : Nat) (a1 : Nat) (τ : St), Ru M_Ground_take d Q 31 [some (.ref a0), some (.ref a1), none] [] τ = Ru M_Ground_take d Q 32 [some (.ref a0), some (.ref a1), none] [.int 0] τ) ∧
    (∀ (a0 : Nat) (a1 : Nat) (x0 : Int32) (τ : St), Ru M_Ground_take d Q 32 [some (.ref a0), some (.ref a1), none] [.int x0] τ = Rs M_Ground_take d Q 33 [some (.ref a0), some (.ref a1), some (.int x0)] [] τ) ∧
    (∀ (a0 : Nat) (a1 : Nat) (a2 : Int32) (τ : St), Ru M_Ground_take d Q 33 [some (.ref a0), some (.ref a1), some (.int a2)] [] τ = Ru M_Ground_take d Q 34 [some (.ref a0), some (.ref a1), some (.int a2)] [.int a2] τ) ∧
    (∀ (a0 : Nat) (a1 : Nat) (a2 : Int32) (x0 : Int32) (τ : St), Ru M_Ground_take d Q 34 [some (.ref a0), some (.ref a1), some (.int a2)] [.int x0] τ = Ru M_Ground_take d Q 36 [some (.ref a0), some (.ref a1), some (.int a2)] [.int 80, .int x0] τ) ∧
    (∀ (a0 : Nat) (a1 : Nat) (a2 : Int32) (x0 : Int32) (x1 : Int32) (τ : St), Ru M_Ground_take d Q 36 [some (.ref a0), some (.ref a1), some (.int a2)] [.int x0, .int x1] τ = ((x0 ≤ x1 → Ru M_Ground_take d Q 86 [some (.ref a0), some (.ref a1), some (.int a2)] [] τ) ∧ (¬ x0 ≤ x1 → Ru M_Ground_take d Q 39 [some (.ref a0), some (.ref a1), some (.int a2)] [] τ))) ∧
    (∀ (a0 : Nat) (a1 : Nat) (a2 : Int32) (τ : St), Ru M_Ground_take d Q 39 [some (.ref a0), some (.ref a1), some (.int a2)] [] τ = Ru M_Ground_take d Q 40 [some (.ref a0), some (.ref a1), some (.int a2)] [.ref a1] τ) ∧
    (∀ (a0 : Nat) (a1 : Nat) (a2 : Int32) (x0 : Nat) (τ : St), Ru M_Ground_take d Q 40 [some (.ref a0), some (.ref a1), some (.int a2)] [.ref x0] τ = (isA 6 x0 ∧ Cl d m_Text_finished [.ref x0] τ (fun v τ' => Ru M_Ground_take d Q 43 [some (.ref a0), some (.ref a1), some (.int a2)] (v.toList ++ []) τ'))) ∧
    (∀ (a0 : Nat) (a1 : Nat) (a2 : Int32) (x0 : Int32) (τ : St), Ru M_Ground_take d Q 43 [some (.ref a0), some (.ref a1), some (.int a2)] [.int x0] τ = ((¬ x0 = 0 → Ru M_Ground_take d Q 86 [some (.ref a0), some (.ref a1), some (.int a2)] [] τ) ∧ (x0 = 0 → Ru M_Ground_take d Q 46 [some (.ref a0), some (.ref a1), some (.int a2)] [] τ))) ∧
    (∀ (a0 : Nat) (a1 : Nat) (a2 : Int32) (τ : St), Ru M_Ground_take d Q 46 [some (.ref a0), some (.ref a1), some (.int a2)] [] τ = Ru M_Ground_take d Q 47 [some (.ref a0), some (.ref a1), some (.int a2)] [.ref a1] τ) ∧
    (∀ (a0 : Nat) (a1 : Nat) (a2 : Int32) (x0 : Nat) (τ : St), Ru M_Ground_take d Q 47 [some (.ref a0), some (.ref a1), some (.int a2)] [.ref x0] τ = (isA 6 x0 ∧ Cl d m_Text_peek [.ref x0] τ (fun v τ' => Ru M_Ground_take d Q 50 [some (.ref a0), some (.ref a1), some (.int a2)] (v.toList ++ []) τ'))) ∧
    (∀ (a0 : Nat) (a1 : Nat) (a2 : Int32) (x0 : Int32) (τ : St), Ru M_Ground_take d Q 50 [some (.ref a0), some (.ref a1), some (.int a2)] [.int x0] τ = Ru M_Ground_take d Q 52 [some (.ref a0), some (.ref a1), some (.int a2)] [.int 47, .int x0] τ) ∧
    (∀ (a0 : Nat) (a1 : Nat) (a2 : Int32) (x0 : Int32) (x1 : Int32) (τ : St), Ru M_Ground_take d Q 52 [some (.ref a0), some (.ref a1), some (.int a2)] [.int x0, .int x1] τ = ((¬ x1 = x0 → Ru M_Ground_take d Q 68 [some (.ref a0), some (.ref a1), some (.int a2)] [] τ) ∧ (x1 = x0 → Ru M_Ground_take d Q 55 [some (.ref a0), some (.ref a1), some (.int a2)] [] τ))) ∧
    (∀ (a0 : Nat) (a1 : Nat) (a2 : Int32) (τ : St), Ru M_Ground_take d Q 55 [some (.ref a0), some (.ref a1), some (.int a2)] [] τ = Ru M_Ground_take d Q 56 [some (.ref a0), some (.ref a1), some (.int a2)] [.ref a0] τ) ∧
    (∀ (a0 : Nat) (a1 : Nat) (a2 : Int32) (x0 : Nat) (τ : St), Ru M_Ground_take d Q 56 [some (.ref a0), some (.ref a1), some (.int a2)] [.ref x0] τ = Ru M_Ground_take d Q 57 [some (.ref a0), some (.ref a1), some (.int a2)] [.ref x0, .ref x0] τ) ∧
    (∀ (a0 : Nat) (a1 : Nat) (a2 : Int32) (x0 : Nat) (x1 : Nat) (τ : St), Ru M_Ground_take d Q 57 [some (.ref a0), some (.ref a1), some (.int a2)] [.ref x0, .ref x1] τ = (isA 0 x0 ∧ Ru M_Ground_take d Q 60 [some (.ref a0), some (.ref a1), some (.int a2)] [.int (τ.1 x0 0), .ref x1] τ)) ∧
    (∀ (a0 : Nat) (a1 : Nat) (a2 : Int32) (x0 : Int32) (x1 : Nat) (τ : St), Ru M_Ground_take d Q 60 [some (.ref a0), some (.ref a1), some (.int a2)] [.int x0, .ref x1] τ = Ru M_Ground_take d Q 61 [some (.ref a0), some (.ref a1), some (.int a2)] [.int 1, .int x0, .ref x1] τ) ∧
    (∀ (a0 : Nat) (a1 : Nat) (a2 : Int32) (x0 : Int32) (x1 : Int32) (x2 : Nat) (τ : St), Ru M_Ground_take d Q 61 [some (.ref a0), some (.ref a1), some (.int a2)] [.int x0, .int x1, .ref x2] τ = Ru M_Ground_take d Q 62 [some (.ref a0), some (.ref a1), some (.int a2)] [.int (x1 + x0), .ref x2] τ) ∧
    (∀ (a0 : Nat) (a1 : Nat) (a2 : Int32) (x0 : Int32) (x1 : Nat) (τ : St), Ru M_Ground_take d Q 62 [some (.ref a0), some (.ref a1), some (.int a2)] [.int x0, .ref x1] τ = (isA 0 x1 ∧ Ru M_Ground_take d Q 65 [some (.ref a0), some (.ref a1), some (.int a2)] [] (sI τ x1 0 x0))) ∧
    (∀ (a0 : Nat) (a1 : Nat) (a2 : Int32) (τ : St), Ru M_Ground_take d Q 65 [some (.ref a0), some (.ref a1), some (.int a2)] [] τ = Ru M_Ground_take d Q 76 [some (.ref a0), some (.ref a1), some (.int a2)] [] τ) ∧
    (∀ (a0 : Nat) (a1 : Nat) (a2 : Int32) (τ : St), Ru M_Ground_take d Q 68 [some (.ref a0), some (.ref a1), some (.int a2)] [] τ = Ru M_Ground_take d Q 69 [some (.ref a0), some (.ref a1), some (.int a2)] [.ref a0] τ) ∧
    (∀ (a0 : Nat) (a1 : Nat) (a2 : Int32) (x0 : Nat) (τ : St), Ru M_Ground_take d Q 69 [some (.ref a0), some (.ref a1), some (.int a2)] [.ref x0] τ = Ru M_Ground_take d Q 70 [some (.ref a0), some (.ref a1), some (.int a2)] [.ref a1, .ref x0] τ) ∧
    (∀ (a0 : Nat) (a1 : Nat) (a2 : Int32) (x0 : Nat) (x1 : Nat) (τ : St), Ru M_Ground_take d Q 70 [some (.ref a0), some (.ref a1), some (.int a2)] [.ref x0, .ref x1] τ = (isA 6 x0 ∧ Cl d m_Text_peek [.ref x0] τ (fun v τ' => Ru M_Ground_take d Q 73 [some (.ref a0), some (.ref a1), some (.int a2)] (v.toList ++ [.ref x1]) τ'))) ∧
    (∀ (a0 : Nat) (a1 : Nat) (a2 : Int32) (x0 : Int32) (x1 : Nat) (τ : St), Ru M_Ground_take d Q 73 [some (.ref a0), some (.ref a1), some (.int a2)] [.int x0, .ref x1] τ = (isA 0 x1 ∧ Cl d m_Ground_takeField [.ref x1, .int x0] τ (fun v τ' => Ru M_Ground_take d Q 76 [some (.ref a0), some (.ref a1), some (.int a2)] (v.toList ++ []) τ'))) ∧
    (∀ (a0 : Nat) (a1 : Nat) (a2 : Int32) (τ : St), Ru M_Ground_take d Q 76 [some (.ref a0), some (.ref a1), some (.int a2)] [] τ = Ru M_Ground_take d Q 77 [some (.ref a0), some (.ref a1), some (.int a2)] [.ref a1] τ) ∧
    (∀ (a0 : Nat) (a1 : Nat) (a2 : Int32) (x0 : Nat) (τ : St), Ru M_Ground_take d Q 77 [some (.ref a0), some (.ref a1), some (.int a2)] [.ref x0] τ = (isA 6 x0 ∧ Cl d m_Text_step [.ref x0] τ (fun v τ' => Ru M_Ground_take d Q 80 [some (.ref a0), some (.ref a1), some (.int a2)] (v.toList ++ []) τ'))) ∧
    (∀ (a0 : Nat) (a1 : Nat) (a2 : Int32) (τ : St), Ru M_Ground_take d Q 80 [some (.ref a0), some (.ref a1), some (.int a2)] [] τ = Ru M_Ground_take d Q 83 [some (.ref a0), some (.ref a1), some (.int (a2 + 1))] [] τ) ∧
    (∀ (a0 : Nat) (a1 : Nat) (a2 : Int32) (τ : St), Ru M_Ground_take d Q 83 [some (.ref a0), some (.ref a1), some (.int a2)] [] τ = Rs M_Ground_take d Q 33 [some (.ref a0), some (.ref a1), some (.int a2)] [] τ) ∧
    (∀ (a0 : Nat) (a1 : Nat) (a2 : Int32) (τ : St), Ru M_Ground_take d Q 86 [some (.ref a0), some (.ref a1), some (.int a2)] [] τ = Ru M_Ground_take d Q 87 [some (.ref a0), some (.ref a1), some (.int a2)] [.ref a0] τ) ∧
    (∀ (a0 : Nat) (a1 : Nat) (a2 : Int32) (x0 : Nat) (τ : St), Ru M_Ground_take d Q 87 [some (.ref a0), some (.ref a1), some (.int a2)] [.ref x0] τ = Ru M_Ground_take d Q 88 [some (.ref a0), some (.ref a1), some (.int a2)] [.ref a0, .ref x0] τ) ∧
    (∀ (a0 : Nat) (a1 : Nat) (a2 : Int32) (x0 : Nat) (x1 : Nat) (τ : St), Ru M_Ground_take d Q 88 [some (.ref a0), some (.ref a1), some (.int a2)] [.ref x0, .ref x1] τ = (isA 0 x0 ∧ Ru M_Ground_take d Q 91 [some (.ref a0), some (.ref a1), some (.int a2)] [.int (τ.1 x0 0), .ref x1] τ)) ∧
    (∀ (a0 : Nat) (a1 : Nat) (a2 : Int32) (x0 : Int32) (x1 : Nat) (τ : St), Ru M_Ground_take d Q 91 [some (.ref a0), some (.ref a1), some (.int a2)] [.int x0, .ref x1] τ = ((x0 ≤ 0 → Ru M_Ground_take d Q 106 [some (.ref a0), some (.ref a1), some (.int a2)] [.ref x1] τ) ∧ (¬ x0 ≤ 0 → Ru M_Ground_take d Q 94 [some (.ref a0), some (.ref a1), some (.int a2)] [.ref x1] τ))) ∧
    (∀ (a0 : Nat) (a1 : Nat) (a2 : Int32) (x0 : Nat) (τ : St), Ru M_Ground_take d Q 94 [some (.ref a0), some (.ref a1), some (.int a2)] [.ref x0] τ = Ru M_Ground_take d Q 95 [some (.ref a0), some (.ref a1), some (.int a2)] [.ref a0, .ref x0] τ) ∧
    (∀ (a0 : Nat) (a1 : Nat) (a2 : Int32) (x0 : Nat) (x1 : Nat) (τ : St), Ru M_Ground_take d Q 95 [some (.ref a0), some (.ref a1), some (.int a2)] [.ref x0, .ref x1] τ = (isA 0 x0 ∧ Ru M_Ground_take d Q 98 [some (.ref a0), some (.ref a1), some (.int a2)] [.int (τ.1 x0 2), .ref x1] τ)) ∧
    (∀ (a0 : Nat) (a1 : Nat) (a2 : Int32) (x0 : Int32) (x1 : Nat) (τ : St), Ru M_Ground_take d Q 98 [some (.ref a0), some (.ref a1), some (.int a2)] [.int x0, .ref x1] τ = Ru M_Ground_take d Q 99 [some (.ref a0), some (.ref a1), some (.int a2)] [.ref a0, .int x0, .ref x1] τ) ∧
    (∀ (a0 : Nat) (a1 : Nat) (a2 : Int32) (x0 : Nat) (x1 : Int32) (x2 : Nat) (τ : St), Ru M_Ground_take d Q 99 [some (.ref a0), some (.ref a1), some (.int a2)] [.ref x0, .int x1, .ref x2] τ = (isA 0 x0 ∧ Ru M_Ground_take d Q 102 [some (.ref a0), some (.ref a1), some (.int a2)] [.int (τ.1 x0 0), .int x1, .ref x2] τ)) ∧
    (∀ (a0 : Nat) (a1 : Nat) (a2 : Int32) (x0 : Int32) (x1 : Int32) (x2 : Nat) (τ : St), Ru M_Ground_take d Q 102 [some (.ref a0), some (.ref a1), some (.int a2)] [.int x0, .int x1, .ref x2] τ = (¬ x0 = 0 ∧ Ru M_Ground_take d Q 103 [some (.ref a0), some (.ref a1), some (.int a2)] [.int (x1 / x0), .ref x2] τ)) ∧
    (∀ (a0 : Nat) (a1 : Nat) (a2 : Int32) (x0 : Int32) (x1 : Nat) (τ : St), Ru M_Ground_take d Q 103 [some (.ref a0), some (.ref a1), some (.int a2)] [.int x0, .ref x1] τ = Ru M_Ground_take d Q 110 [some (.ref a0), some (.ref a1), some (.int a2)] [.int x0, .ref x1] τ) ∧
    (∀ (a0 : Nat) (a1 : Nat) (a2 : Int32) (x0 : Nat) (τ : St), Ru M_Ground_take d Q 106 [some (.ref a0), some (.ref a1), some (.int a2)] [.ref x0] τ = Ru M_Ground_take d Q 107 [some (.ref a0), some (.ref a1), some (.int a2)] [.ref a0, .ref x0] τ) ∧
    (∀ (a0 : Nat) (a1 : Nat) (a2 : Int32) (x0 : Nat) (x1 : Nat) (τ : St), Ru M_Ground_take d Q 107 [some (.ref a0), some (.ref a1), some (.int a2)] [.ref x0, .ref x1] τ = (isA 0 x0 ∧ Ru M_Ground_take d Q 110 [some (.ref a0), some (.ref a1), some (.int a2)] [.int (τ.1 x0 2), .ref x1] τ)) ∧
    (∀ (a0 : Nat) (a1 : Nat) (a2 : Int32) (x0 : Int32) (x1 : Nat) (τ : St), Ru M_Ground_take d Q 110 [some (.ref a0), some (.ref a1), some (.int a2)] [.int x0, .ref x1] τ = (isA 0 x1 ∧ Ru M_Ground_take d Q 113 [some (.ref a0), some (.ref a1), some (.int a2)] [] (sI τ x1 1 x0))) ∧
    (∀ (a0 : Nat) (a1 : Nat) (a2 : Int32) (τ : St), Ru M_Ground_take d Q 113 [some (.ref a0), some (.ref a1), some (.int a2)] [] τ = Ru M_Ground_take d Q 114 [some (.ref a0), some (.ref a1), some (.int a2)] [.int 0] τ) ∧
    (∀ (a0 : Nat) (a1 : Nat) (a2 : Int32) (x0 : Int32) (τ : St), Ru M_Ground_take d Q 114 [some (.ref a0), some (.ref a1), some (.int a2)] [.int x0] τ = Rs M_Ground_take d Q 115 [some (.ref a0), some (.ref a1), some (.int x0)] [] τ) ∧
    (∀ (a0 : Nat) (a1 : Nat) (a2 : Int32) (τ : St), Ru M_Ground_take d Q 115 [some (.ref a0), some (.ref a1), some (.int a2)] [] τ = Ru M_Ground_take d Q 116 [some (.ref a0), some (.ref a1), some (.int a2)] [.int a2] τ) ∧
    (∀ (a0 : Nat) (a1 : Nat) (a2 : Int32) (x0 : Int32) (τ : St), Ru M_Ground_take d Q 116 [some (.ref a0), some (.ref a1), some (.int a2)] [.int x0] τ = Ru M_Ground_take d Q 117 [some (.ref a0), some (.ref a1), some (.int a2)] [.ref a0, .int x0] τ) ∧
    (∀ (a0 : Nat) (a1 : Nat) (a2 : Int32) (x0 : Nat) (x1 : Int32) (τ : St), Ru M_Ground_take d Q 117 [some (.ref a0), some (.ref a1), some (.int a2)] [.ref x0, .int x1] τ = (isA 0 x0 ∧ Ru M_Ground_take d Q 120 [some (.ref a0), some (.ref a1), some (.int a2)] [.int (τ.1 x0 2), .int x1] τ)) ∧
    (∀ (a0 : Nat) (a1 : Nat) (a2 : Int32) (x0 : Int32) (x1 : Int32) (τ : St), Ru M_Ground_take d Q 120 [some (.ref a0), some (.ref a1), some (.int a2)] [.int x0, .int x1] τ = ((x0 ≤ x1 → Ru M_Ground_take d Q 134 [some (.ref a0), some (.ref a1), some (.int a2)] [] τ) ∧ (¬ x0 ≤ x1 → Ru M_Ground_take d Q 123 [some (.ref a0), some (.ref a1), some (.int a2)] [] τ))) ∧
    (∀ (a0 : Nat) (a1 : Nat) (a2 : Int32) (τ : St), Ru M_Ground_take d Q 123 [some (.ref a0), some (.ref a1), some (.int a2)] [] τ = Ru M_Ground_take d Q 124 [some (.ref a0), some (.ref a1), some (.int a2)] [.ref a0] τ) ∧
    (∀ (a0 : Nat) (a1 : Nat) (a2 : Int32) (x0 : Nat) (τ : St), Ru M_Ground_take d Q 124 [some (.ref a0), some (.ref a1), some (.int a2)] [.ref x0] τ = Ru M_Ground_take d Q 125 [some (.ref a0), some (.ref a1), some (.int a2)] [.int a2, .ref x0] τ) ∧
    (∀ (a0 : Nat) (a1 : Nat) (a2 : Int32) (x0 : Int32) (x1 : Nat) (τ : St), Ru M_Ground_take d Q 125 [some (.ref a0), some (.ref a1), some (.int a2)] [.int x0, .ref x1] τ = (isA 0 x1 ∧ Cl d m_Ground_link [.ref x1, .int x0] τ (fun v τ' => Ru M_Ground_take d Q 128 [some (.ref a0), some (.ref a1), some (.int a2)] (v.toList ++ []) τ'))) ∧
    (∀ (a0 : Nat) (a1 : Nat) (a2 : Int32) (τ : St), Ru M_Ground_take d Q 128 [some (.ref a0), some (.ref a1), some (.int a2)] [] τ = Ru M_Ground_take d Q 131 [some (.ref a0), some (.ref a1), some (.int (a2 + 1))] [] τ) ∧
    (∀ (a0 : Nat) (a1 : Nat) (a2 : Int32) (τ : St), Ru M_Ground_take d Q 131 [some (.ref a0), some (.ref a1), some (.int a2)] [] τ = Rs M_Ground_take d Q 115 [some (.ref a0), some (.ref a1), some (.int a2)] [] τ) ∧
    (∀ (a0 : Nat) (a1 : Nat) (a2 : Int32) (τ : St), Ru M_Ground_take d Q 134 [some (.ref a0), some (.ref a1), some (.int a2)] [] τ = Q none τ) := ⟨
  fun _ _ _ => (R_at ok_Ground_take rfl).trans (e_ald rfl),
  fun _ _ _ _ => (R_at ok_Ground_take rfl).trans e_push,
  fun _ _ _ _ _ => (R_at ok_Ground_take rfl).trans e_pI,
  fun _ _ _ => (R_at ok_Ground_take rfl).trans (e_ald rfl),
  fun _ _ _ _ => (R_at ok_Ground_take rfl).trans e_push,
  fun _ _ _ _ _ => (R_at ok_Ground_take rfl).trans e_pI,
  fun _ _ _ => (R_at ok_Ground_take rfl).trans (e_ald rfl),
  fun _ _ _ _ => (R_at ok_Ground_take rfl).trans e_push,
  fun _ _ _ _ _ => (R_at ok_Ground_take rfl).trans e_pL,
  fun _ _ _ => (R_at ok_Ground_take rfl).trans (e_ald rfl),
  fun _ _ _ _ => (R_at ok_Ground_take rfl).trans e_push,
  fun _ _ _ _ _ => (R_at ok_Ground_take rfl).trans e_pL,
  fun _ _ _ => (R_at ok_Ground_take rfl).trans (e_ald rfl),
  fun _ _ _ _ => (R_at ok_Ground_take rfl).trans e_push,
  fun _ _ _ _ _ => (R_at ok_Ground_take rfl).trans e_pL,
  fun _ _ _ => (R_at ok_Ground_take rfl).trans (e_ald rfl),
  fun _ _ _ _ => (R_at ok_Ground_take rfl).trans e_push,
  fun _ _ x0 _ _ => (R_at ok_Ground_take rfl).trans (e_cv [.int x0] rfl rfl rfl),
  fun _ _ _ => (R_at ok_Ground_take rfl).trans e_push,
  fun _ _ _ _ => (R_at ok_Ground_take rfl).trans e_ist,
  fun _ _ _ _ => (R_at ok_Ground_take rfl).trans (e_ild rfl),
  fun _ _ _ _ _ => (R_at ok_Ground_take rfl).trans e_push,
  fun _ _ _ _ _ _ => (R_at ok_Ground_take rfl).trans e_ic,
  fun _ _ _ _ => (R_at ok_Ground_take rfl).trans (e_ald rfl),
  fun _ _ _ _ _ => (R_at ok_Ground_take rfl).trans (e_cv [] rfl rfl rfl),
  fun _ _ _ _ _ => (R_at ok_Ground_take rfl).trans e_ifn,
  fun _ _ _ _ => (R_at ok_Ground_take rfl).trans (e_ald rfl),
  fun _ _ _ _ _ => (R_at ok_Ground_take rfl).trans (e_cv [] rfl rfl rfl),
  fun _ _ _ _ _ => (R_at ok_Ground_take rfl).trans e_push,
  fun _ _ _ _ _ _ => (R_at ok_Ground_take rfl).trans e_icn,
  fun _ _ _ _ => (R_at ok_Ground_take rfl).trans (e_ald rfl),
  fun _ _ _ _ _ => (R_at ok_Ground_take rfl).trans (e_dup rfl),
  fun _ _ _ _ _ _ => (R_at ok_Ground_take rfl).trans e_gI,
  fun _ _ _ _ _ _ => (R_at ok_Ground_take rfl).trans e_push,
  fun _ _ _ _ _ _ _ => (R_at ok_Ground_take rfl).trans e_bin,
  fun _ _ _ _ _ _ => (R_at ok_Ground_take rfl).trans e_pI,
  fun _ _ _ _ => (R_at ok_Ground_take rfl).trans e_goto,
  fun _ _ _ _ => (R_at ok_Ground_take rfl).trans (e_ald rfl),
  fun _ _ _ _ _ => (R_at ok_Ground_take rfl).trans (e_ald rfl),
  fun _ _ _ _ _ _ => (R_at ok_Ground_take rfl).trans (e_cv [] rfl rfl rfl),
  fun _ _ _ x0 _ _ => (R_at ok_Ground_take rfl).trans (e_cv [.int x0] rfl rfl rfl),
  fun _ _ _ _ => (R_at ok_Ground_take rfl).trans (e_ald rfl),
  fun _ _ _ _ _ => (R_at ok_Ground_take rfl).trans (e_cv [] rfl rfl rfl),
  fun _ _ _ _ => (R_at ok_Ground_take rfl).trans (e_iinc rfl),
  fun _ _ _ _ => (R_at ok_Ground_take rfl).trans e_goto,
  fun _ _ _ _ => (R_at ok_Ground_take rfl).trans (e_ald rfl),
  fun _ _ _ _ _ => (R_at ok_Ground_take rfl).trans (e_ald rfl),
  fun _ _ _ _ _ _ => (R_at ok_Ground_take rfl).trans e_gI,
  fun _ _ _ _ _ _ => (R_at ok_Ground_take rfl).trans e_if,
  fun _ _ _ _ _ => (R_at ok_Ground_take rfl).trans (e_ald rfl),
  fun _ _ _ _ _ _ => (R_at ok_Ground_take rfl).trans e_gI,
  fun _ _ _ _ _ _ => (R_at ok_Ground_take rfl).trans (e_ald rfl),
  fun _ _ _ _ _ _ _ => (R_at ok_Ground_take rfl).trans e_gI,
  fun _ _ _ _ _ _ _ => (R_at ok_Ground_take rfl).trans e_binz,
  fun _ _ _ _ _ _ => (R_at ok_Ground_take rfl).trans e_goto,
  fun _ _ _ _ _ => (R_at ok_Ground_take rfl).trans (e_ald rfl),
  fun _ _ _ _ _ _ => (R_at ok_Ground_take rfl).trans e_gI,
  fun _ _ _ _ _ _ => (R_at ok_Ground_take rfl).trans e_pI,
  fun _ _ _ _ => (R_at ok_Ground_take rfl).trans e_push,
  fun _ _ _ _ _ => (R_at ok_Ground_take rfl).trans e_ist,
  fun _ _ _ _ => (R_at ok_Ground_take rfl).trans (e_ild rfl),
  fun _ _ _ _ _ => (R_at ok_Ground_take rfl).trans (e_ald rfl),
  fun _ _ _ _ _ _ => (R_at ok_Ground_take rfl).trans e_gI,
  fun _ _ _ _ _ _ => (R_at ok_Ground_take rfl).trans e_ic,
  fun _ _ _ _ => (R_at ok_Ground_take rfl).trans (e_ald rfl),
  fun _ _ _ _ _ => (R_at ok_Ground_take rfl).trans (e_ild rfl),
  fun _ _ _ x0 _ _ => (R_at ok_Ground_take rfl).trans (e_cv [.int x0] rfl rfl rfl),
  fun _ _ _ _ => (R_at ok_Ground_take rfl).trans (e_iinc rfl),
  fun _ _ _ _ => (R_at ok_Ground_take rfl).trans e_goto,
  fun _ _ _ _ => (R_at ok_Ground_take rfl).trans e_vret⟩
set_option maxHeartbeats 4000000 in
theorem N_Ground_takeField (d : Nat) (Q : Qt) : ∀ (x0 : Nat) (x1 : Int32) (τ : St), Cl (d + 1) m_Ground_takeField [.ref x0, .int x1] τ Q = Ru M_Ground_takeField d Q 0 [some (.ref x0), some (.int x1), none] [] τ := fun _ _ _ => propext ⟨fun h => h.2, fun h => ⟨Nat.le_of_ble_eq_true rfl, h⟩⟩
set_option maxHeartbeats 4000000 in
theorem E_Ground_takeField (d : Nat) (Q : Qt) :
    (∀ (a0 : Nat) (a1 : Int32) (τ : St), Ru M_Ground_takeField d Q 0 [some (.ref a0), some (.int a1), none] [] τ = Ru M_Ground_takeField d Q 1 [some (.ref a0), some (.int a1), none] [.ref a0] τ) ∧
    (∀ (a0 : Nat) (a1 : Int32) (x0 : Nat) (τ : St), Ru M_Ground_takeField d Q 1 [some (.ref a0), some (.int a1), none] [.ref x0] τ = (isA 0 x0 ∧ Ru M_Ground_takeField d Q 4 [some (.ref a0), some (.int a1), none] [.int (τ.1 x0 2)] τ)) ∧
    (∀ (a0 : Nat) (a1 : Int32) (x0 : Int32) (τ : St), Ru M_Ground_takeField d Q 4 [some (.ref a0), some (.int a1), none] [.int x0] τ = ((x0 < 0 → Ru M_Ground_takeField d Q 16 [some (.ref a0), some (.int a1), none] [] τ) ∧ (¬ x0 < 0 → Ru M_Ground_takeField d Q 7 [some (.ref a0), some (.int a1), none] [] τ))) ∧
    (∀ (a0 : Nat) (a1 : Int32) (τ : St), Ru M_Ground_takeField d Q 7 [some (.ref a0), some (.int a1), none] [] τ = Ru M_Ground_takeField d Q 8 [some (.ref a0), some (.int a1), none] [.ref a0] τ) ∧
    (∀ (a0 : Nat) (a1 : Int32) (x0 : Nat) (τ : St), Ru M_Ground_takeField d Q 8 [some (.ref a0), some (.int a1), none] [.ref x0] τ = (isA 0 x0 ∧ Ru M_Ground_takeField d Q 11 [some (.ref a0), some (.int a1), none] [.int (τ.1 x0 2)] τ)) ∧
    (∀ (a0 : Nat) (a1 : Int32) (x0 : Int32) (τ : St), Ru M_Ground_takeField d Q 11 [some (.ref a0), some (.int a1), none] [.int x0] τ = Ru M_Ground_takeField d Q 13 [some (.ref a0), some (.int a1), none] [.int 36, .int x0] τ) ∧
    (∀ (a0 : Nat) (a1 : Int32) (x0 : Int32) (x1 : Int32) (τ : St), Ru M_Ground_takeField d Q 13 [some (.ref a0), some (.int a1), none] [.int x0, .int x1] τ = ((x1 < x0 → Ru M_Ground_takeField d Q 17 [some (.ref a0), some (.int a1), none] [] τ) ∧ (¬ x1 < x0 → Ru M_Ground_takeField d Q 16 [some (.ref a0), some (.int a1), none] [] τ))) ∧
    (∀ (a0 : Nat) (a1 : Int32) (τ : St), Ru M_Ground_takeField d Q 16 [some (.ref a0), some (.int a1), none] [] τ = Q none τ) ∧
    (∀ (a0 : Nat) (a1 : Int32) (τ : St), Ru M_Ground_takeField d Q 17 [some (.ref a0), some (.int a1), none] [] τ = Ru M_Ground_takeField d Q 18 [some (.ref a0), some (.int a1), none] [.int a1] τ) ∧
    (∀ (a0 : Nat) (a1 : Int32) (x0 : Int32) (τ : St), Ru M_Ground_takeField d Q 18 [some (.ref a0), some (.int a1), none] [.int x0] τ = Cl d m_Ground_kindTold [.int x0] τ (fun v τ' => Ru M_Ground_takeField d Q 21 [some (.ref a0), some (.int a1), none] (v.toList ++ []) τ')) ∧
    (∀ (a0 : Nat) (a1 : Int32) (x0 : Int32) (τ : St), Ru M_Ground_takeField d Q 21 [some (.ref a0), some (.int a1), none] [.int x0] τ = Ru M_Ground_takeField d Q 22 [some (.ref a0), some (.int a1), some (.int x0)] [] τ) ∧
    (∀ (a0 : Nat) (a1 : Int32) (a2 : Int32) (τ : St), Ru M_Ground_takeField d Q 22 [some (.ref a0), some (.int a1), some (.int a2)] [] τ = Ru M_Ground_takeField d Q 23 [some (.ref a0), some (.int a1), some (.int a2)] [.ref a0] τ) ∧
    (∀ (a0 : Nat) (a1 : Int32) (a2 : Int32) (x0 : Nat) (τ : St), Ru M_Ground_takeField d Q 23 [some (.ref a0), some (.int a1), some (.int a2)] [.ref x0] τ = (isA 0 x0 ∧ Ru M_Ground_takeField d Q 26 [some (.ref a0), some (.int a1), some (.int a2)] [.ref (rtab x0 3)] τ)) ∧
    (∀ (a0 : Nat) (a1 : Int32) (a2 : Int32) (x0 : Nat) (τ : St), Ru M_Ground_takeField d Q 26 [some (.ref a0), some (.int a1), some (.int a2)] [.ref x0] τ = Ru M_Ground_takeField d Q 27 [some (.ref a0), some (.int a1), some (.int a2)] [.ref a0, .ref x0] τ) ∧
    (∀ (a0 : Nat) (a1 : Int32) (a2 : Int32) (x0 : Nat) (x1 : Nat) (τ : St), Ru M_Ground_takeField d Q 27 [some (.ref a0), some (.int a1), some (.int a2)] [.ref x0, .ref x1] τ = (isA 0 x0 ∧ Ru M_Ground_takeField d Q 30 [some (.ref a0), some (.int a1), some (.int a2)] [.int (τ.1 x0 2), .ref x1] τ)) ∧
    (∀ (a0 : Nat) (a1 : Int32) (a2 : Int32) (x0 : Int32) (x1 : Nat) (τ : St), Ru M_Ground_takeField d Q 30 [some (.ref a0), some (.int a1), some (.int a2)] [.int x0, .ref x1] τ = Ru M_Ground_takeField d Q 31 [some (.ref a0), some (.int a1), some (.int a2)] [.int a2, .int x0, .ref x1] τ) ∧
    (∀ (a0 : Nat) (a1 : Int32) (a2 : Int32) (x0 : Int32) (x1 : Int32) (x2 : Nat) (τ : St), Ru M_Ground_takeField d Q 31 [some (.ref a0), some (.int a1), some (.int a2)] [.int x0, .int x1, .ref x2] τ = (isA 14 x2 ∧ vp_in x1 (len x2) ∧ Ru M_Ground_takeField d Q 32 [some (.ref a0), some (.int a1), some (.int a2)] [] (sI τ x2 x1.toNatClampNeg (x0)))) ∧
    (∀ (a0 : Nat) (a1 : Int32) (a2 : Int32) (τ : St), Ru M_Ground_takeField d Q 32 [some (.ref a0), some (.int a1), some (.int a2)] [] τ = Ru M_Ground_takeField d Q 33 [some (.ref a0), some (.int a1), some (.int a2)] [.ref a0] τ) ∧
    (∀ (a0 : Nat) (a1 : Int32) (a2 : Int32) (x0 : Nat) (τ : St), Ru M_Ground_takeField d Q 33 [some (.ref a0), some (.int a1), some (.int a2)] [.ref x0] τ = (isA 0 x0 ∧ Ru M_Ground_takeField d Q 36 [some (.ref a0), some (.int a1), some (.int a2)] [.ref (rtab x0 4)] τ)) ∧
    (∀ (a0 : Nat) (a1 : Int32) (a2 : Int32) (x0 : Nat) (τ : St), Ru M_Ground_takeField d Q 36 [some (.ref a0), some (.int a1), some (.int a2)] [.ref x0] τ = Ru M_Ground_takeField d Q 37 [some (.ref a0), some (.int a1), some (.int a2)] [.ref a0, .ref x0] τ) ∧
    (∀ (a0 : Nat) (a1 : Int32) (a2 : Int32) (x0 : Nat) (x1 : Nat) (τ : St), Ru M_Ground_takeField d Q 37 [some (.ref a0), some (.int a1), some (.int a2)] [.ref x0, .ref x1] τ = (isA 0 x0 ∧ Ru M_Ground_takeField d Q 40 [some (.ref a0), some (.int a1), some (.int a2)] [.int (τ.1 x0 2), .ref x1] τ)) ∧
    (∀ (a0 : Nat) (a1 : Int32) (a2 : Int32) (x0 : Int32) (x1 : Nat) (τ : St), Ru M_Ground_takeField d Q 40 [some (.ref a0), some (.int a1), some (.int a2)] [.int x0, .ref x1] τ = Ru M_Ground_takeField d Q 41 [some (.ref a0), some (.int a1), some (.int a2)] [.int a2, .int x0, .ref x1] τ) ∧
    (∀ (a0 : Nat) (a1 : Int32) (a2 : Int32) (x0 : Int32) (x1 : Int32) (x2 : Nat) (τ : St), Ru M_Ground_takeField d Q 41 [some (.ref a0), some (.int a1), some (.int a2)] [.int x0, .int x1, .ref x2] τ = ((¬ x0 = 0 → Ru M_Ground_takeField d Q 51 [some (.ref a0), some (.int a1), some (.int a2)] [.int x1, .ref x2] τ) ∧ (x0 = 0 → Ru M_Ground_takeField d Q 44 [some (.ref a0), some (.int a1), some (.int a2)] [.int x1, .ref x2] τ))) ∧
    (∀ (a0 : Nat) (a1 : Int32) (a2 : Int32) (x0 : Int32) (x1 : Nat) (τ : St), Ru M_Ground_takeField d Q 44 [some (.ref a0), some (.int a1), some (.int a2)] [.int x0, .ref x1] τ = Ru M_Ground_takeField d Q 45 [some (.ref a0), some (.int a1), some (.int a2)] [.int a1, .int x0, .ref x1] τ) ∧
    (∀ (a0 : Nat) (a1 : Int32) (a2 : Int32) (x0 : Int32) (x1 : Int32) (x2 : Nat) (τ : St), Ru M_Ground_takeField d Q 45 [some (.ref a0), some (.int a1), some (.int a2)] [.int x0, .int x1, .ref x2] τ = Ru M_Ground_takeField d Q 47 [some (.ref a0), some (.int a1), some (.int a2)] [.int 48, .int x0, .int x1, .ref x2] τ) ∧
    (∀ (a0 : Nat) (a1 : Int32) (a2 : Int32) (x0 : Int32) (x1 : Int32) (x2 : Int32) (x3 : Nat) (τ : St), Ru M_Ground_takeField d Q 47 [some (.ref a0), some (.int a1), some (.int a2)] [.int x0, .int x1, .int x2, .ref x3] τ = Ru M_Ground_takeField d Q 48 [some (.ref a0), some (.int a1), some (.int a2)] [.int (x1 - x0), .int x2, .ref x3] τ) ∧
    (∀ (a0 : Nat) (a1 : Int32) (a2 : Int32) (x0 : Int32) (x1 : Int32) (x2 : Nat) (τ : St), Ru M_Ground_takeField d Q 48 [some (.ref a0), some (.int a1), some (.int a2)] [.int x0, .int x1, .ref x2] τ = Rs M_Ground_takeField d Q 52 [some (.ref a0), some (.int a1), some (.int a2)] [.int x0, .int x1, .ref x2] τ) ∧
    (∀ (a0 : Nat) (a1 : Int32) (a2 : Int32) (x0 : Int32) (x1 : Nat) (τ : St), Ru M_Ground_takeField d Q 51 [some (.ref a0), some (.int a1), some (.int a2)] [.int x0, .ref x1] τ = Rs M_Ground_takeField d Q 52 [some (.ref a0), some (.int a1), some (.int a2)] [.int 0, .int x0, .ref x1] τ) ∧
    (∀ (a0 : Nat) (a1 : Int32) (a2 : Int32) (x0 : Int32) (x1 : Int32) (x2 : Nat) (τ : St), Ru M_Ground_takeField d Q 52 [some (.ref a0), some (.int a1), some (.int a2)] [.int x0, .int x1, .ref x2] τ = (isA 14 x2 ∧ vp_in x1 (len x2) ∧ Ru M_Ground_takeField d Q 53 [some (.ref a0), some (.int a1), some (.int a2)] [] (sI τ x2 x1.toNatClampNeg (x0)))) ∧
    (∀ (a0 : Nat) (a1 : Int32) (a2 : Int32) (τ : St), Ru M_Ground_takeField d Q 53 [some (.ref a0), some (.int a1), some (.int a2)] [] τ = Ru M_Ground_takeField d Q 54 [some (.ref a0), some (.int a1), some (.int a2)] [.int a2] τ) ∧
    (∀ (a0 : Nat) (a1 : Int32) (a2 : Int32) (x0 : Int32) (τ : St), Ru M_Ground_takeField d Q 54 [some (.ref a0), some (.int a1), some (.int a2)] [.int x0] τ = ((¬ x0 = 0 → Ru M_Ground_takeField d Q 75 [some (.ref a0), some (.int a1), some (.int a2)] [] τ) ∧ (x0 = 0 → Ru M_Ground_takeField d Q 57 [some (.ref a0), some (.int a1), some (.int a2)] [] τ))) ∧
    (∀ (a0 : Nat) (a1 : Int32) (a2 : Int32) (τ : St), Ru M_Ground_takeField d Q 57 [some (.ref a0), some (.int a1), some (.int a2)] [] τ = Ru M_Ground_takeField d Q 58 [some (.ref a0), some (.int a1), some (.int a2)] [.ref a0] τ) ∧
    (∀ (a0 : Nat) (a1 : Int32) (a2 : Int32) (x0 : Nat) (τ : St), Ru M_Ground_takeField d Q 58 [some (.ref a0), some (.int a1), some (.int a2)] [.ref x0] τ = Ru M_Ground_takeField d Q 59 [some (.ref a0), some (.int a1), some (.int a2)] [.ref x0, .ref x0] τ) ∧
    (∀ (a0 : Nat) (a1 : Int32) (a2 : Int32) (x0 : Nat) (x1 : Nat) (τ : St), Ru M_Ground_takeField d Q 59 [some (.ref a0), some (.int a1), some (.int a2)] [.ref x0, .ref x1] τ = (isA 0 x0 ∧ Ru M_Ground_takeField d Q 62 [some (.ref a0), some (.int a1), some (.int a2)] [.long (τ.2 x0 6), .ref x1] τ)) ∧
    (∀ (a0 : Nat) (a1 : Int32) (a2 : Int32) (x0 : Int64) (x1 : Nat) (τ : St), Ru M_Ground_takeField d Q 62 [some (.ref a0), some (.int a1), some (.int a2)] [.long x0, .ref x1] τ = Ru M_Ground_takeField d Q 63 [some (.ref a0), some (.int a1), some (.int a2)] [.long 1, .long x0, .ref x1] τ) ∧
    (∀ (a0 : Nat) (a1 : Int32) (a2 : Int32) (x0 : Int64) (x1 : Int64) (x2 : Nat) (τ : St), Ru M_Ground_takeField d Q 63 [some (.ref a0), some (.int a1), some (.int a2)] [.long x0, .long x1, .ref x2] τ = Ru M_Ground_takeField d Q 64 [some (.ref a0), some (.int a1), some (.int a2)] [.ref a0, .long x0, .long x1, .ref x2] τ) ∧
    (∀ (a0 : Nat) (a1 : Int32) (a2 : Int32) (x0 : Nat) (x1 : Int64) (x2 : Int64) (x3 : Nat) (τ : St), Ru M_Ground_takeField d Q 64 [some (.ref a0), some (.int a1), some (.int a2)] [.ref x0, .long x1, .long x2, .ref x3] τ = (isA 0 x0 ∧ Ru M_Ground_takeField d Q 67 [some (.ref a0), some (.int a1), some (.int a2)] [.int (τ.1 x0 2), .long x1, .long x2, .ref x3] τ)) ∧
    (∀ (a0 : Nat) (a1 : Int32) (a2 : Int32) (x0 : Int32) (x1 : Int64) (x2 : Int64) (x3 : Nat) (τ : St), Ru M_Ground_takeField d Q 67 [some (.ref a0), some (.int a1), some (.int a2)] [.int x0, .long x1, .long x2, .ref x3] τ = Ru M_Ground_takeField d Q 68 [some (.ref a0), some (.int a1), some (.int a2)] [.long (x1 <<< (x0.toInt64 &&& 63)), .long x2, .ref x3] τ) ∧
    (∀ (a0 : Nat) (a1 : Int32) (a2 : Int32) (x0 : Int64) (x1 : Int64) (x2 : Nat) (τ : St), Ru M_Ground_takeField d Q 68 [some (.ref a0), some (.int a1), some (.int a2)] [.long x0, .long x1, .ref x2] τ = Ru M_Ground_takeField d Q 69 [some (.ref a0), some (.int a1), some (.int a2)] [.long (x1 ||| x0), .ref x2] τ) ∧
    (∀ (a0 : Nat) (a1 : Int32) (a2 : Int32) (x0 : Int64) (x1 : Nat) (τ : St), Ru M_Ground_takeField d Q 69 [some (.ref a0), some (.int a1), some (.int a2)] [.long x0, .ref x1] τ = (isA 0 x1 ∧ Ru M_Ground_takeField d Q 72 [some (.ref a0), some (.int a1), some (.int a2)] [] (sL τ x1 6 x0))) ∧
    (∀ (a0 : Nat) (a1 : Int32) (a2 : Int32) (τ : St), Ru M_Ground_takeField d Q 72 [some (.ref a0), some (.int a1), some (.int a2)] [] τ = Ru M_Ground_takeField d Q 118 [some (.ref a0), some (.int a1), some (.int a2)] [] τ) ∧
    (∀ (a0 : Nat) (a1 : Int32) (a2 : Int32) (τ : St), Ru M_Ground_takeField d Q 75 [some (.ref a0), some (.int a1), some (.int a2)] [] τ = Ru M_Ground_takeField d Q 76 [some (.ref a0), some (.int a1), some (.int a2)] [.int a2] τ) ∧
    (∀ (a0 : Nat) (a1 : Int32) (a2 : Int32) (x0 : Int32) (τ : St), Ru M_Ground_takeField d Q 76 [some (.ref a0), some (.int a1), some (.int a2)] [.int x0] τ = Ru M_Ground_takeField d Q 77 [some (.ref a0), some (.int a1), some (.int a2)] [.int 1, .int x0] τ) ∧
    (∀ (a0 : Nat) (a1 : Int32) (a2 : Int32) (x0 : Int32) (x1 : Int32) (τ : St), Ru M_Ground_takeField d Q 77 [some (.ref a0), some (.int a1), some (.int a2)] [.int x0, .int x1] τ = ((¬ x1 = x0 → Ru M_Ground_takeField d Q 98 [some (.ref a0), some (.int a1), some (.int a2)] [] τ) ∧ (x1 = x0 → Ru M_Ground_takeField d Q 80 [some (.ref a0), some (.int a1), some (.int a2)] [] τ))) ∧
    (∀ (a0 : Nat) (a1 : Int32) (a2 : Int32) (τ : St), Ru M_Ground_takeField d Q 80 [some (.ref a0), some (.int a1), some (.int a2)] [] τ = Ru M_Ground_takeField d Q 81 [some (.ref a0), some (.int a1), some (.int a2)] [.ref a0] τ) ∧
    (∀ (a0 : Nat) (a1 : Int32) (a2 : Int32) (x0 : Nat) (τ : St), Ru M_Ground_takeField d Q 81 [some (.ref a0), some (.int a1), some (.int a2)] [.ref x0] τ = Ru M_Ground_takeField d Q 82 [some (.ref a0), some (.int a1), some (.int a2)] [.ref x0, .ref x0] τ) ∧
    (∀ (a0 : Nat) (a1 : Int32) (a2 : Int32) (x0 : Nat) (x1 : Nat) (τ : St), Ru M_Ground_takeField d Q 82 [some (.ref a0), some (.int a1), some (.int a2)] [.ref x0, .ref x1] τ = (isA 0 x0 ∧ Ru M_Ground_takeField d Q 85 [some (.ref a0), some (.int a1), some (.int a2)] [.long (τ.2 x0 7), .ref x1] τ)) ∧
    (∀ (a0 : Nat) (a1 : Int32) (a2 : Int32) (x0 : Int64) (x1 : Nat) (τ : St), Ru M_Ground_takeField d Q 85 [some (.ref a0), some (.int a1), some (.int a2)] [.long x0, .ref x1] τ = Ru M_Ground_takeField d Q 86 [some (.ref a0), some (.int a1), some (.int a2)] [.long 1, .long x0, .ref x1] τ) ∧
    (∀ (a0 : Nat) (a1 : Int32) (a2 : Int32) (x0 : Int64) (x1 : Int64) (x2 : Nat) (τ : St), Ru M_Ground_takeField d Q 86 [some (.ref a0), some (.int a1), some (.int a2)] [.long x0, .long x1, .ref x2] τ = Ru M_Ground_takeField d Q 87 [some (.ref a0), some (.int a1), some (.int a2)] [.ref a0, .long x0, .long x1, .ref x2] τ) ∧
    (∀ (a0 : Nat) (a1 : Int32) (a2 : Int32) (x0 : Nat) (x1 : Int64) (x2 : Int64) (x3 : Nat) (τ : St), Ru M_Ground_takeField d Q 87 [some (.ref a0), some (.int a1), some (.int a2)] [.ref x0, .long x1, .long x2, .ref x3] τ = (isA 0 x0 ∧ Ru M_Ground_takeField d Q 90 [some (.ref a0), some (.int a1), some (.int a2)] [.int (τ.1 x0 2), .long x1, .long x2, .ref x3] τ)) ∧
    (∀ (a0 : Nat) (a1 : Int32) (a2 : Int32) (x0 : Int32) (x1 : Int64) (x2 : Int64) (x3 : Nat) (τ : St), Ru M_Ground_takeField d Q 90 [some (.ref a0), some (.int a1), some (.int a2)] [.int x0, .long x1, .long x2, .ref x3] τ = Ru M_Ground_takeField d Q 91 [some (.ref a0), some (.int a1), some (.int a2)] [.long (x1 <<< (x0.toInt64 &&& 63)), .long x2, .ref x3] τ) ∧
    (∀ (a0 : Nat) (a1 : Int32) (a2 : Int32) (x0 : Int64) (x1 : Int64) (x2 : Nat) (τ : St), Ru M_Ground_takeField d Q 91 [some (.ref a0), some (.int a1), some (.int a2)] [.long x0, .long x1, .ref x2] τ = Ru M_Ground_takeField d Q 92 [some (.ref a0), some (.int a1), some (.int a2)] [.long (x1 ||| x0), .ref x2] τ) ∧
    (∀ (a0 : Nat) (a1 : Int32) (a2 : Int32) (x0 : Int64) (x1 : Nat) (τ : St), Ru M_Ground_takeField d Q 92 [some (.ref a0), some (.int a1), some (.int a2)] [.long x0, .ref x1] τ = (isA 0 x1 ∧ Ru M_Ground_takeField d Q 95 [some (.ref a0), some (.int a1), some (.int a2)] [] (sL τ x1 7 x0))) ∧
    (∀ (a0 : Nat) (a1 : Int32) (a2 : Int32) (τ : St), Ru M_Ground_takeField d Q 95 [some (.ref a0), some (.int a1), some (.int a2)] [] τ = Ru M_Ground_takeField d Q 118 [some (.ref a0), some (.int a1), some (.int a2)] [] τ) ∧
    (∀ (a0 : Nat) (a1 : Int32) (a2 : Int32) (τ : St), Ru M_Ground_takeField d Q 98 [some (.ref a0), some (.int a1), some (.int a2)] [] τ = Ru M_Ground_takeField d Q 99 [some (.ref a0), some (.int a1), some (.int a2)] [.int a2] τ) ∧
    (∀ (a0 : Nat) (a1 : Int32) (a2 : Int32) (x0 : Int32) (τ : St), Ru M_Ground_takeField d Q 99 [some (.ref a0), some (.int a1), some (.int a2)] [.int x0] τ = Ru M_Ground_takeField d Q 100 [some (.ref a0), some (.int a1), some (.int a2)] [.int 2, .int x0] τ) ∧
    (∀ (a0 : Nat) (a1 : Int32) (a2 : Int32) (x0 : Int32) (x1 : Int32) (τ : St), Ru M_Ground_takeField d Q 100 [some (.ref a0), some (.int a1), some (.int a2)] [.int x0, .int x1] τ = ((¬ x1 = x0 → Ru M_Ground_takeField d Q 118 [some (.ref a0), some (.int a1), some (.int a2)] [] τ) ∧ (x1 = x0 → Ru M_Ground_takeField d Q 103 [some (.ref a0), some (.int a1), some (.int a2)] [] τ))) ∧
    (∀ (a0 : Nat) (a1 : Int32) (a2 : Int32) (τ : St), Ru M_Ground_takeField d Q 103 [some (.ref a0), some (.int a1), some (.int a2)] [] τ = Ru M_Ground_takeField d Q 104 [some (.ref a0), some (.int a1), some (.int a2)] [.ref a0] τ) ∧
    (∀ (a0 : Nat) (a1 : Int32) (a2 : Int32) (x0 : Nat) (τ : St), Ru M_Ground_takeField d Q 104 [some (.ref a0), some (.int a1), some (.int a2)] [.ref x0] τ = Ru M_Ground_takeField d Q 105 [some (.ref a0), some (.int a1), some (.int a2)] [.ref x0, .ref x0] τ) ∧
    (∀ (a0 : Nat) (a1 : Int32) (a2 : Int32) (x0 : Nat) (x1 : Nat) (τ : St), Ru M_Ground_takeField d Q 105 [some (.ref a0), some (.int a1), some (.int a2)] [.ref x0, .ref x1] τ = (isA 0 x0 ∧ Ru M_Ground_takeField d Q 108 [some (.ref a0), some (.int a1), some (.int a2)] [.long (τ.2 x0 8), .ref x1] τ)) ∧
    (∀ (a0 : Nat) (a1 : Int32) (a2 : Int32) (x0 : Int64) (x1 : Nat) (τ : St), Ru M_Ground_takeField d Q 108 [some (.ref a0), some (.int a1), some (.int a2)] [.long x0, .ref x1] τ = Ru M_Ground_takeField d Q 109 [some (.ref a0), some (.int a1), some (.int a2)] [.long 1, .long x0, .ref x1] τ) ∧
    (∀ (a0 : Nat) (a1 : Int32) (a2 : Int32) (x0 : Int64) (x1 : Int64) (x2 : Nat) (τ : St), Ru M_Ground_takeField d Q 109 [some (.ref a0), some (.int a1), some (.int a2)] [.long x0, .long x1, .ref x2] τ = Ru M_Ground_takeField d Q 110 [some (.ref a0), some (.int a1), some (.int a2)] [.ref a0, .long x0, .long x1, .ref x2] τ) ∧
    (∀ (a0 : Nat) (a1 : Int32) (a2 : Int32) (x0 : Nat) (x1 : Int64) (x2 : Int64) (x3 : Nat) (τ : St), Ru M_Ground_takeField d Q 110 [some (.ref a0), some (.int a1), some (.int a2)] [.ref x0, .long x1, .long x2, .ref x3] τ = (isA 0 x0 ∧ Ru M_Ground_takeField d Q 113 [some (.ref a0), some (.int a1), some (.int a2)] [.int (τ.1 x0 2), .long x1, .long x2, .ref x3] τ)) ∧
    (∀ (a0 : Nat) (a1 : Int32) (a2 : Int32) (x0 : Int32) (x1 : Int64) (x2 : Int64) (x3 : Nat) (τ : St), Ru M_Ground_takeField d Q 113 [some (.ref a0), some (.int a1), some (.int a2)] [.int x0, .long x1, .long x2, .ref x3] τ = Ru M_Ground_takeField d Q 114 [some (.ref a0), some (.int a1), some (.int a2)] [.long (x1 <<< (x0.toInt64 &&& 63)), .long x2, .ref x3] τ) ∧
    (∀ (a0 : Nat) (a1 : Int32) (a2 : Int32) (x0 : Int64) (x1 : Int64) (x2 : Nat) (τ : St), Ru M_Ground_takeField d Q 114 [some (.ref a0), some (.int a1), some (.int a2)] [.long x0, .long x1, .ref x2] τ = Ru M_Ground_takeField d Q 115 [some (.ref a0), some (.int a1), some (.int a2)] [.long (x1 ||| x0), .ref x2] τ) ∧
    (∀ (a0 : Nat) (a1 : Int32) (a2 : Int32) (x0 : Int64) (x1 : Nat) (τ : St), Ru M_Ground_takeField d Q 115 [some (.ref a0), some (.int a1), some (.int a2)] [.long x0, .ref x1] τ = (isA 0 x1 ∧ Ru M_Ground_takeField d Q 118 [some (.ref a0), some (.int a1), some (.int a2)] [] (sL τ x1 8 x0))) ∧
    (∀ (a0 : Nat) (a1 : Int32) (a2 : Int32) (τ : St), Ru M_Ground_takeField d Q 118 [some (.ref a0), some (.int a1), some (.int a2)] [] τ = Ru M_Ground_takeField d Q 119 [some (.ref a0), some (.int a1), some (.int a2)] [.ref a0] τ) ∧
    (∀ (a0 : Nat) (a1 : Int32) (a2 : Int32) (x0 : Nat) (τ : St), Ru M_Ground_takeField d Q 119 [some (.ref a0), some (.int a1), some (.int a2)] [.ref x0] τ = Ru M_Ground_takeField d Q 120 [some (.ref a0), some (.int a1), some (.int a2)] [.ref x0, .ref x0] τ) ∧
    (∀ (a0 : Nat) (a1 : Int32) (a2 : Int32) (x0 : Nat) (x1 : Nat) (τ : St), Ru M_Ground_takeField d Q 120 [some (.ref a0), some (.int a1), some (.int a2)] [.ref x0, .ref x1] τ = (isA 0 x0 ∧ Ru M_Ground_takeField d Q 123 [some (.ref a0), some (.int a1), some (.int a2)] [.int (τ.1 x0 2), .ref x1] τ)) ∧
    (∀ (a0 : Nat) (a1 : Int32) (a2 : Int32) (x0 : Int32) (x1 : Nat) (τ : St), Ru M_Ground_takeField d Q 123 [some (.ref a0), some (.int a1), some (.int a2)] [.int x0, .ref x1] τ = Ru M_Ground_takeField d Q 124 [some (.ref a0), some (.int a1), some (.int a2)] [.int 1, .int x0, .ref x1] τ) ∧
    (∀ (a0 : Nat) (a1 : Int32) (a2 : Int32) (x0 : Int32) (x1 : Int32) (x2 : Nat) (τ : St), Ru M_Ground_takeField d Q 124 [some (.ref a0), some (.int a1), some (.int a2)] [.int x0, .int x1, .ref x2] τ = Ru M_Ground_takeField d Q 125 [some (.ref a0), some (.int a1), some (.int a2)] [.int (x1 + x0), .ref x2] τ) ∧
    (∀ (a0 : Nat) (a1 : Int32) (a2 : Int32) (x0 : Int32) (x1 : Nat) (τ : St), Ru M_Ground_takeField d Q 125 [some (.ref a0), some (.int a1), some (.int a2)] [.int x0, .ref x1] τ = (isA 0 x1 ∧ Ru M_Ground_takeField d Q 128 [some (.ref a0), some (.int a1), some (.int a2)] [] (sI τ x1 2 x0))) ∧
    (∀ (a0 : Nat) (a1 : Int32) (a2 : Int32) (τ : St), Ru M_Ground_takeField d Q 128 [some (.ref a0), some (.int a1), some (.int a2)] [] τ = Q none τ) := ⟨
  fun _ _ _ => (R_at ok_Ground_takeField rfl).trans (e_ald rfl),
  fun _ _ _ _ => (R_at ok_Ground_takeField rfl).trans e_gI,
  fun _ _ _ _ => (R_at ok_Ground_takeField rfl).trans e_if,
  fun _ _ _ => (R_at ok_Ground_takeField rfl).trans (e_ald rfl),
  fun _ _ _ _ => (R_at ok_Ground_takeField rfl).trans e_gI,
  fun _ _ _ _ => (R_at ok_Ground_takeField rfl).trans e_push,
  fun _ _ _ _ _ => (R_at ok_Ground_takeField rfl).trans e_ic,
  fun _ _ _ => (R_at ok_Ground_takeField rfl).trans e_vret,
  fun _ _ _ => (R_at ok_Ground_takeField rfl).trans (e_ild rfl),
  fun _ _ x0 _ => (R_at ok_Ground_takeField rfl).trans (e_cs [.int x0] rfl rfl rfl),
  fun _ _ _ _ => (R_at ok_Ground_takeField rfl).trans e_ist,
  fun _ _ _ _ => (R_at ok_Ground_takeField rfl).trans (e_ald rfl),
  fun _ _ _ _ _ => (R_at ok_Ground_takeField rfl).trans e_gR,
  fun _ _ _ _ _ => (R_at ok_Ground_takeField rfl).trans (e_ald rfl),
  fun _ _ _ _ _ _ => (R_at ok_Ground_takeField rfl).trans e_gI,
  fun _ _ _ _ _ _ => (R_at ok_Ground_takeField rfl).trans (e_ild rfl),
  fun _ _ _ _ _ _ _ => (R_at ok_Ground_takeField rfl).trans e_as,
  fun _ _ _ _ => (R_at ok_Ground_takeField rfl).trans (e_ald rfl),
  fun _ _ _ _ _ => (R_at ok_Ground_takeField rfl).trans e_gR,
  fun _ _ _ _ _ => (R_at ok_Ground_takeField rfl).trans (e_ald rfl),
  fun _ _ _ _ _ _ => (R_at ok_Ground_takeField rfl).trans e_gI,
  fun _ _ _ _ _ _ => (R_at ok_Ground_takeField rfl).trans (e_ild rfl),
  fun _ _ _ _ _ _ _ => (R_at ok_Ground_takeField rfl).trans e_ifn,
  fun _ _ _ _ _ _ => (R_at ok_Ground_takeField rfl).trans (e_ild rfl),
  fun _ _ _ _ _ _ _ => (R_at ok_Ground_takeField rfl).trans e_push,
  fun _ _ _ _ _ _ _ _ => (R_at ok_Ground_takeField rfl).trans e_bin,
  fun _ _ _ _ _ _ _ => (R_at ok_Ground_takeField rfl).trans e_goto,
  fun _ _ _ _ _ _ => (R_at ok_Ground_takeField rfl).trans e_push,
  fun _ _ _ _ _ _ _ => (R_at ok_Ground_takeField rfl).trans e_as,
  fun _ _ _ _ => (R_at ok_Ground_takeField rfl).trans (e_ild rfl),
  fun _ _ _ _ _ => (R_at ok_Ground_takeField rfl).trans e_ifn,
  fun _ _ _ _ => (R_at ok_Ground_takeField rfl).trans (e_ald rfl),
  fun _ _ _ _ _ => (R_at ok_Ground_takeField rfl).trans (e_dup rfl),
  fun _ _ _ _ _ _ => (R_at ok_Ground_takeField rfl).trans e_gL,
  fun _ _ _ _ _ _ => (R_at ok_Ground_takeField rfl).trans e_push,
  fun _ _ _ _ _ _ _ => (R_at ok_Ground_takeField rfl).trans (e_ald rfl),
  fun _ _ _ _ _ _ _ _ => (R_at ok_Ground_takeField rfl).trans e_gI,
  fun _ _ _ _ _ _ _ _ => (R_at ok_Ground_takeField rfl).trans e_lsh,
  fun _ _ _ _ _ _ _ => (R_at ok_Ground_takeField rfl).trans e_lbin,
  fun _ _ _ _ _ _ => (R_at ok_Ground_takeField rfl).trans e_pL,
  fun _ _ _ _ => (R_at ok_Ground_takeField rfl).trans e_goto,
  fun _ _ _ _ => (R_at ok_Ground_takeField rfl).trans (e_ild rfl),
  fun _ _ _ _ _ => (R_at ok_Ground_takeField rfl).trans e_push,
  fun _ _ _ _ _ _ => (R_at ok_Ground_takeField rfl).trans e_icn,
  fun _ _ _ _ => (R_at ok_Ground_takeField rfl).trans (e_ald rfl),
  fun _ _ _ _ _ => (R_at ok_Ground_takeField rfl).trans (e_dup rfl),
  fun _ _ _ _ _ _ => (R_at ok_Ground_takeField rfl).trans e_gL,
  fun _ _ _ _ _ _ => (R_at ok_Ground_takeField rfl).trans e_push,
  fun _ _ _ _ _ _ _ => (R_at ok_Ground_takeField rfl).trans (e_ald rfl),
  fun _ _ _ _ _ _ _ _ => (R_at ok_Ground_takeField rfl).trans e_gI,
  fun _ _ _ _ _ _ _ _ => (R_at ok_Ground_takeField rfl).trans e_lsh,
  fun _ _ _ _ _ _ _ => (R_at ok_Ground_takeField rfl).trans e_lbin,
  fun _ _ _ _ _ _ => (R_at ok_Ground_takeField rfl).trans e_pL,
  fun _ _ _ _ => (R_at ok_Ground_takeField rfl).trans e_goto,
  fun _ _ _ _ => (R_at ok_Ground_takeField rfl).trans (e_ild rfl),
  fun _ _ _ _ _ => (R_at ok_Ground_takeField rfl).trans e_push,
  fun _ _ _ _ _ _ => (R_at ok_Ground_takeField rfl).trans e_icn,
  fun _ _ _ _ => (R_at ok_Ground_takeField rfl).trans (e_ald rfl),
  fun _ _ _ _ _ => (R_at ok_Ground_takeField rfl).trans (e_dup rfl),
  fun _ _ _ _ _ _ => (R_at ok_Ground_takeField rfl).trans e_gL,
  fun _ _ _ _ _ _ => (R_at ok_Ground_takeField rfl).trans e_push,
  fun _ _ _ _ _ _ _ => (R_at ok_Ground_takeField rfl).trans (e_ald rfl),
  fun _ _ _ _ _ _ _ _ => (R_at ok_Ground_takeField rfl).trans e_gI,
  fun _ _ _ _ _ _ _ _ => (R_at ok_Ground_takeField rfl).trans e_lsh,
  fun _ _ _ _ _ _ _ => (R_at ok_Ground_takeField rfl).trans e_lbin,
  fun _ _ _ _ _ _ => (R_at ok_Ground_takeField rfl).trans e_pL,
  fun _ _ _ _ => (R_at ok_Ground_takeField rfl).trans (e_ald rfl),
  fun _ _ _ _ _ => (R_at ok_Ground_takeField rfl).trans (e_dup rfl),
  fun _ _ _ _ _ _ => (R_at ok_Ground_takeField rfl).trans e_gI,
  fun _ _ _ _ _ _ => (R_at ok_Ground_takeField rfl).trans e_push,
  fun _ _ _ _ _ _ _ => (R_at ok_Ground_takeField rfl).trans e_bin,
  fun _ _ _ _ _ _ => (R_at ok_Ground_takeField rfl).trans e_pI,
  fun _ _ _ _ => (R_at ok_Ground_takeField rfl).trans e_vret⟩
set_option maxHeartbeats 4000000 in
theorem N_Ground_link (d : Nat) (Q : Qt) : ∀ (x0 : Nat) (x1 : Int32) (τ : St), Cl (d + 1) m_Ground_link [.ref x0, .int x1] τ Q = Ru M_Ground_link d Q 0 [some (.ref x0), some (.int x1), none, none] [] τ := fun _ _ _ => propext ⟨fun h => h.2, fun h => ⟨Nat.le_of_ble_eq_true rfl, h⟩⟩
set_option maxHeartbeats 4000000 in
theorem E_Ground_link (d : Nat) (Q : Qt) :
    (∀ (a0 : Nat) (a1 : Int32) (τ : St), Ru M_Ground_link d Q 0 [some (.ref a0), some (.int a1), none, none] [] τ = Ru M_Ground_link d Q 1 [some (.ref a0), some (.int a1), none, none] [.ref a0] τ) ∧
    (∀ (a0 : Nat) (a1 : Int32) (x0 : Nat) (τ : St), Ru M_Ground_link d Q 1 [some (.ref a0), some (.int a1), none, none] [.ref x0] τ = Ru M_Ground_link d Q 2 [some (.ref a0), some (.int a1), none, none] [.int a1, .ref x0] τ) ∧
    (∀ (a0 : Nat) (a1 : Int32) (x0 : Int32) (x1 : Nat) (τ : St), Ru M_Ground_link d Q 2 [some (.ref a0), some (.int a1), none, none] [.int x0, .ref x1] τ = (isA 0 x1 ∧ Cl d m_Ground_has [.ref x1, .int x0] τ (fun v τ' => Ru M_Ground_link d Q 5 [some (.ref a0), some (.int a1), none, none] (v.toList ++ []) τ'))) ∧
    (∀ (a0 : Nat) (a1 : Int32) (x0 : Int32) (τ : St), Ru M_Ground_link d Q 5 [some (.ref a0), some (.int a1), none, none] [.int x0] τ = ((x0 = 0 → Ru M_Ground_link d Q 16 [some (.ref a0), some (.int a1), none, none] [] τ) ∧ (¬ x0 = 0 → Ru M_Ground_link d Q 8 [some (.ref a0), some (.int a1), none, none] [] τ))) ∧
    (∀ (a0 : Nat) (a1 : Int32) (τ : St), Ru M_Ground_link d Q 8 [some (.ref a0), some (.int a1), none, none] [] τ = Ru M_Ground_link d Q 9 [some (.ref a0), some (.int a1), none, none] [.ref a0] τ) ∧
    (∀ (a0 : Nat) (a1 : Int32) (x0 : Nat) (τ : St), Ru M_Ground_link d Q 9 [some (.ref a0), some (.int a1), none, none] [.ref x0] τ = (isA 0 x0 ∧ Ru M_Ground_link d Q 12 [some (.ref a0), some (.int a1), none, none] [.int (τ.1 x0 1)] τ)) ∧
    (∀ (a0 : Nat) (a1 : Int32) (x0 : Int32) (τ : St), Ru M_Ground_link d Q 12 [some (.ref a0), some (.int a1), none, none] [.int x0] τ = Ru M_Ground_link d Q 13 [some (.ref a0), some (.int a1), none, none] [.int 1, .int x0] τ) ∧
    (∀ (a0 : Nat) (a1 : Int32) (x0 : Int32) (x1 : Int32) (τ : St), Ru M_Ground_link d Q 13 [some (.ref a0), some (.int a1), none, none] [.int x0, .int x1] τ = ((x0 ≤ x1 → Ru M_Ground_link d Q 17 [some (.ref a0), some (.int a1), none, none] [] τ) ∧ (¬ x0 ≤ x1 → Ru M_Ground_link d Q 16 [some (.ref a0), some (.int a1), none, none] [] τ))) ∧
    (∀ (a0 : Nat) (a1 : Int32) (τ : St), Ru M_Ground_link d Q 16 [some (.ref a0), some (.int a1), none, none] [] τ = Q none τ) ∧
    (∀ (a0 : Nat) (a1 : Int32) (τ : St), Ru M_Ground_link d Q 17 [some (.ref a0), some (.int a1), none, none] [] τ = Ru M_Ground_link d Q 18 [some (.ref a0), some (.int a1), none, none] [.int a1] τ) ∧
    (∀ (a0 : Nat) (a1 : Int32) (x0 : Int32) (τ : St), Ru M_Ground_link d Q 18 [some (.ref a0), some (.int a1), none, none] [.int x0] τ = Ru M_Ground_link d Q 19 [some (.ref a0), some (.int a1), none, none] [.ref a0, .int x0] τ) ∧
    (∀ (a0 : Nat) (a1 : Int32) (x0 : Nat) (x1 : Int32) (τ : St), Ru M_Ground_link d Q 19 [some (.ref a0), some (.int a1), none, none] [.ref x0, .int x1] τ = (isA 0 x0 ∧ Ru M_Ground_link d Q 22 [some (.ref a0), some (.int a1), none, none] [.int (τ.1 x0 1), .int x1] τ)) ∧
    (∀ (a0 : Nat) (a1 : Int32) (x0 : Int32) (x1 : Int32) (τ : St), Ru M_Ground_link d Q 22 [some (.ref a0), some (.int a1), none, none] [.int x0, .int x1] τ = (¬ x0 = 0 ∧ Ru M_Ground_link d Q 23 [some (.ref a0), some (.int a1), none, none] [.int (x1 - x1 / x0 * x0)] τ)) ∧
    (∀ (a0 : Nat) (a1 : Int32) (x0 : Int32) (τ : St), Ru M_Ground_link d Q 23 [some (.ref a0), some (.int a1), none, none] [.int x0] τ = Ru M_Ground_link d Q 24 [some (.ref a0), some (.int a1), some (.int x0), none] [] τ) ∧
    (∀ (a0 : Nat) (a1 : Int32) (a2 : Int32) (τ : St), Ru M_Ground_link d Q 24 [some (.ref a0), some (.int a1), some (.int a2), none] [] τ = Ru M_Ground_link d Q 25 [some (.ref a0), some (.int a1), some (.int a2), none] [.int a1] τ) ∧
    (∀ (a0 : Nat) (a1 : Int32) (a2 : Int32) (x0 : Int32) (τ : St), Ru M_Ground_link d Q 25 [some (.ref a0), some (.int a1), some (.int a2), none] [.int x0] τ = Ru M_Ground_link d Q 26 [some (.ref a0), some (.int a1), some (.int a2), none] [.int 4, .int x0] τ) ∧
    (∀ (a0 : Nat) (a1 : Int32) (a2 : Int32) (x0 : Int32) (x1 : Int32) (τ : St), Ru M_Ground_link d Q 26 [some (.ref a0), some (.int a1), some (.int a2), none] [.int x0, .int x1] τ = Ru M_Ground_link d Q 27 [some (.ref a0), some (.int a1), some (.int a2), none] [.int (x1 * x0)] τ) ∧
    (∀ (a0 : Nat) (a1 : Int32) (a2 : Int32) (x0 : Int32) (τ : St), Ru M_Ground_link d Q 27 [some (.ref a0), some (.int a1), some (.int a2), none] [.int x0] τ = Ru M_Ground_link d Q 28 [some (.ref a0), some (.int a1), some (.int a2), some (.int x0)] [] τ) ∧
    (∀ (a0 : Nat) (a1 : Int32) (a2 : Int32) (a3 : Int32) (τ : St), Ru M_Ground_link d Q 28 [some (.ref a0), some (.int a1), some (.int a2), some (.int a3)] [] τ = Ru M_Ground_link d Q 29 [some (.ref a0), some (.int a1), some (.int a2), some (.int a3)] [.ref a0] τ) ∧
    (∀ (a0 : Nat) (a1 : Int32) (a2 : Int32) (a3 : Int32) (x0 : Nat) (τ : St), Ru M_Ground_link d Q 29 [some (.ref a0), some (.int a1), some (.int a2), some (.int a3)] [.ref x0] τ = (isA 0 x0 ∧ Ru M_Ground_link d Q 32 [some (.ref a0), some (.int a1), some (.int a2), some (.int a3)] [.ref (rtab x0 5)] τ)) ∧
    (∀ (a0 : Nat) (a1 : Int32) (a2 : Int32) (a3 : Int32) (x0 : Nat) (τ : St), Ru M_Ground_link d Q 32 [some (.ref a0), some (.int a1), some (.int a2), some (.int a3)] [.ref x0] τ = Ru M_Ground_link d Q 33 [some (.ref a0), some (.int a1), some (.int a2), some (.int a3)] [.int a3, .ref x0] τ) ∧
    (∀ (a0 : Nat) (a1 : Int32) (a2 : Int32) (a3 : Int32) (x0 : Int32) (x1 : Nat) (τ : St), Ru M_Ground_link d Q 33 [some (.ref a0), some (.int a1), some (.int a2), some (.int a3)] [.int x0, .ref x1] τ = Ru M_Ground_link d Q 34 [some (.ref a0), some (.int a1), some (.int a2), some (.int a3)] [.ref a0, .int x0, .ref x1] τ) ∧
    (∀ (a0 : Nat) (a1 : Int32) (a2 : Int32) (a3 : Int32) (x0 : Nat) (x1 : Int32) (x2 : Nat) (τ : St), Ru M_Ground_link d Q 34 [some (.ref a0), some (.int a1), some (.int a2), some (.int a3)] [.ref x0, .int x1, .ref x2] τ = Ru M_Ground_link d Q 35 [some (.ref a0), some (.int a1), some (.int a2), some (.int a3)] [.int a1, .ref x0, .int x1, .ref x2] τ) ∧
    (∀ (a0 : Nat) (a1 : Int32) (a2 : Int32) (a3 : Int32) (x0 : Int32) (x1 : Nat) (x2 : Int32) (x3 : Nat) (τ : St), Ru M_Ground_link d Q 35 [some (.ref a0), some (.int a1), some (.int a2), some (.int a3)] [.int x0, .ref x1, .int x2, .ref x3] τ = Ru M_Ground_link d Q 36 [some (.ref a0), some (.int a1), some (.int a2), some (.int a3)] [.ref a0, .int x0, .ref x1, .int x2, .ref x3] τ) ∧
    (∀ (a0 : Nat) (a1 : Int32) (a2 : Int32) (a3 : Int32) (x0 : Nat) (x1 : Int32) (x2 : Nat) (x3 : Int32) (x4 : Nat) (τ : St), Ru M_Ground_link d Q 36 [some (.ref a0), some (.int a1), some (.int a2), some (.int a3)] [.ref x0, .int x1, .ref x2, .int x3, .ref x4] τ = (isA 0 x0 ∧ Ru M_Ground_link d Q 39 [some (.ref a0), some (.int a1), some (.int a2), some (.int a3)] [.int (τ.1 x0 1), .int x1, .ref x2, .int x3, .ref x4] τ)) ∧
    (∀ (a0 : Nat) (a1 : Int32) (a2 : Int32) (a3 : Int32) (x0 : Int32) (x1 : Int32) (x2 : Nat) (x3 : Int32) (x4 : Nat) (τ : St), Ru M_Ground_link d Q 39 [some (.ref a0), some (.int a1), some (.int a2), some (.int a3)] [.int x0, .int x1, .ref x2, .int x3, .ref x4] τ = Ru M_Ground_link d Q 40 [some (.ref a0), some (.int a1), some (.int a2), some (.int a3)] [.int (x1 - x0), .ref x2, .int x3, .ref x4] τ) ∧
    (∀ (a0 : Nat) (a1 : Int32) (a2 : Int32) (a3 : Int32) (x0 : Int32) (x1 : Nat) (x2 : Int32) (x3 : Nat) (τ : St), Ru M_Ground_link d Q 40 [some (.ref a0), some (.int a1), some (.int a2), some (.int a3)] [.int x0, .ref x1, .int x2, .ref x3] τ = (isA 0 x1 ∧ Cl d m_Ground_openField [.ref x1, .int x0] τ (fun v τ' => Ru M_Ground_link d Q 43 [some (.ref a0), some (.int a1), some (.int a2), some (.int a3)] (v.toList ++ [.int x2, .ref x3]) τ'))) ∧
    (∀ (a0 : Nat) (a1 : Int32) (a2 : Int32) (a3 : Int32) (x0 : Int32) (x1 : Int32) (x2 : Nat) (τ : St), Ru M_Ground_link d Q 43 [some (.ref a0), some (.int a1), some (.int a2), some (.int a3)] [.int x0, .int x1, .ref x2] τ = (isA 14 x2 ∧ vp_in x1 (len x2) ∧ Ru M_Ground_link d Q 44 [some (.ref a0), some (.int a1), some (.int a2), some (.int a3)] [] (sI τ x2 x1.toNatClampNeg (x0)))) ∧
    (∀ (a0 : Nat) (a1 : Int32) (a2 : Int32) (a3 : Int32) (τ : St), Ru M_Ground_link d Q 44 [some (.ref a0), some (.int a1), some (.int a2), some (.int a3)] [] τ = Ru M_Ground_link d Q 45 [some (.ref a0), some (.int a1), some (.int a2), some (.int a3)] [.ref a0] τ) ∧
    (∀ (a0 : Nat) (a1 : Int32) (a2 : Int32) (a3 : Int32) (x0 : Nat) (τ : St), Ru M_Ground_link d Q 45 [some (.ref a0), some (.int a1), some (.int a2), some (.int a3)] [.ref x0] τ = (isA 0 x0 ∧ Ru M_Ground_link d Q 48 [some (.ref a0), some (.int a1), some (.int a2), some (.int a3)] [.ref (rtab x0 5)] τ)) ∧
    (∀ (a0 : Nat) (a1 : Int32) (a2 : Int32) (a3 : Int32) (x0 : Nat) (τ : St), Ru M_Ground_link d Q 48 [some (.ref a0), some (.int a1), some (.int a2), some (.int a3)] [.ref x0] τ = Ru M_Ground_link d Q 49 [some (.ref a0), some (.int a1), some (.int a2), some (.int a3)] [.int a3, .ref x0] τ) ∧
    (∀ (a0 : Nat) (a1 : Int32) (a2 : Int32) (a3 : Int32) (x0 : Int32) (x1 : Nat) (τ : St), Ru M_Ground_link d Q 49 [some (.ref a0), some (.int a1), some (.int a2), some (.int a3)] [.int x0, .ref x1] τ = Ru M_Ground_link d Q 50 [some (.ref a0), some (.int a1), some (.int a2), some (.int a3)] [.int 1, .int x0, .ref x1] τ) ∧
    (∀ (a0 : Nat) (a1 : Int32) (a2 : Int32) (a3 : Int32) (x0 : Int32) (x1 : Int32) (x2 : Nat) (τ : St), Ru M_Ground_link d Q 50 [some (.ref a0), some (.int a1), some (.int a2), some (.int a3)] [.int x0, .int x1, .ref x2] τ = Ru M_Ground_link d Q 51 [some (.ref a0), some (.int a1), some (.int a2), some (.int a3)] [.int (x1 + x0), .ref x2] τ) ∧
    (∀ (a0 : Nat) (a1 : Int32) (a2 : Int32) (a3 : Int32) (x0 : Int32) (x1 : Nat) (τ : St), Ru M_Ground_link d Q 51 [some (.ref a0), some (.int a1), some (.int a2), some (.int a3)] [.int x0, .ref x1] τ = Ru M_Ground_link d Q 52 [some (.ref a0), some (.int a1), some (.int a2), some (.int a3)] [.int a2, .int x0, .ref x1] τ) ∧
    (∀ (a0 : Nat) (a1 : Int32) (a2 : Int32) (a3 : Int32) (x0 : Int32) (x1 : Int32) (x2 : Nat) (τ : St), Ru M_Ground_link d Q 52 [some (.ref a0), some (.int a1), some (.int a2), some (.int a3)] [.int x0, .int x1, .ref x2] τ = Ru M_Ground_link d Q 53 [some (.ref a0), some (.int a1), some (.int a2), some (.int a3)] [.int 1, .int x0, .int x1, .ref x2] τ) ∧
    (∀ (a0 : Nat) (a1 : Int32) (a2 : Int32) (a3 : Int32) (x0 : Int32) (x1 : Int32) (x2 : Int32) (x3 : Nat) (τ : St), Ru M_Ground_link d Q 53 [some (.ref a0), some (.int a1), some (.int a2), some (.int a3)] [.int x0, .int x1, .int x2, .ref x3] τ = Ru M_Ground_link d Q 54 [some (.ref a0), some (.int a1), some (.int a2), some (.int a3)] [.int (x1 + x0), .int x2, .ref x3] τ) ∧
    (∀ (a0 : Nat) (a1 : Int32) (a2 : Int32) (a3 : Int32) (x0 : Int32) (x1 : Int32) (x2 : Nat) (τ : St), Ru M_Ground_link d Q 54 [some (.ref a0), some (.int a1), some (.int a2), some (.int a3)] [.int x0, .int x1, .ref x2] τ = Ru M_Ground_link d Q 55 [some (.ref a0), some (.int a1), some (.int a2), some (.int a3)] [.ref a0, .int x0, .int x1, .ref x2] τ) ∧
    (∀ (a0 : Nat) (a1 : Int32) (a2 : Int32) (a3 : Int32) (x0 : Nat) (x1 : Int32) (x2 : Int32) (x3 : Nat) (τ : St), Ru M_Ground_link d Q 55 [some (.ref a0), some (.int a1), some (.int a2), some (.int a3)] [.ref x0, .int x1, .int x2, .ref x3] τ = (isA 0 x0 ∧ Ru M_Ground_link d Q 58 [some (.ref a0), some (.int a1), some (.int a2), some (.int a3)] [.int (τ.1 x0 1), .int x1, .int x2, .ref x3] τ)) ∧
    (∀ (a0 : Nat) (a1 : Int32) (a2 : Int32) (a3 : Int32) (x0 : Int32) (x1 : Int32) (x2 : Int32) (x3 : Nat) (τ : St), Ru M_Ground_link d Q 58 [some (.ref a0), some (.int a1), some (.int a2), some (.int a3)] [.int x0, .int x1, .int x2, .ref x3] τ = ((x0 ≤ x1 → Ru M_Ground_link d Q 71 [some (.ref a0), some (.int a1), some (.int a2), some (.int a3)] [.int x2, .ref x3] τ) ∧ (¬ x0 ≤ x1 → Ru M_Ground_link d Q 61 [some (.ref a0), some (.int a1), some (.int a2), some (.int a3)] [.int x2, .ref x3] τ))) ∧
    (∀ (a0 : Nat) (a1 : Int32) (a2 : Int32) (a3 : Int32) (x0 : Int32) (x1 : Nat) (τ : St), Ru M_Ground_link d Q 61 [some (.ref a0), some (.int a1), some (.int a2), some (.int a3)] [.int x0, .ref x1] τ = Ru M_Ground_link d Q 62 [some (.ref a0), some (.int a1), some (.int a2), some (.int a3)] [.ref a0, .int x0, .ref x1] τ) ∧
    (∀ (a0 : Nat) (a1 : Int32) (a2 : Int32) (a3 : Int32) (x0 : Nat) (x1 : Int32) (x2 : Nat) (τ : St), Ru M_Ground_link d Q 62 [some (.ref a0), some (.int a1), some (.int a2), some (.int a3)] [.ref x0, .int x1, .ref x2] τ = Ru M_Ground_link d Q 63 [some (.ref a0), some (.int a1), some (.int a2), some (.int a3)] [.int a1, .ref x0, .int x1, .ref x2] τ) ∧
    (∀ (a0 : Nat) (a1 : Int32) (a2 : Int32) (a3 : Int32) (x0 : Int32) (x1 : Nat) (x2 : Int32) (x3 : Nat) (τ : St), Ru M_Ground_link d Q 63 [some (.ref a0), some (.int a1), some (.int a2), some (.int a3)] [.int x0, .ref x1, .int x2, .ref x3] τ = Ru M_Ground_link d Q 64 [some (.ref a0), some (.int a1), some (.int a2), some (.int a3)] [.int 1, .int x0, .ref x1, .int x2, .ref x3] τ) ∧
    (∀ (a0 : Nat) (a1 : Int32) (a2 : Int32) (a3 : Int32) (x0 : Int32) (x1 : Int32) (x2 : Nat) (x3 : Int32) (x4 : Nat) (τ : St), Ru M_Ground_link d Q 64 [some (.ref a0), some (.int a1), some (.int a2), some (.int a3)] [.int x0, .int x1, .ref x2, .int x3, .ref x4] τ = Ru M_Ground_link d Q 65 [some (.ref a0), some (.int a1), some (.int a2), some (.int a3)] [.int (x1 + x0), .ref x2, .int x3, .ref x4] τ) ∧
    (∀ (a0 : Nat) (a1 : Int32) (a2 : Int32) (a3 : Int32) (x0 : Int32) (x1 : Nat) (x2 : Int32) (x3 : Nat) (τ : St), Ru M_Ground_link d Q 65 [some (.ref a0), some (.int a1), some (.int a2), some (.int a3)] [.int x0, .ref x1, .int x2, .ref x3] τ = (isA 0 x1 ∧ Cl d m_Ground_openField [.ref x1, .int x0] τ (fun v τ' => Ru M_Ground_link d Q 68 [some (.ref a0), some (.int a1), some (.int a2), some (.int a3)] (v.toList ++ [.int x2, .ref x3]) τ'))) ∧
    (∀ (a0 : Nat) (a1 : Int32) (a2 : Int32) (a3 : Int32) (x0 : Int32) (x1 : Int32) (x2 : Nat) (τ : St), Ru M_Ground_link d Q 68 [some (.ref a0), some (.int a1), some (.int a2), some (.int a3)] [.int x0, .int x1, .ref x2] τ = Ru M_Ground_link d Q 72 [some (.ref a0), some (.int a1), some (.int a2), some (.int a3)] [.int x0, .int x1, .ref x2] τ) ∧
    (∀ (a0 : Nat) (a1 : Int32) (a2 : Int32) (a3 : Int32) (x0 : Int32) (x1 : Nat) (τ : St), Ru M_Ground_link d Q 71 [some (.ref a0), some (.int a1), some (.int a2), some (.int a3)] [.int x0, .ref x1] τ = Ru M_Ground_link d Q 72 [some (.ref a0), some (.int a1), some (.int a2), some (.int a3)] [.int (-1), .int x0, .ref x1] τ) ∧
    (∀ (a0 : Nat) (a1 : Int32) (a2 : Int32) (a3 : Int32) (x0 : Int32) (x1 : Int32) (x2 : Nat) (τ : St), Ru M_Ground_link d Q 72 [some (.ref a0), some (.int a1), some (.int a2), some (.int a3)] [.int x0, .int x1, .ref x2] τ = (isA 14 x2 ∧ vp_in x1 (len x2) ∧ Ru M_Ground_link d Q 73 [some (.ref a0), some (.int a1), some (.int a2), some (.int a3)] [] (sI τ x2 x1.toNatClampNeg (x0)))) ∧
    (∀ (a0 : Nat) (a1 : Int32) (a2 : Int32) (a3 : Int32) (τ : St), Ru M_Ground_link d Q 73 [some (.ref a0), some (.int a1), some (.int a2), some (.int a3)] [] τ = Ru M_Ground_link d Q 74 [some (.ref a0), some (.int a1), some (.int a2), some (.int a3)] [.ref a0] τ) ∧
    (∀ (a0 : Nat) (a1 : Int32) (a2 : Int32) (a3 : Int32) (x0 : Nat) (τ : St), Ru M_Ground_link d Q 74 [some (.ref a0), some (.int a1), some (.int a2), some (.int a3)] [.ref x0] τ = (isA 0 x0 ∧ Ru M_Ground_link d Q 77 [some (.ref a0), some (.int a1), some (.int a2), some (.int a3)] [.ref (rtab x0 5)] τ)) ∧
    (∀ (a0 : Nat) (a1 : Int32) (a2 : Int32) (a3 : Int32) (x0 : Nat) (τ : St), Ru M_Ground_link d Q 77 [some (.ref a0), some (.int a1), some (.int a2), some (.int a3)] [.ref x0] τ = Ru M_Ground_link d Q 78 [some (.ref a0), some (.int a1), some (.int a2), some (.int a3)] [.int a3, .ref x0] τ) ∧
    (∀ (a0 : Nat) (a1 : Int32) (a2 : Int32) (a3 : Int32) (x0 : Int32) (x1 : Nat) (τ : St), Ru M_Ground_link d Q 78 [some (.ref a0), some (.int a1), some (.int a2), some (.int a3)] [.int x0, .ref x1] τ = Ru M_Ground_link d Q 79 [some (.ref a0), some (.int a1), some (.int a2), some (.int a3)] [.int 2, .int x0, .ref x1] τ) ∧
    (∀ (a0 : Nat) (a1 : Int32) (a2 : Int32) (a3 : Int32) (x0 : Int32) (x1 : Int32) (x2 : Nat) (τ : St), Ru M_Ground_link d Q 79 [some (.ref a0), some (.int a1), some (.int a2), some (.int a3)] [.int x0, .int x1, .ref x2] τ = Ru M_Ground_link d Q 80 [some (.ref a0), some (.int a1), some (.int a2), some (.int a3)] [.int (x1 + x0), .ref x2] τ) ∧
    (∀ (a0 : Nat) (a1 : Int32) (a2 : Int32) (a3 : Int32) (x0 : Int32) (x1 : Nat) (τ : St), Ru M_Ground_link d Q 80 [some (.ref a0), some (.int a1), some (.int a2), some (.int a3)] [.int x0, .ref x1] τ = Ru M_Ground_link d Q 81 [some (.ref a0), some (.int a1), some (.int a2), some (.int a3)] [.ref a0, .int x0, .ref x1] τ) ∧
    (∀ (a0 : Nat) (a1 : Int32) (a2 : Int32) (a3 : Int32) (x0 : Nat) (x1 : Int32) (x2 : Nat) (τ : St), Ru M_Ground_link d Q 81 [some (.ref a0), some (.int a1), some (.int a2), some (.int a3)] [.ref x0, .int x1, .ref x2] τ = Ru M_Ground_link d Q 82 [some (.ref a0), some (.int a1), some (.int a2), some (.int a3)] [.int a1, .ref x0, .int x1, .ref x2] τ) ∧
    (∀ (a0 : Nat) (a1 : Int32) (a2 : Int32) (a3 : Int32) (x0 : Int32) (x1 : Nat) (x2 : Int32) (x3 : Nat) (τ : St), Ru M_Ground_link d Q 82 [some (.ref a0), some (.int a1), some (.int a2), some (.int a3)] [.int x0, .ref x1, .int x2, .ref x3] τ = Ru M_Ground_link d Q 83 [some (.ref a0), some (.int a1), some (.int a2), some (.int a3)] [.ref a0, .int x0, .ref x1, .int x2, .ref x3] τ) ∧
    (∀ (a0 : Nat) (a1 : Int32) (a2 : Int32) (a3 : Int32) (x0 : Nat) (x1 : Int32) (x2 : Nat) (x3 : Int32) (x4 : Nat) (τ : St), Ru M_Ground_link d Q 83 [some (.ref a0), some (.int a1), some (.int a2), some (.int a3)] [.ref x0, .int x1, .ref x2, .int x3, .ref x4] τ = (isA 0 x0 ∧ Ru M_Ground_link d Q 86 [some (.ref a0), some (.int a1), some (.int a2), some (.int a3)] [.int (τ.1 x0 1), .int x1, .ref x2, .int x3, .ref x4] τ)) ∧
    (∀ (a0 : Nat) (a1 : Int32) (a2 : Int32) (a3 : Int32) (x0 : Int32) (x1 : Int32) (x2 : Nat) (x3 : Int32) (x4 : Nat) (τ : St), Ru M_Ground_link d Q 86 [some (.ref a0), some (.int a1), some (.int a2), some (.int a3)] [.int x0, .int x1, .ref x2, .int x3, .ref x4] τ = Ru M_Ground_link d Q 87 [some (.ref a0), some (.int a1), some (.int a2), some (.int a3)] [.int (x1 + x0), .ref x2, .int x3, .ref x4] τ) ∧
    (∀ (a0 : Nat) (a1 : Int32) (a2 : Int32) (a3 : Int32) (x0 : Int32) (x1 : Nat) (x2 : Int32) (x3 : Nat) (τ : St), Ru M_Ground_link d Q 87 [some (.ref a0), some (.int a1), some (.int a2), some (.int a3)] [.int x0, .ref x1, .int x2, .ref x3] τ = (isA 0 x1 ∧ Cl d m_Ground_openField [.ref x1, .int x0] τ (fun v τ' => Ru M_Ground_link d Q 90 [some (.ref a0), some (.int a1), some (.int a2), some (.int a3)] (v.toList ++ [.int x2, .ref x3]) τ'))) ∧
    (∀ (a0 : Nat) (a1 : Int32) (a2 : Int32) (a3 : Int32) (x0 : Int32) (x1 : Int32) (x2 : Nat) (τ : St), Ru M_Ground_link d Q 90 [some (.ref a0), some (.int a1), some (.int a2), some (.int a3)] [.int x0, .int x1, .ref x2] τ = (isA 14 x2 ∧ vp_in x1 (len x2) ∧ Ru M_Ground_link d Q 91 [some (.ref a0), some (.int a1), some (.int a2), some (.int a3)] [] (sI τ x2 x1.toNatClampNeg (x0)))) ∧
    (∀ (a0 : Nat) (a1 : Int32) (a2 : Int32) (a3 : Int32) (τ : St), Ru M_Ground_link d Q 91 [some (.ref a0), some (.int a1), some (.int a2), some (.int a3)] [] τ = Ru M_Ground_link d Q 92 [some (.ref a0), some (.int a1), some (.int a2), some (.int a3)] [.ref a0] τ) ∧
    (∀ (a0 : Nat) (a1 : Int32) (a2 : Int32) (a3 : Int32) (x0 : Nat) (τ : St), Ru M_Ground_link d Q 92 [some (.ref a0), some (.int a1), some (.int a2), some (.int a3)] [.ref x0] τ = (isA 0 x0 ∧ Ru M_Ground_link d Q 95 [some (.ref a0), some (.int a1), some (.int a2), some (.int a3)] [.ref (rtab x0 5)] τ)) ∧
    (∀ (a0 : Nat) (a1 : Int32) (a2 : Int32) (a3 : Int32) (x0 : Nat) (τ : St), Ru M_Ground_link d Q 95 [some (.ref a0), some (.int a1), some (.int a2), some (.int a3)] [.ref x0] τ = Ru M_Ground_link d Q 96 [some (.ref a0), some (.int a1), some (.int a2), some (.int a3)] [.int a3, .ref x0] τ) ∧
    (∀ (a0 : Nat) (a1 : Int32) (a2 : Int32) (a3 : Int32) (x0 : Int32) (x1 : Nat) (τ : St), Ru M_Ground_link d Q 96 [some (.ref a0), some (.int a1), some (.int a2), some (.int a3)] [.int x0, .ref x1] τ = Ru M_Ground_link d Q 97 [some (.ref a0), some (.int a1), some (.int a2), some (.int a3)] [.int 3, .int x0, .ref x1] τ) ∧
    (∀ (a0 : Nat) (a1 : Int32) (a2 : Int32) (a3 : Int32) (x0 : Int32) (x1 : Int32) (x2 : Nat) (τ : St), Ru M_Ground_link d Q 97 [some (.ref a0), some (.int a1), some (.int a2), some (.int a3)] [.int x0, .int x1, .ref x2] τ = Ru M_Ground_link d Q 98 [some (.ref a0), some (.int a1), some (.int a2), some (.int a3)] [.int (x1 + x0), .ref x2] τ) ∧
    (∀ (a0 : Nat) (a1 : Int32) (a2 : Int32) (a3 : Int32) (x0 : Int32) (x1 : Nat) (τ : St), Ru M_Ground_link d Q 98 [some (.ref a0), some (.int a1), some (.int a2), some (.int a3)] [.int x0, .ref x1] τ = Ru M_Ground_link d Q 99 [some (.ref a0), some (.int a1), some (.int a2), some (.int a3)] [.int a2, .int x0, .ref x1] τ) ∧
    (∀ (a0 : Nat) (a1 : Int32) (a2 : Int32) (a3 : Int32) (x0 : Int32) (x1 : Int32) (x2 : Nat) (τ : St), Ru M_Ground_link d Q 99 [some (.ref a0), some (.int a1), some (.int a2), some (.int a3)] [.int x0, .int x1, .ref x2] τ = ((x0 ≤ 0 → Ru M_Ground_link d Q 112 [some (.ref a0), some (.int a1), some (.int a2), some (.int a3)] [.int x1, .ref x2] τ) ∧ (¬ x0 ≤ 0 → Ru M_Ground_link d Q 102 [some (.ref a0), some (.int a1), some (.int a2), some (.int a3)] [.int x1, .ref x2] τ))) ∧
    (∀ (a0 : Nat) (a1 : Int32) (a2 : Int32) (a3 : Int32) (x0 : Int32) (x1 : Nat) (τ : St), Ru M_Ground_link d Q 102 [some (.ref a0), some (.int a1), some (.int a2), some (.int a3)] [.int x0, .ref x1] τ = Ru M_Ground_link d Q 103 [some (.ref a0), some (.int a1), some (.int a2), some (.int a3)] [.ref a0, .int x0, .ref x1] τ) ∧
    (∀ (a0 : Nat) (a1 : Int32) (a2 : Int32) (a3 : Int32) (x0 : Nat) (x1 : Int32) (x2 : Nat) (τ : St), Ru M_Ground_link d Q 103 [some (.ref a0), some (.int a1), some (.int a2), some (.int a3)] [.ref x0, .int x1, .ref x2] τ = Ru M_Ground_link d Q 104 [some (.ref a0), some (.int a1), some (.int a2), some (.int a3)] [.int a1, .ref x0, .int x1, .ref x2] τ) ∧
    (∀ (a0 : Nat) (a1 : Int32) (a2 : Int32) (a3 : Int32) (x0 : Int32) (x1 : Nat) (x2 : Int32) (x3 : Nat) (τ : St), Ru M_Ground_link d Q 104 [some (.ref a0), some (.int a1), some (.int a2), some (.int a3)] [.int x0, .ref x1, .int x2, .ref x3] τ = Ru M_Ground_link d Q 105 [some (.ref a0), some (.int a1), some (.int a2), some (.int a3)] [.int 1, .int x0, .ref x1, .int x2, .ref x3] τ) ∧
    (∀ (a0 : Nat) (a1 : Int32) (a2 : Int32) (a3 : Int32) (x0 : Int32) (x1 : Int32) (x2 : Nat) (x3 : Int32) (x4 : Nat) (τ : St), Ru M_Ground_link d Q 105 [some (.ref a0), some (.int a1), some (.int a2), some (.int a3)] [.int x0, .int x1, .ref x2, .int x3, .ref x4] τ = Ru M_Ground_link d Q 106 [some (.ref a0), some (.int a1), some (.int a2), some (.int a3)] [.int (x1 - x0), .ref x2, .int x3, .ref x4] τ) ∧
    (∀ (a0 : Nat) (a1 : Int32) (a2 : Int32) (a3 : Int32) (x0 : Int32) (x1 : Nat) (x2 : Int32) (x3 : Nat) (τ : St), Ru M_Ground_link d Q 106 [some (.ref a0), some (.int a1), some (.int a2), some (.int a3)] [.int x0, .ref x1, .int x2, .ref x3] τ = (isA 0 x1 ∧ Cl d m_Ground_openField [.ref x1, .int x0] τ (fun v τ' => Ru M_Ground_link d Q 109 [some (.ref a0), some (.int a1), some (.int a2), some (.int a3)] (v.toList ++ [.int x2, .ref x3]) τ'))) ∧
    (∀ (a0 : Nat) (a1 : Int32) (a2 : Int32) (a3 : Int32) (x0 : Int32) (x1 : Int32) (x2 : Nat) (τ : St), Ru M_Ground_link d Q 109 [some (.ref a0), some (.int a1), some (.int a2), some (.int a3)] [.int x0, .int x1, .ref x2] τ = Ru M_Ground_link d Q 113 [some (.ref a0), some (.int a1), some (.int a2), some (.int a3)] [.int x0, .int x1, .ref x2] τ) ∧
    (∀ (a0 : Nat) (a1 : Int32) (a2 : Int32) (a3 : Int32) (x0 : Int32) (x1 : Nat) (τ : St), Ru M_Ground_link d Q 112 [some (.ref a0), some (.int a1), some (.int a2), some (.int a3)] [.int x0, .ref x1] τ = Ru M_Ground_link d Q 113 [some (.ref a0), some (.int a1), some (.int a2), some (.int a3)] [.int (-1), .int x0, .ref x1] τ) ∧
    (∀ (a0 : Nat) (a1 : Int32) (a2 : Int32) (a3 : Int32) (x0 : Int32) (x1 : Int32) (x2 : Nat) (τ : St), Ru M_Ground_link d Q 113 [some (.ref a0), some (.int a1), some (.int a2), some (.int a3)] [.int x0, .int x1, .ref x2] τ = (isA 14 x2 ∧ vp_in x1 (len x2) ∧ Ru M_Ground_link d Q 114 [some (.ref a0), some (.int a1), some (.int a2), some (.int a3)] [] (sI τ x2 x1.toNatClampNeg (x0)))) ∧
    (∀ (a0 : Nat) (a1 : Int32) (a2 : Int32) (a3 : Int32) (τ : St), Ru M_Ground_link d Q 114 [some (.ref a0), some (.int a1), some (.int a2), some (.int a3)] [] τ = Q none τ) := ⟨
  fun _ _ _ => (R_at ok_Ground_link rfl).trans (e_ald rfl),
  fun _ _ _ _ => (R_at ok_Ground_link rfl).trans (e_ild rfl),
  fun _ _ x0 _ _ => (R_at ok_Ground_link rfl).trans (e_cv [.int x0] rfl rfl rfl),
  fun _ _ _ _ => (R_at ok_Ground_link rfl).trans e_if,
  fun _ _ _ => (R_at ok_Ground_link rfl).trans (e_ald rfl),
  fun _ _ _ _ => (R_at ok_Ground_link rfl).trans e_gI,
  fun _ _ _ _ => (R_at ok_Ground_link rfl).trans e_push,
  fun _ _ _ _ _ => (R_at ok_Ground_link rfl).trans e_ic,
  fun _ _ _ => (R_at ok_Ground_link rfl).trans e_vret,
  fun _ _ _ => (R_at ok_Ground_link rfl).trans (e_ild rfl),
  fun _ _ _ _ => (R_at ok_Ground_link rfl).trans (e_ald rfl),
  fun _ _ _ _ _ => (R_at ok_Ground_link rfl).trans e_gI,
  fun _ _ _ _ _ => (R_at ok_Ground_link rfl).trans e_binz,
  fun _ _ _ _ => (R_at ok_Ground_link rfl).trans e_ist,
  fun _ _ _ _ => (R_at ok_Ground_link rfl).trans (e_ild rfl),
  fun _ _ _ _ _ => (R_at ok_Ground_link rfl).trans e_push,
  fun _ _ _ _ _ _ => (R_at ok_Ground_link rfl).trans e_bin,
  fun _ _ _ _ _ => (R_at ok_Ground_link rfl).trans e_ist,
  fun _ _ _ _ _ => (R_at ok_Ground_link rfl).trans (e_ald rfl),
  fun _ _ _ _ _ _ => (R_at ok_Ground_link rfl).trans e_gR,
  fun _ _ _ _ _ _ => (R_at ok_Ground_link rfl).trans (e_ild rfl),
  fun _ _ _ _ _ _ _ => (R_at ok_Ground_link rfl).trans (e_ald rfl),
  fun _ _ _ _ _ _ _ _ => (R_at ok_Ground_link rfl).trans (e_ild rfl),
  fun _ _ _ _ _ _ _ _ _ => (R_at ok_Ground_link rfl).trans (e_ald rfl),
  fun _ _ _ _ _ _ _ _ _ _ => (R_at ok_Ground_link rfl).trans e_gI,
  fun _ _ _ _ _ _ _ _ _ _ => (R_at ok_Ground_link rfl).trans e_bin,
  fun _ _ _ _ x0 _ _ _ _ => (R_at ok_Ground_link rfl).trans (e_cv [.int x0] rfl rfl rfl),
  fun _ _ _ _ _ _ _ _ => (R_at ok_Ground_link rfl).trans e_as,
  fun _ _ _ _ _ => (R_at ok_Ground_link rfl).trans (e_ald rfl),
  fun _ _ _ _ _ _ => (R_at ok_Ground_link rfl).trans e_gR,
  fun _ _ _ _ _ _ => (R_at ok_Ground_link rfl).trans (e_ild rfl),
  fun _ _ _ _ _ _ _ => (R_at ok_Ground_link rfl).trans e_push,
  fun _ _ _ _ _ _ _ _ => (R_at ok_Ground_link rfl).trans e_bin,
  fun _ _ _ _ _ _ _ => (R_at ok_Ground_link rfl).trans (e_ild rfl),
  fun _ _ _ _ _ _ _ _ => (R_at ok_Ground_link rfl).trans e_push,
  fun _ _ _ _ _ _ _ _ _ => (R_at ok_Ground_link rfl).trans e_bin,
  fun _ _ _ _ _ _ _ _ => (R_at ok_Ground_link rfl).trans (e_ald rfl),
  fun _ _ _ _ _ _ _ _ _ => (R_at ok_Ground_link rfl).trans e_gI,
  fun _ _ _ _ _ _ _ _ _ => (R_at ok_Ground_link rfl).trans e_ic,
  fun _ _ _ _ _ _ _ => (R_at ok_Ground_link rfl).trans (e_ald rfl),
  fun _ _ _ _ _ _ _ _ => (R_at ok_Ground_link rfl).trans (e_ild rfl),
  fun _ _ _ _ _ _ _ _ _ => (R_at ok_Ground_link rfl).trans e_push,
  fun _ _ _ _ _ _ _ _ _ _ => (R_at ok_Ground_link rfl).trans e_bin,
  fun _ _ _ _ x0 _ _ _ _ => (R_at ok_Ground_link rfl).trans (e_cv [.int x0] rfl rfl rfl),
  fun _ _ _ _ _ _ _ _ => (R_at ok_Ground_link rfl).trans e_goto,
  fun _ _ _ _ _ _ _ => (R_at ok_Ground_link rfl).trans e_push,
  fun _ _ _ _ _ _ _ _ => (R_at ok_Ground_link rfl).trans e_as,
  fun _ _ _ _ _ => (R_at ok_Ground_link rfl).trans (e_ald rfl),
  fun _ _ _ _ _ _ => (R_at ok_Ground_link rfl).trans e_gR,
  fun _ _ _ _ _ _ => (R_at ok_Ground_link rfl).trans (e_ild rfl),
  fun _ _ _ _ _ _ _ => (R_at ok_Ground_link rfl).trans e_push,
  fun _ _ _ _ _ _ _ _ => (R_at ok_Ground_link rfl).trans e_bin,
  fun _ _ _ _ _ _ _ => (R_at ok_Ground_link rfl).trans (e_ald rfl),
  fun _ _ _ _ _ _ _ _ => (R_at ok_Ground_link rfl).trans (e_ild rfl),
  fun _ _ _ _ _ _ _ _ _ => (R_at ok_Ground_link rfl).trans (e_ald rfl),
  fun _ _ _ _ _ _ _ _ _ _ => (R_at ok_Ground_link rfl).trans e_gI,
  fun _ _ _ _ _ _ _ _ _ _ => (R_at ok_Ground_link rfl).trans e_bin,
  fun _ _ _ _ x0 _ _ _ _ => (R_at ok_Ground_link rfl).trans (e_cv [.int x0] rfl rfl rfl),
  fun _ _ _ _ _ _ _ _ => (R_at ok_Ground_link rfl).trans e_as,
  fun _ _ _ _ _ => (R_at ok_Ground_link rfl).trans (e_ald rfl),
  fun _ _ _ _ _ _ => (R_at ok_Ground_link rfl).trans e_gR,
  fun _ _ _ _ _ _ => (R_at ok_Ground_link rfl).trans (e_ild rfl),
  fun _ _ _ _ _ _ _ => (R_at ok_Ground_link rfl).trans e_push,
  fun _ _ _ _ _ _ _ _ => (R_at ok_Ground_link rfl).trans e_bin,
  fun _ _ _ _ _ _ _ => (R_at ok_Ground_link rfl).trans (e_ild rfl),
  fun _ _ _ _ _ _ _ _ => (R_at ok_Ground_link rfl).trans e_if,
  fun _ _ _ _ _ _ _ => (R_at ok_Ground_link rfl).trans (e_ald rfl),
  fun _ _ _ _ _ _ _ _ => (R_at ok_Ground_link rfl).trans (e_ild rfl),
  fun _ _ _ _ _ _ _ _ _ => (R_at ok_Ground_link rfl).trans e_push,
  fun _ _ _ _ _ _ _ _ _ _ => (R_at ok_Ground_link rfl).trans e_bin,
  fun _ _ _ _ x0 _ _ _ _ => (R_at ok_Ground_link rfl).trans (e_cv [.int x0] rfl rfl rfl),
  fun _ _ _ _ _ _ _ _ => (R_at ok_Ground_link rfl).trans e_goto,
  fun _ _ _ _ _ _ _ => (R_at ok_Ground_link rfl).trans e_push,
  fun _ _ _ _ _ _ _ _ => (R_at ok_Ground_link rfl).trans e_as,
  fun _ _ _ _ _ => (R_at ok_Ground_link rfl).trans e_vret⟩
set_option maxHeartbeats 4000000 in
theorem N_Ground_openField (d : Nat) (Q : Qt) : ∀ (x0 : Nat) (x1 : Int32) (τ : St), Cl (d + 1) m_Ground_openField [.ref x0, .int x1] τ Q = Ru M_Ground_openField d Q 0 [some (.ref x0), some (.int x1)] [] τ := fun _ _ _ => propext ⟨fun h => h.2, fun h => ⟨Nat.le_of_ble_eq_true rfl, h⟩⟩
set_option maxHeartbeats 4000000 in
theorem E_Ground_openField (d : Nat) (Q : Qt) :
    (∀ (a0 : Nat) (a1 : Int32) (τ : St), Ru M_Ground_openField d Q 0 [some (.ref a0), some (.int a1)] [] τ = Ru M_Ground_openField d Q 1 [some (.ref a0), some (.int a1)] [.ref a0] τ) ∧
    (∀ (a0 : Nat) (a1 : Int32) (x0 : Nat) (τ : St), Ru M_Ground_openField d Q 1 [some (.ref a0), some (.int a1)] [.ref x0] τ = Ru M_Ground_openField d Q 2 [some (.ref a0), some (.int a1)] [.int a1, .ref x0] τ) ∧
    (∀ (a0 : Nat) (a1 : Int32) (x0 : Int32) (x1 : Nat) (τ : St), Ru M_Ground_openField d Q 2 [some (.ref a0), some (.int a1)] [.int x0, .ref x1] τ = (isA 0 x1 ∧ Cl d m_Ground_kindOf [.ref x1, .int x0] τ (fun v τ' => Ru M_Ground_openField d Q 5 [some (.ref a0), some (.int a1)] (v.toList ++ []) τ'))) ∧
    (∀ (a0 : Nat) (a1 : Int32) (x0 : Int32) (τ : St), Ru M_Ground_openField d Q 5 [some (.ref a0), some (.int a1)] [.int x0] τ = Ru M_Ground_openField d Q 6 [some (.ref a0), some (.int a1)] [.int 3, .int x0] τ) ∧
    (∀ (a0 : Nat) (a1 : Int32) (x0 : Int32) (x1 : Int32) (τ : St), Ru M_Ground_openField d Q 6 [some (.ref a0), some (.int a1)] [.int x0, .int x1] τ = ((¬ x1 = x0 → Ru M_Ground_openField d Q 13 [some (.ref a0), some (.int a1)] [] τ) ∧ (x1 = x0 → Ru M_Ground_openField d Q 9 [some (.ref a0), some (.int a1)] [] τ))) ∧
    (∀ (a0 : Nat) (a1 : Int32) (τ : St), Ru M_Ground_openField d Q 9 [some (.ref a0), some (.int a1)] [] τ = Ru M_Ground_openField d Q 10 [some (.ref a0), some (.int a1)] [.int (-1)] τ) ∧
    (∀ (a0 : Nat) (a1 : Int32) (x0 : Int32) (τ : St), Ru M_Ground_openField d Q 10 [some (.ref a0), some (.int a1)] [.int x0] τ = Ru M_Ground_openField d Q 14 [some (.ref a0), some (.int a1)] [.int x0] τ) ∧
    (∀ (a0 : Nat) (a1 : Int32) (τ : St), Ru M_Ground_openField d Q 13 [some (.ref a0), some (.int a1)] [] τ = Ru M_Ground_openField d Q 14 [some (.ref a0), some (.int a1)] [.int a1] τ) ∧
    (∀ (a0 : Nat) (a1 : Int32) (x0 : Int32) (τ : St), Ru M_Ground_openField d Q 14 [some (.ref a0), some (.int a1)] [.int x0] τ = Q (some (.int x0)) τ) := ⟨
  fun _ _ _ => (R_at ok_Ground_openField rfl).trans (e_ald rfl),
  fun _ _ _ _ => (R_at ok_Ground_openField rfl).trans (e_ild rfl),
  fun _ _ x0 _ _ => (R_at ok_Ground_openField rfl).trans (e_cv [.int x0] rfl rfl rfl),
  fun _ _ _ _ => (R_at ok_Ground_openField rfl).trans e_push,
  fun _ _ _ _ _ => (R_at ok_Ground_openField rfl).trans e_icn,
  fun _ _ _ => (R_at ok_Ground_openField rfl).trans e_push,
  fun _ _ _ _ => (R_at ok_Ground_openField rfl).trans e_goto,
  fun _ _ _ => (R_at ok_Ground_openField rfl).trans (e_ild rfl),
  fun _ _ _ _ => (R_at ok_Ground_openField rfl).trans e_iret⟩
set_option maxHeartbeats 4000000 in
theorem N_Ground_upTo (d : Nat) (Q : Qt) : ∀ (x0 : Nat) (x1 : Int32) (τ : St), Cl (d + 1) m_Ground_upTo [.ref x0, .int x1] τ Q = Ru M_Ground_upTo d Q 0 [some (.ref x0), some (.int x1), none, none, none] [] τ := fun _ _ _ => propext ⟨fun h => h.2, fun h => ⟨Nat.le_of_ble_eq_true rfl, h⟩⟩
set_option maxHeartbeats 4000000 in
theorem E_Ground_upTo (d : Nat) (Q : Qt) :
    (∀ (a0 : Nat) (a1 : Int32) (τ : St), Ru M_Ground_upTo d Q 0 [some (.ref a0), some (.int a1), none, none, none] [] τ = Ru M_Ground_upTo d Q 1 [some (.ref a0), some (.int a1), none, none, none] [.ref a0] τ) ∧
    (∀ (a0 : Nat) (a1 : Int32) (x0 : Nat) (τ : St), Ru M_Ground_upTo d Q 1 [some (.ref a0), some (.int a1), none, none, none] [.ref x0] τ = (isA 0 x0 ∧ Ru M_Ground_upTo d Q 4 [some (.ref a0), some (.int a1), none, none, none] [.long (τ.2 x0 7)] τ)) ∧
    (∀ (a0 : Nat) (a1 : Int32) (x0 : Int64) (τ : St), Ru M_Ground_upTo d Q 4 [some (.ref a0), some (.int a1), none, none, none] [.long x0] τ = Ru M_Ground_upTo d Q 5 [some (.ref a0), some (.int a1), none, none, none] [.ref a0, .long x0] τ) ∧
    (∀ (a0 : Nat) (a1 : Int32) (x0 : Nat) (x1 : Int64) (τ : St), Ru M_Ground_upTo d Q 5 [some (.ref a0), some (.int a1), none, none, none] [.ref x0, .long x1] τ = (isA 0 x0 ∧ Ru M_Ground_upTo d Q 8 [some (.ref a0), some (.int a1), none, none, none] [.long (τ.2 x0 8), .long x1] τ)) ∧
    (∀ (a0 : Nat) (a1 : Int32) (x0 : Int64) (x1 : Int64) (τ : St), Ru M_Ground_upTo d Q 8 [some (.ref a0), some (.int a1), none, none, none] [.long x0, .long x1] τ = Ru M_Ground_upTo d Q 9 [some (.ref a0), some (.int a1), none, none, none] [.long (x1 ||| x0)] τ) ∧
    (∀ (a0 : Nat) (a1 : Int32) (x0 : Int64) (τ : St), Ru M_Ground_upTo d Q 9 [some (.ref a0), some (.int a1), none, none, none] [.long x0] τ = Ru M_Ground_upTo d Q 10 [some (.ref a0), some (.int a1), some (.long x0), none, none] [] τ) ∧
    (∀ (a0 : Nat) (a1 : Int32) (a2 : Int64) (τ : St), Ru M_Ground_upTo d Q 10 [some (.ref a0), some (.int a1), some (.long a2), none, none] [] τ = Ru M_Ground_upTo d Q 11 [some (.ref a0), some (.int a1), some (.long a2), none, none] [.int 0] τ) ∧
    (∀ (a0 : Nat) (a1 : Int32) (a2 : Int64) (x0 : Int32) (τ : St), Ru M_Ground_upTo d Q 11 [some (.ref a0), some (.int a1), some (.long a2), none, none] [.int x0] τ = Rs M_Ground_upTo d Q 13 [some (.ref a0), some (.int a1), some (.long a2), none, some (.int x0)] [] τ) ∧
    (∀ (a0 : Nat) (a1 : Int32) (a2 : Int64) (a4 : Int32) (τ : St), Ru M_Ground_upTo d Q 13 [some (.ref a0), some (.int a1), some (.long a2), none, some (.int a4)] [] τ = Ru M_Ground_upTo d Q 15 [some (.ref a0), some (.int a1), some (.long a2), none, some (.int a4)] [.int a4] τ) ∧
    (∀ (a0 : Nat) (a1 : Int32) (a2 : Int64) (a4 : Int32) (x0 : Int32) (τ : St), Ru M_Ground_upTo d Q 15 [some (.ref a0), some (.int a1), some (.long a2), none, some (.int a4)] [.int x0] τ = Ru M_Ground_upTo d Q 16 [some (.ref a0), some (.int a1), some (.long a2), none, some (.int a4)] [.ref a0, .int x0] τ) ∧
    (∀ (a0 : Nat) (a1 : Int32) (a2 : Int64) (a4 : Int32) (x0 : Nat) (x1 : Int32) (τ : St), Ru M_Ground_upTo d Q 16 [some (.ref a0), some (.int a1), some (.long a2), none, some (.int a4)] [.ref x0, .int x1] τ = (isA 0 x0 ∧ Ru M_Ground_upTo d Q 19 [some (.ref a0), some (.int a1), some (.long a2), none, some (.int a4)] [.int (τ.1 x0 2), .int x1] τ)) ∧
    (∀ (a0 : Nat) (a1 : Int32) (a2 : Int64) (a4 : Int32) (x0 : Int32) (x1 : Int32) (τ : St), Ru M_Ground_upTo d Q 19 [some (.ref a0), some (.int a1), some (.long a2), none, some (.int a4)] [.int x0, .int x1] τ = ((x0 ≤ x1 → Ru M_Ground_upTo d Q 54 [some (.ref a0), some (.int a1), some (.long a2), none, some (.int a4)] [] τ) ∧ (¬ x0 ≤ x1 → Ru M_Ground_upTo d Q 22 [some (.ref a0), some (.int a1), some (.long a2), none, some (.int a4)] [] τ))) ∧
    (∀ (a0 : Nat) (a1 : Int32) (a2 : Int64) (a4 : Int32) (τ : St), Ru M_Ground_upTo d Q 22 [some (.ref a0), some (.int a1), some (.long a2), none, some (.int a4)] [] τ = Ru M_Ground_upTo d Q 23 [some (.ref a0), some (.int a1), some (.long a2), none, some (.int a4)] [.ref a0] τ) ∧
    (∀ (a0 : Nat) (a1 : Int32) (a2 : Int64) (a4 : Int32) (x0 : Nat) (τ : St), Ru M_Ground_upTo d Q 23 [some (.ref a0), some (.int a1), some (.long a2), none, some (.int a4)] [.ref x0] τ = Ru M_Ground_upTo d Q 25 [some (.ref a0), some (.int a1), some (.long a2), none, some (.int a4)] [.int a4, .ref x0] τ) ∧
    (∀ (a0 : Nat) (a1 : Int32) (a2 : Int64) (a4 : Int32) (x0 : Int32) (x1 : Nat) (τ : St), Ru M_Ground_upTo d Q 25 [some (.ref a0), some (.int a1), some (.long a2), none, some (.int a4)] [.int x0, .ref x1] τ = (isA 0 x1 ∧ Cl d m_Ground_kindOf [.ref x1, .int x0] τ (fun v τ' => Ru M_Ground_upTo d Q 28 [some (.ref a0), some (.int a1), some (.long a2), none, some (.int a4)] (v.toList ++ []) τ'))) ∧
    (∀ (a0 : Nat) (a1 : Int32) (a2 : Int64) (a4 : Int32) (x0 : Int32) (τ : St), Ru M_Ground_upTo d Q 28 [some (.ref a0), some (.int a1), some (.long a2), none, some (.int a4)] [.int x0] τ = ((¬ x0 = 0 → Ru M_Ground_upTo d Q 48 [some (.ref a0), some (.int a1), some (.long a2), none, some (.int a4)] [] τ) ∧ (x0 = 0 → Ru M_Ground_upTo d Q 31 [some (.ref a0), some (.int a1), some (.long a2), none, some (.int a4)] [] τ))) ∧
    (∀ (a0 : Nat) (a1 : Int32) (a2 : Int64) (a4 : Int32) (τ : St), Ru M_Ground_upTo d Q 31 [some (.ref a0), some (.int a1), some (.long a2), none, some (.int a4)] [] τ = Ru M_Ground_upTo d Q 32 [some (.ref a0), some (.int a1), some (.long a2), none, some (.int a4)] [.ref a0] τ) ∧
    (∀ (a0 : Nat) (a1 : Int32) (a2 : Int64) (a4 : Int32) (x0 : Nat) (τ : St), Ru M_Ground_upTo d Q 32 [some (.ref a0), some (.int a1), some (.long a2), none, some (.int a4)] [.ref x0] τ = Ru M_Ground_upTo d Q 34 [some (.ref a0), some (.int a1), some (.long a2), none, some (.int a4)] [.int a4, .ref x0] τ) ∧
    (∀ (a0 : Nat) (a1 : Int32) (a2 : Int64) (a4 : Int32) (x0 : Int32) (x1 : Nat) (τ : St), Ru M_Ground_upTo d Q 34 [some (.ref a0), some (.int a1), some (.long a2), none, some (.int a4)] [.int x0, .ref x1] τ = (isA 0 x1 ∧ Cl d m_Ground_heightOf [.ref x1, .int x0] τ (fun v τ' => Ru M_Ground_upTo d Q 37 [some (.ref a0), some (.int a1), some (.long a2), none, some (.int a4)] (v.toList ++ []) τ'))) ∧
    (∀ (a0 : Nat) (a1 : Int32) (a2 : Int64) (a4 : Int32) (x0 : Int32) (τ : St), Ru M_Ground_upTo d Q 37 [some (.ref a0), some (.int a1), some (.long a2), none, some (.int a4)] [.int x0] τ = Ru M_Ground_upTo d Q 38 [some (.ref a0), some (.int a1), some (.long a2), none, some (.int a4)] [.int a1, .int x0] τ) ∧
    (∀ (a0 : Nat) (a1 : Int32) (a2 : Int64) (a4 : Int32) (x0 : Int32) (x1 : Int32) (τ : St), Ru M_Ground_upTo d Q 38 [some (.ref a0), some (.int a1), some (.long a2), none, some (.int a4)] [.int x0, .int x1] τ = ((x0 < x1 → Ru M_Ground_upTo d Q 48 [some (.ref a0), some (.int a1), some (.long a2), none, some (.int a4)] [] τ) ∧ (¬ x0 < x1 → Ru M_Ground_upTo d Q 41 [some (.ref a0), some (.int a1), some (.long a2), none, some (.int a4)] [] τ))) ∧
    (∀ (a0 : Nat) (a1 : Int32) (a2 : Int64) (a4 : Int32) (τ : St), Ru M_Ground_upTo d Q 41 [some (.ref a0), some (.int a1), some (.long a2), none, some (.int a4)] [] τ = Ru M_Ground_upTo d Q 42 [some (.ref a0), some (.int a1), some (.long a2), none, some (.int a4)] [.long a2] τ) ∧
    (∀ (a0 : Nat) (a1 : Int32) (a2 : Int64) (a4 : Int32) (x0 : Int64) (τ : St), Ru M_Ground_upTo d Q 42 [some (.ref a0), some (.int a1), some (.long a2), none, some (.int a4)] [.long x0] τ = Ru M_Ground_upTo d Q 43 [some (.ref a0), some (.int a1), some (.long a2), none, some (.int a4)] [.long 1, .long x0] τ) ∧
    (∀ (a0 : Nat) (a1 : Int32) (a2 : Int64) (a4 : Int32) (x0 : Int64) (x1 : Int64) (τ : St), Ru M_Ground_upTo d Q 43 [some (.ref a0), some (.int a1), some (.long a2), none, some (.int a4)] [.long x0, .long x1] τ = Ru M_Ground_upTo d Q 45 [some (.ref a0), some (.int a1), some (.long a2), none, some (.int a4)] [.int a4, .long x0, .long x1] τ) ∧
    (∀ (a0 : Nat) (a1 : Int32) (a2 : Int64) (a4 : Int32) (x0 : Int32) (x1 : Int64) (x2 : Int64) (τ : St), Ru M_Ground_upTo d Q 45 [some (.ref a0), some (.int a1), some (.long a2), none, some (.int a4)] [.int x0, .long x1, .long x2] τ = Ru M_Ground_upTo d Q 46 [some (.ref a0), some (.int a1), some (.long a2), none, some (.int a4)] [.long (x1 <<< (x0.toInt64 &&& 63)), .long x2] τ) ∧
    (∀ (a0 : Nat) (a1 : Int32) (a2 : Int64) (a4 : Int32) (x0 : Int64) (x1 : Int64) (τ : St), Ru M_Ground_upTo d Q 46 [some (.ref a0), some (.int a1), some (.long a2), none, some (.int a4)] [.long x0, .long x1] τ = Ru M_Ground_upTo d Q 47 [some (.ref a0), some (.int a1), some (.long a2), none, some (.int a4)] [.long (x1 ||| x0)] τ) ∧
    (∀ (a0 : Nat) (a1 : Int32) (a2 : Int64) (a4 : Int32) (x0 : Int64) (τ : St), Ru M_Ground_upTo d Q 47 [some (.ref a0), some (.int a1), some (.long a2), none, some (.int a4)] [.long x0] τ = Ru M_Ground_upTo d Q 48 [some (.ref a0), some (.int a1), some (.long x0), none, some (.int a4)] [] τ) ∧
    (∀ (a0 : Nat) (a1 : Int32) (a2 : Int64) (a4 : Int32) (τ : St), Ru M_Ground_upTo d Q 48 [some (.ref a0), some (.int a1), some (.long a2), none, some (.int a4)] [] τ = Ru M_Ground_upTo d Q 51 [some (.ref a0), some (.int a1), some (.long a2), none, some (.int (a4 + 1))] [] τ) ∧
    (∀ (a0 : Nat) (a1 : Int32) (a2 : Int64) (a4 : Int32) (τ : St), Ru M_Ground_upTo d Q 51 [some (.ref a0), some (.int a1), some (.long a2), none, some (.int a4)] [] τ = Rs M_Ground_upTo d Q 13 [some (.ref a0), some (.int a1), some (.long a2), none, some (.int a4)] [] τ) ∧
    (∀ (a0 : Nat) (a1 : Int32) (a2 : Int64) (a4 : Int32) (τ : St), Ru M_Ground_upTo d Q 54 [some (.ref a0), some (.int a1), some (.long a2), none, some (.int a4)] [] τ = Ru M_Ground_upTo d Q 55 [some (.ref a0), some (.int a1), some (.long a2), none, some (.int a4)] [.long a2] τ) ∧
    (∀ (a0 : Nat) (a1 : Int32) (a2 : Int64) (a4 : Int32) (x0 : Int64) (τ : St), Ru M_Ground_upTo d Q 55 [some (.ref a0), some (.int a1), some (.long a2), none, some (.int a4)] [.long x0] τ = Q (some (.long x0)) τ) := ⟨
  fun _ _ _ => (R_at ok_Ground_upTo rfl).trans (e_ald rfl),
  fun _ _ _ _ => (R_at ok_Ground_upTo rfl).trans e_gL,
  fun _ _ _ _ => (R_at ok_Ground_upTo rfl).trans (e_ald rfl),
  fun _ _ _ _ _ => (R_at ok_Ground_upTo rfl).trans e_gL,
  fun _ _ _ _ _ => (R_at ok_Ground_upTo rfl).trans e_lbin,
  fun _ _ _ _ => (R_at ok_Ground_upTo rfl).trans e_lst,
  fun _ _ _ _ => (R_at ok_Ground_upTo rfl).trans e_push,
  fun _ _ _ _ _ => (R_at ok_Ground_upTo rfl).trans e_ist,
  fun _ _ _ _ _ => (R_at ok_Ground_upTo rfl).trans (e_ild rfl),
  fun _ _ _ _ _ _ => (R_at ok_Ground_upTo rfl).trans (e_ald rfl),
  fun _ _ _ _ _ _ _ => (R_at ok_Ground_upTo rfl).trans e_gI,
  fun _ _ _ _ _ _ _ => (R_at ok_Ground_upTo rfl).trans e_ic,
  fun _ _ _ _ _ => (R_at ok_Ground_upTo rfl).trans (e_ald rfl),
  fun _ _ _ _ _ _ => (R_at ok_Ground_upTo rfl).trans (e_ild rfl),
  fun _ _ _ _ x0 _ _ => (R_at ok_Ground_upTo rfl).trans (e_cv [.int x0] rfl rfl rfl),
  fun _ _ _ _ _ _ => (R_at ok_Ground_upTo rfl).trans e_ifn,
  fun _ _ _ _ _ => (R_at ok_Ground_upTo rfl).trans (e_ald rfl),
  fun _ _ _ _ _ _ => (R_at ok_Ground_upTo rfl).trans (e_ild rfl),
  fun _ _ _ _ x0 _ _ => (R_at ok_Ground_upTo rfl).trans (e_cv [.int x0] rfl rfl rfl),
  fun _ _ _ _ _ _ => (R_at ok_Ground_upTo rfl).trans (e_ild rfl),
  fun _ _ _ _ _ _ _ => (R_at ok_Ground_upTo rfl).trans e_ic,
  fun _ _ _ _ _ => (R_at ok_Ground_upTo rfl).trans (e_lld rfl),
  fun _ _ _ _ _ _ => (R_at ok_Ground_upTo rfl).trans e_push,
  fun _ _ _ _ _ _ _ => (R_at ok_Ground_upTo rfl).trans (e_ild rfl),
  fun _ _ _ _ _ _ _ _ => (R_at ok_Ground_upTo rfl).trans e_lsh,
  fun _ _ _ _ _ _ _ => (R_at ok_Ground_upTo rfl).trans e_lbin,
  fun _ _ _ _ _ _ => (R_at ok_Ground_upTo rfl).trans e_lst,
  fun _ _ _ _ _ => (R_at ok_Ground_upTo rfl).trans (e_iinc rfl),
  fun _ _ _ _ _ => (R_at ok_Ground_upTo rfl).trans e_goto,
  fun _ _ _ _ _ => (R_at ok_Ground_upTo rfl).trans (e_lld rfl),
  fun _ _ _ _ _ _ => (R_at ok_Ground_upTo rfl).trans e_lret⟩
set_option maxHeartbeats 4000000 in
theorem N_Ground_joined (d : Nat) (Q : Qt) : ∀ (x0 : Nat) (x1 : Int64) (x2 : Int64) (τ : St), Cl (d + 1) m_Ground_joined [.ref x0, .long x1, .long x2] τ Q = Ru M_Ground_joined d Q 0 [some (.ref x0), some (.long x1), none, some (.long x2), none, none, none, none, none, none] [] τ := fun _ _ _ _ => propext ⟨fun h => h.2, fun h => ⟨Nat.le_of_ble_eq_true rfl, h⟩⟩
set_option maxHeartbeats 4000000 in
theorem E_Ground_joined (d : Nat) (Q : Qt) :
    (∀ (a0 : Nat) (a1 : Int64) (a3 : Int64) (τ : St), Ru M_Ground_joined d Q 0 [some (.ref a0), some (.long a1), none, some (.long a3), none, none, none, none, none, none] [] τ = Ru M_Ground_joined d Q 1 [some (.ref a0), some (.long a1), none, some (.long a3), none, none, none, none, none, none] [.long a1] τ) ∧
    (∀ (a0 : Nat) (a1 : Int64) (a3 : Int64) (x0 : Int64) (τ : St), Ru M_Ground_joined d Q 1 [some (.ref a0), some (.long a1), none, some (.long a3), none, none, none, none, none, none] [.long x0] τ = Ru M_Ground_joined d Q 3 [some (.ref a0), some (.long a1), none, some (.long a3), none, some (.long x0), none, none, none, none] [] τ) ∧
    (∀ (a0 : Nat) (a1 : Int64) (a3 : Int64) (a5 : Int64) (τ : St), Ru M_Ground_joined d Q 3 [some (.ref a0), some (.long a1), none, some (.long a3), none, some (.long a5), none, none, none, none] [] τ = Ru M_Ground_joined d Q 4 [some (.ref a0), some (.long a1), none, some (.long a3), none, some (.long a5), none, none, none, none] [.long a1] τ) ∧
    (∀ (a0 : Nat) (a1 : Int64) (a3 : Int64) (a5 : Int64) (x0 : Int64) (τ : St), Ru M_Ground_joined d Q 4 [some (.ref a0), some (.long a1), none, some (.long a3), none, some (.long a5), none, none, none, none] [.long x0] τ = Ru M_Ground_joined d Q 6 [some (.ref a0), some (.long a1), none, some (.long a3), none, some (.long a5), none, some (.long x0), none, none] [] τ) ∧
    (∀ (a0 : Nat) (a1 : Int64) (a3 : Int64) (a5 : Int64) (a7 : Int64) (τ : St), Ru M_Ground_joined d Q 6 [some (.ref a0), some (.long a1), none, some (.long a3), none, some (.long a5), none, some (.long a7), none, none] [] τ = Ru M_Ground_joined d Q 7 [some (.ref a0), some (.long a1), none, some (.long a3), none, some (.long a5), none, some (.long a7), none, none] [.int 0] τ) ∧
    (∀ (a0 : Nat) (a1 : Int64) (a3 : Int64) (a5 : Int64) (a7 : Int64) (x0 : Int32) (τ : St), Ru M_Ground_joined d Q 7 [some (.ref a0), some (.long a1), none, some (.long a3), none, some (.long a5), none, some (.long a7), none, none] [.int x0] τ = Rs M_Ground_joined d Q 9 [some (.ref a0), some (.long a1), none, some (.long a3), none, some (.long a5), none, some (.long a7), none, some (.int x0)] [] τ) ∧
    (∀ (a0 : Nat) (a1 : Int64) (a3 : Int64) (a5 : Int64) (a7 : Int64) (a9 : Int32) (τ : St), Ru M_Ground_joined d Q 9 [some (.ref a0), some (.long a1), none, some (.long a3), none, some (.long a5), none, some (.long a7), none, some (.int a9)] [] τ = Ru M_Ground_joined d Q 11 [some (.ref a0), some (.long a1), none, some (.long a3), none, some (.long a5), none, some (.long a7), none, some (.int a9)] [.int a9] τ) ∧
    (∀ (a0 : Nat) (a1 : Int64) (a3 : Int64) (a5 : Int64) (a7 : Int64) (a9 : Int32) (x0 : Int32) (τ : St), Ru M_Ground_joined d Q 11 [some (.ref a0), some (.long a1), none, some (.long a3), none, some (.long a5), none, some (.long a7), none, some (.int a9)] [.int x0] τ = Ru M_Ground_joined d Q 13 [some (.ref a0), some (.long a1), none, some (.long a3), none, some (.long a5), none, some (.long a7), none, some (.int a9)] [.int 36, .int x0] τ) ∧
    (∀ (a0 : Nat) (a1 : Int64) (a3 : Int64) (a5 : Int64) (a7 : Int64) (a9 : Int32) (x0 : Int32) (x1 : Int32) (τ : St), Ru M_Ground_joined d Q 13 [some (.ref a0), some (.long a1), none, some (.long a3), none, some (.long a5), none, some (.long a7), none, some (.int a9)] [.int x0, .int x1] τ = ((x0 ≤ x1 → Ru M_Ground_joined d Q 53 [some (.ref a0), some (.long a1), none, some (.long a3), none, some (.long a5), none, some (.long a7), none, some (.int a9)] [] τ) ∧ (¬ x0 ≤ x1 → Ru M_Ground_joined d Q 16 [some (.ref a0), some (.long a1), none, some (.long a3), none, some (.long a5), none, some (.long a7), none, some (.int a9)] [] τ))) ∧
    (∀ (a0 : Nat) (a1 : Int64) (a3 : Int64) (a5 : Int64) (a7 : Int64) (a9 : Int32) (τ : St), Ru M_Ground_joined d Q 16 [some (.ref a0), some (.long a1), none, some (.long a3), none, some (.long a5), none, some (.long a7), none, some (.int a9)] [] τ = Ru M_Ground_joined d Q 18 [some (.ref a0), some (.long a1), none, some (.long a3), none, some (.long a5), none, some (.long a7), none, some (.int a9)] [.long a7] τ) ∧
    (∀ (a0 : Nat) (a1 : Int64) (a3 : Int64) (a5 : Int64) (a7 : Int64) (a9 : Int32) (x0 : Int64) (τ : St), Ru M_Ground_joined d Q 18 [some (.ref a0), some (.long a1), none, some (.long a3), none, some (.long a5), none, some (.long a7), none, some (.int a9)] [.long x0] τ = Ru M_Ground_joined d Q 19 [some (.ref a0), some (.long a1), none, some (.long a3), none, some (.long a5), none, some (.long a7), none, some (.int a9)] [.long 0, .long x0] τ) ∧
    (∀ (a0 : Nat) (a1 : Int64) (a3 : Int64) (a5 : Int64) (a7 : Int64) (a9 : Int32) (x0 : Int64) (x1 : Int64) (τ : St), Ru M_Ground_joined d Q 19 [some (.ref a0), some (.long a1), none, some (.long a3), none, some (.long a5), none, some (.long a7), none, some (.int a9)] [.long x0, .long x1] τ = Ru M_Ground_joined d Q 20 [some (.ref a0), some (.long a1), none, some (.long a3), none, some (.long a5), none, some (.long a7), none, some (.int a9)] [.int (lg_cmp x1 x0)] τ) ∧
    (∀ (a0 : Nat) (a1 : Int64) (a3 : Int64) (a5 : Int64) (a7 : Int64) (a9 : Int32) (x0 : Int32) (τ : St), Ru M_Ground_joined d Q 20 [some (.ref a0), some (.long a1), none, some (.long a3), none, some (.long a5), none, some (.long a7), none, some (.int a9)] [.int x0] τ = ((x0 = 0 → Ru M_Ground_joined d Q 53 [some (.ref a0), some (.long a1), none, some (.long a3), none, some (.long a5), none, some (.long a7), none, some (.int a9)] [] τ) ∧ (¬ x0 = 0 → Ru M_Ground_joined d Q 23 [some (.ref a0), some (.long a1), none, some (.long a3), none, some (.long a5), none, some (.long a7), none, some (.int a9)] [] τ))) ∧
    (∀ (a0 : Nat) (a1 : Int64) (a3 : Int64) (a5 : Int64) (a7 : Int64) (a9 : Int32) (τ : St), Ru M_Ground_joined d Q 23 [some (.ref a0), some (.long a1), none, some (.long a3), none, some (.long a5), none, some (.long a7), none, some (.int a9)] [] τ = Ru M_Ground_joined d Q 24 [some (.ref a0), some (.long a1), none, some (.long a3), none, some (.long a5), none, some (.long a7), none, some (.int a9)] [.ref a0] τ) ∧
    (∀ (a0 : Nat) (a1 : Int64) (a3 : Int64) (a5 : Int64) (a7 : Int64) (a9 : Int32) (x0 : Nat) (τ : St), Ru M_Ground_joined d Q 24 [some (.ref a0), some (.long a1), none, some (.long a3), none, some (.long a5), none, some (.long a7), none, some (.int a9)] [.ref x0] τ = Ru M_Ground_joined d Q 26 [some (.ref a0), some (.long a1), none, some (.long a3), none, some (.long a5), none, some (.long a7), none, some (.int a9)] [.long a7, .ref x0] τ) ∧
    (∀ (a0 : Nat) (a1 : Int64) (a3 : Int64) (a5 : Int64) (a7 : Int64) (a9 : Int32) (x0 : Int64) (x1 : Nat) (τ : St), Ru M_Ground_joined d Q 26 [some (.ref a0), some (.long a1), none, some (.long a3), none, some (.long a5), none, some (.long a7), none, some (.int a9)] [.long x0, .ref x1] τ = (isA 0 x1 ∧ Cl d m_Ground_besideAny [.ref x1, .long x0] τ (fun v τ' => Ru M_Ground_joined d Q 29 [some (.ref a0), some (.long a1), none, some (.long a3), none, some (.long a5), none, some (.long a7), none, some (.int a9)] (v.toList ++ []) τ'))) ∧
    (∀ (a0 : Nat) (a1 : Int64) (a3 : Int64) (a5 : Int64) (a7 : Int64) (a9 : Int32) (x0 : Int64) (τ : St), Ru M_Ground_joined d Q 29 [some (.ref a0), some (.long a1), none, some (.long a3), none, some (.long a5), none, some (.long a7), none, some (.int a9)] [.long x0] τ = Ru M_Ground_joined d Q 30 [some (.ref a0), some (.long a1), none, some (.long a3), none, some (.long a5), none, some (.long a7), none, some (.int a9)] [.long a3, .long x0] τ) ∧
    (∀ (a0 : Nat) (a1 : Int64) (a3 : Int64) (a5 : Int64) (a7 : Int64) (a9 : Int32) (x0 : Int64) (x1 : Int64) (τ : St), Ru M_Ground_joined d Q 30 [some (.ref a0), some (.long a1), none, some (.long a3), none, some (.long a5), none, some (.long a7), none, some (.int a9)] [.long x0, .long x1] τ = Ru M_Ground_joined d Q 31 [some (.ref a0), some (.long a1), none, some (.long a3), none, some (.long a5), none, some (.long a7), none, some (.int a9)] [.long (x1 &&& x0)] τ) ∧
    (∀ (a0 : Nat) (a1 : Int64) (a3 : Int64) (a5 : Int64) (a7 : Int64) (a9 : Int32) (x0 : Int64) (τ : St), Ru M_Ground_joined d Q 31 [some (.ref a0), some (.long a1), none, some (.long a3), none, some (.long a5), none, some (.long a7), none, some (.int a9)] [.long x0] τ = Ru M_Ground_joined d Q 33 [some (.ref a0), some (.long a1), none, some (.long a3), none, some (.long a5), none, some (.long a7), none, some (.int a9)] [.long a5, .long x0] τ) ∧
    (∀ (a0 : Nat) (a1 : Int64) (a3 : Int64) (a5 : Int64) (a7 : Int64) (a9 : Int32) (x0 : Int64) (x1 : Int64) (τ : St), Ru M_Ground_joined d Q 33 [some (.ref a0), some (.long a1), none, some (.long a3), none, some (.long a5), none, some (.long a7), none, some (.int a9)] [.long x0, .long x1] τ = Ru M_Ground_joined d Q 36 [some (.ref a0), some (.long a1), none, some (.long a3), none, some (.long a5), none, some (.long a7), none, some (.int a9)] [.long (-1), .long x0, .long x1] τ) ∧
    (∀ (a0 : Nat) (a1 : Int64) (a3 : Int64) (a5 : Int64) (a7 : Int64) (a9 : Int32) (x0 : Int64) (x1 : Int64) (x2 : Int64) (τ : St), Ru M_Ground_joined d Q 36 [some (.ref a0), some (.long a1), none, some (.long a3), none, some (.long a5), none, some (.long a7), none, some (.int a9)] [.long x0, .long x1, .long x2] τ = Ru M_Ground_joined d Q 37 [some (.ref a0), some (.long a1), none, some (.long a3), none, some (.long a5), none, some (.long a7), none, some (.int a9)] [.long (x1 ^^^ x0), .long x2] τ) ∧
    (∀ (a0 : Nat) (a1 : Int64) (a3 : Int64) (a5 : Int64) (a7 : Int64) (a9 : Int32) (x0 : Int64) (x1 : Int64) (τ : St), Ru M_Ground_joined d Q 37 [some (.ref a0), some (.long a1), none, some (.long a3), none, some (.long a5), none, some (.long a7), none, some (.int a9)] [.long x0, .long x1] τ = Ru M_Ground_joined d Q 38 [some (.ref a0), some (.long a1), none, some (.long a3), none, some (.long a5), none, some (.long a7), none, some (.int a9)] [.long (x1 &&& x0)] τ) ∧
    (∀ (a0 : Nat) (a1 : Int64) (a3 : Int64) (a5 : Int64) (a7 : Int64) (a9 : Int32) (x0 : Int64) (τ : St), Ru M_Ground_joined d Q 38 [some (.ref a0), some (.long a1), none, some (.long a3), none, some (.long a5), none, some (.long a7), none, some (.int a9)] [.long x0] τ = Ru M_Ground_joined d Q 40 [some (.ref a0), some (.long a1), none, some (.long a3), none, some (.long a5), none, some (.long x0), none, some (.int a9)] [] τ) ∧
    (∀ (a0 : Nat) (a1 : Int64) (a3 : Int64) (a5 : Int64) (a7 : Int64) (a9 : Int32) (τ : St), Ru M_Ground_joined d Q 40 [some (.ref a0), some (.long a1), none, some (.long a3), none, some (.long a5), none, some (.long a7), none, some (.int a9)] [] τ = Ru M_Ground_joined d Q 42 [some (.ref a0), some (.long a1), none, some (.long a3), none, some (.long a5), none, some (.long a7), none, some (.int a9)] [.long a5] τ) ∧
    (∀ (a0 : Nat) (a1 : Int64) (a3 : Int64) (a5 : Int64) (a7 : Int64) (a9 : Int32) (x0 : Int64) (τ : St), Ru M_Ground_joined d Q 42 [some (.ref a0), some (.long a1), none, some (.long a3), none, some (.long a5), none, some (.long a7), none, some (.int a9)] [.long x0] τ = Ru M_Ground_joined d Q 44 [some (.ref a0), some (.long a1), none, some (.long a3), none, some (.long a5), none, some (.long a7), none, some (.int a9)] [.long a7, .long x0] τ) ∧
    (∀ (a0 : Nat) (a1 : Int64) (a3 : Int64) (a5 : Int64) (a7 : Int64) (a9 : Int32) (x0 : Int64) (x1 : Int64) (τ : St), Ru M_Ground_joined d Q 44 [some (.ref a0), some (.long a1), none, some (.long a3), none, some (.long a5), none, some (.long a7), none, some (.int a9)] [.long x0, .long x1] τ = Ru M_Ground_joined d Q 45 [some (.ref a0), some (.long a1), none, some (.long a3), none, some (.long a5), none, some (.long a7), none, some (.int a9)] [.long (x1 ||| x0)] τ) ∧
    (∀ (a0 : Nat) (a1 : Int64) (a3 : Int64) (a5 : Int64) (a7 : Int64) (a9 : Int32) (x0 : Int64) (τ : St), Ru M_Ground_joined d Q 45 [some (.ref a0), some (.long a1), none, some (.long a3), none, some (.long a5), none, some (.long a7), none, some (.int a9)] [.long x0] τ = Ru M_Ground_joined d Q 47 [some (.ref a0), some (.long a1), none, some (.long a3), none, some (.long x0), none, some (.long a7), none, some (.int a9)] [] τ) ∧
    (∀ (a0 : Nat) (a1 : Int64) (a3 : Int64) (a5 : Int64) (a7 : Int64) (a9 : Int32) (τ : St), Ru M_Ground_joined d Q 47 [some (.ref a0), some (.long a1), none, some (.long a3), none, some (.long a5), none, some (.long a7), none, some (.int a9)] [] τ = Ru M_Ground_joined d Q 50 [some (.ref a0), some (.long a1), none, some (.long a3), none, some (.long a5), none, some (.long a7), none, some (.int (a9 + 1))] [] τ) ∧
    (∀ (a0 : Nat) (a1 : Int64) (a3 : Int64) (a5 : Int64) (a7 : Int64) (a9 : Int32) (τ : St), Ru M_Ground_joined d Q 50 [some (.ref a0), some (.long a1), none, some (.long a3), none, some (.long a5), none, some (.long a7), none, some (.int a9)] [] τ = Rs M_Ground_joined d Q 9 [some (.ref a0), some (.long a1), none, some (.long a3), none, some (.long a5), none, some (.long a7), none, some (.int a9)] [] τ) ∧
    (∀ (a0 : Nat) (a1 : Int64) (a3 : Int64) (a5 : Int64) (a7 : Int64) (a9 : Int32) (τ : St), Ru M_Ground_joined d Q 53 [some (.ref a0), some (.long a1), none, some (.long a3), none, some (.long a5), none, some (.long a7), none, some (.int a9)] [] τ = Ru M_Ground_joined d Q 55 [some (.ref a0), some (.long a1), none, some (.long a3), none, some (.long a5), none, some (.long a7), none, some (.int a9)] [.long a5] τ) ∧
    (∀ (a0 : Nat) (a1 : Int64) (a3 : Int64) (a5 : Int64) (a7 : Int64) (a9 : Int32) (x0 : Int64) (τ : St), Ru M_Ground_joined d Q 55 [some (.ref a0), some (.long a1), none, some (.long a3), none, some (.long a5), none, some (.long a7), none, some (.int a9)] [.long x0] τ = Q (some (.long x0)) τ) := ⟨
  fun _ _ _ _ => (R_at ok_Ground_joined rfl).trans (e_lld rfl),
  fun _ _ _ _ _ => (R_at ok_Ground_joined rfl).trans e_lst,
  fun _ _ _ _ _ => (R_at ok_Ground_joined rfl).trans (e_lld rfl),
  fun _ _ _ _ _ _ => (R_at ok_Ground_joined rfl).trans e_lst,
  fun _ _ _ _ _ _ => (R_at ok_Ground_joined rfl).trans e_push,
  fun _ _ _ _ _ _ _ => (R_at ok_Ground_joined rfl).trans e_ist,
  fun _ _ _ _ _ _ _ => (R_at ok_Ground_joined rfl).trans (e_ild rfl),
  fun _ _ _ _ _ _ _ _ => (R_at ok_Ground_joined rfl).trans e_push,
  fun _ _ _ _ _ _ _ _ _ => (R_at ok_Ground_joined rfl).trans e_ic,
  fun _ _ _ _ _ _ _ => (R_at ok_Ground_joined rfl).trans (e_lld rfl),
  fun _ _ _ _ _ _ _ _ => (R_at ok_Ground_joined rfl).trans e_push,
  fun _ _ _ _ _ _ _ _ _ => (R_at ok_Ground_joined rfl).trans e_lcmp,
  fun _ _ _ _ _ _ _ _ => (R_at ok_Ground_joined rfl).trans e_if,
  fun _ _ _ _ _ _ _ => (R_at ok_Ground_joined rfl).trans (e_ald rfl),
  fun _ _ _ _ _ _ _ _ => (R_at ok_Ground_joined rfl).trans (e_lld rfl),
  fun _ _ _ _ _ _ x0 _ _ => (R_at ok_Ground_joined rfl).trans (e_cv [.long x0] rfl rfl rfl),
  fun _ _ _ _ _ _ _ _ => (R_at ok_Ground_joined rfl).trans (e_lld rfl),
  fun _ _ _ _ _ _ _ _ _ => (R_at ok_Ground_joined rfl).trans e_lbin,
  fun _ _ _ _ _ _ _ _ => (R_at ok_Ground_joined rfl).trans (e_lld rfl),
  fun _ _ _ _ _ _ _ _ _ => (R_at ok_Ground_joined rfl).trans e_push,
  fun _ _ _ _ _ _ _ _ _ _ => (R_at ok_Ground_joined rfl).trans e_lbin,
  fun _ _ _ _ _ _ _ _ _ => (R_at ok_Ground_joined rfl).trans e_lbin,
  fun _ _ _ _ _ _ _ _ => (R_at ok_Ground_joined rfl).trans e_lst,
  fun _ _ _ _ _ _ _ => (R_at ok_Ground_joined rfl).trans (e_lld rfl),
  fun _ _ _ _ _ _ _ _ => (R_at ok_Ground_joined rfl).trans (e_lld rfl),
  fun _ _ _ _ _ _ _ _ _ => (R_at ok_Ground_joined rfl).trans e_lbin,
  fun _ _ _ _ _ _ _ _ => (R_at ok_Ground_joined rfl).trans e_lst,
  fun _ _ _ _ _ _ _ => (R_at ok_Ground_joined rfl).trans (e_iinc rfl),
  fun _ _ _ _ _ _ _ => (R_at ok_Ground_joined rfl).trans e_goto,
  fun _ _ _ _ _ _ _ => (R_at ok_Ground_joined rfl).trans (e_lld rfl),
  fun _ _ _ _ _ _ _ _ => (R_at ok_Ground_joined rfl).trans e_lret⟩
set_option maxHeartbeats 4000000 in
theorem N_Ground_besideAny (d : Nat) (Q : Qt) : ∀ (x0 : Nat) (x1 : Int64) (τ : St), Cl (d + 1) m_Ground_besideAny [.ref x0, .long x1] τ Q = Ru M_Ground_besideAny d Q 0 [some (.ref x0), some (.long x1), none, none, none, none, none, none] [] τ := fun _ _ _ => propext ⟨fun h => h.2, fun h => ⟨Nat.le_of_ble_eq_true rfl, h⟩⟩
set_option maxHeartbeats 4000000 in
theorem E_Ground_besideAny (d : Nat) (Q : Qt) :
    (∀ (a0 : Nat) (a1 : Int64) (τ : St), Ru M_Ground_besideAny d Q 0 [some (.ref a0), some (.long a1), none, none, none, none, none, none] [] τ = Ru M_Ground_besideAny d Q 1 [some (.ref a0), some (.long a1), none, none, none, none, none, none] [.long 0] τ) ∧
    (∀ (a0 : Nat) (a1 : Int64) (x0 : Int64) (τ : St), Ru M_Ground_besideAny d Q 1 [some (.ref a0), some (.long a1), none, none, none, none, none, none] [.long x0] τ = Ru M_Ground_besideAny d Q 2 [some (.ref a0), some (.long a1), none, some (.long x0), none, none, none, none] [] τ) ∧
    (∀ (a0 : Nat) (a1 : Int64) (a3 : Int64) (τ : St), Ru M_Ground_besideAny d Q 2 [some (.ref a0), some (.long a1), none, some (.long a3), none, none, none, none] [] τ = Ru M_Ground_besideAny d Q 3 [some (.ref a0), some (.long a1), none, some (.long a3), none, none, none, none] [.int 0] τ) ∧
    (∀ (a0 : Nat) (a1 : Int64) (a3 : Int64) (x0 : Int32) (τ : St), Ru M_Ground_besideAny d Q 3 [some (.ref a0), some (.long a1), none, some (.long a3), none, none, none, none] [.int x0] τ = Rs M_Ground_besideAny d Q 5 [some (.ref a0), some (.long a1), none, some (.long a3), none, some (.int x0), none, none] [] τ) ∧
    (∀ (a0 : Nat) (a1 : Int64) (a3 : Int64) (a5 : Int32) (a6 : Option Value) (a7 : Option Value) (τ : St), Ru M_Ground_besideAny d Q 5 [some (.ref a0), some (.long a1), none, some (.long a3), none, some (.int a5), a6, a7] [] τ = Ru M_Ground_besideAny d Q 7 [some (.ref a0), some (.long a1), none, some (.long a3), none, some (.int a5), a6, a7] [.int a5] τ) ∧
    (∀ (a0 : Nat) (a1 : Int64) (a3 : Int64) (a5 : Int32) (a6 : Option Value) (a7 : Option Value) (x0 : Int32) (τ : St), Ru M_Ground_besideAny d Q 7 [some (.ref a0), some (.long a1), none, some (.long a3), none, some (.int a5), a6, a7] [.int x0] τ = Ru M_Ground_besideAny d Q 8 [some (.ref a0), some (.long a1), none, some (.long a3), none, some (.int a5), a6, a7] [.ref a0, .int x0] τ) ∧
    (∀ (a0 : Nat) (a1 : Int64) (a3 : Int64) (a5 : Int32) (a6 : Option Value) (a7 : Option Value) (x0 : Nat) (x1 : Int32) (τ : St), Ru M_Ground_besideAny d Q 8 [some (.ref a0), some (.long a1), none, some (.long a3), none, some (.int a5), a6, a7] [.ref x0, .int x1] τ = (isA 0 x0 ∧ Ru M_Ground_besideAny d Q 11 [some (.ref a0), some (.long a1), none, some (.long a3), none, some (.int a5), a6, a7] [.int (τ.1 x0 2), .int x1] τ)) ∧
    (∀ (a0 : Nat) (a1 : Int64) (a3 : Int64) (a5 : Int32) (a6 : Option Value) (a7 : Option Value) (x0 : Int32) (x1 : Int32) (τ : St), Ru M_Ground_besideAny d Q 11 [some (.ref a0), some (.long a1), none, some (.long a3), none, some (.int a5), a6, a7] [.int x0, .int x1] τ = ((x0 ≤ x1 → Ru M_Ground_besideAny d Q 72 [some (.ref a0), some (.long a1), none, some (.long a3), none, some (.int a5), a6, a7] [] τ) ∧ (¬ x0 ≤ x1 → Ru M_Ground_besideAny d Q 14 [some (.ref a0), some (.long a1), none, some (.long a3), none, some (.int a5), a6, a7] [] τ))) ∧
    (∀ (a0 : Nat) (a1 : Int64) (a3 : Int64) (a5 : Int32) (a6 : Option Value) (a7 : Option Value) (τ : St), Ru M_Ground_besideAny d Q 14 [some (.ref a0), some (.long a1), none, some (.long a3), none, some (.int a5), a6, a7] [] τ = Ru M_Ground_besideAny d Q 15 [some (.ref a0), some (.long a1), none, some (.long a3), none, some (.int a5), a6, a7] [.long a1] τ) ∧
    (∀ (a0 : Nat) (a1 : Int64) (a3 : Int64) (a5 : Int32) (a6 : Option Value) (a7 : Option Value) (x0 : Int64) (τ : St), Ru M_Ground_besideAny d Q 15 [some (.ref a0), some (.long a1), none, some (.long a3), none, some (.int a5), a6, a7] [.long x0] τ = Ru M_Ground_besideAny d Q 17 [some (.ref a0), some (.long a1), none, some (.long a3), none, some (.int a5), a6, a7] [.int a5, .long x0] τ) ∧
    (∀ (a0 : Nat) (a1 : Int64) (a3 : Int64) (a5 : Int32) (a6 : Option Value) (a7 : Option Value) (x0 : Int32) (x1 : Int64) (τ : St), Ru M_Ground_besideAny d Q 17 [some (.ref a0), some (.long a1), none, some (.long a3), none, some (.int a5), a6, a7] [.int x0, .long x1] τ = Ru M_Ground_besideAny d Q 18 [some (.ref a0), some (.long a1), none, some (.long a3), none, some (.int a5), a6, a7] [.long ((x1.toUInt64 >>> (x0.toInt64.toUInt64 &&& Int64.toUInt64 63)).toInt64)] τ) ∧
    (∀ (a0 : Nat) (a1 : Int64) (a3 : Int64) (a5 : Int32) (a6 : Option Value) (a7 : Option Value) (x0 : Int64) (τ : St), Ru M_Ground_besideAny d Q 18 [some (.ref a0), some (.long a1), none, some (.long a3), none, some (.int a5), a6, a7] [.long x0] τ = Ru M_Ground_besideAny d Q 19 [some (.ref a0), some (.long a1), none, some (.long a3), none, some (.int a5), a6, a7] [.long 1, .long x0] τ) ∧
    (∀ (a0 : Nat) (a1 : Int64) (a3 : Int64) (a5 : Int32) (a6 : Option Value) (a7 : Option Value) (x0 : Int64) (x1 : Int64) (τ : St), Ru M_Ground_besideAny d Q 19 [some (.ref a0), some (.long a1), none, some (.long a3), none, some (.int a5), a6, a7] [.long x0, .long x1] τ = Ru M_Ground_besideAny d Q 20 [some (.ref a0), some (.long a1), none, some (.long a3), none, some (.int a5), a6, a7] [.long (x1 &&& x0)] τ) ∧
    (∀ (a0 : Nat) (a1 : Int64) (a3 : Int64) (a5 : Int32) (a6 : Option Value) (a7 : Option Value) (x0 : Int64) (τ : St), Ru M_Ground_besideAny d Q 20 [some (.ref a0), some (.long a1), none, some (.long a3), none, some (.int a5), a6, a7] [.long x0] τ = Ru M_Ground_besideAny d Q 21 [some (.ref a0), some (.long a1), none, some (.long a3), none, some (.int a5), a6, a7] [.long 0, .long x0] τ) ∧
    (∀ (a0 : Nat) (a1 : Int64) (a3 : Int64) (a5 : Int32) (a6 : Option Value) (a7 : Option Value) (x0 : Int64) (x1 : Int64) (τ : St), Ru M_Ground_besideAny d Q 21 [some (.ref a0), some (.long a1), none, some (.long a3), none, some (.int a5), a6, a7] [.long x0, .long x1] τ = Ru M_Ground_besideAny d Q 22 [some (.ref a0), some (.long a1), none, some (.long a3), none, some (.int a5), a6, a7] [.int (lg_cmp x1 x0)] τ) ∧
    (∀ (a0 : Nat) (a1 : Int64) (a3 : Int64) (a5 : Int32) (a6 : Option Value) (a7 : Option Value) (x0 : Int32) (τ : St), Ru M_Ground_besideAny d Q 22 [some (.ref a0), some (.long a1), none, some (.long a3), none, some (.int a5), a6, a7] [.int x0] τ = ((¬ x0 = 0 → Ru M_Ground_besideAny d Q 28 [some (.ref a0), some (.long a1), none, some (.long a3), none, some (.int a5), a6, a7] [] τ) ∧ (x0 = 0 → Ru M_Ground_besideAny d Q 25 [some (.ref a0), some (.long a1), none, some (.long a3), none, some (.int a5), a6, a7] [] τ))) ∧
    (∀ (a0 : Nat) (a1 : Int64) (a3 : Int64) (a5 : Int32) (a6 : Option Value) (a7 : Option Value) (τ : St), Ru M_Ground_besideAny d Q 25 [some (.ref a0), some (.long a1), none, some (.long a3), none, some (.int a5), a6, a7] [] τ = Ru M_Ground_besideAny d Q 66 [some (.ref a0), some (.long a1), none, some (.long a3), none, some (.int a5), a6, a7] [] τ) ∧
    (∀ (a0 : Nat) (a1 : Int64) (a3 : Int64) (a5 : Int32) (a6 : Option Value) (a7 : Option Value) (τ : St), Ru M_Ground_besideAny d Q 28 [some (.ref a0), some (.long a1), none, some (.long a3), none, some (.int a5), a6, a7] [] τ = Ru M_Ground_besideAny d Q 29 [some (.ref a0), some (.long a1), none, some (.long a3), none, some (.int a5), a6, a7] [.int 0] τ) ∧
    (∀ (a0 : Nat) (a1 : Int64) (a3 : Int64) (a5 : Int32) (a6 : Option Value) (a7 : Option Value) (x0 : Int32) (τ : St), Ru M_Ground_besideAny d Q 29 [some (.ref a0), some (.long a1), none, some (.long a3), none, some (.int a5), a6, a7] [.int x0] τ = Rs M_Ground_besideAny d Q 31 [some (.ref a0), some (.long a1), none, some (.long a3), none, some (.int a5), some (.int x0), a7] [] τ) ∧
    (∀ (a0 : Nat) (a1 : Int64) (a3 : Int64) (a5 : Int32) (a6 : Int32) (a7 : Option Value) (τ : St), Ru M_Ground_besideAny d Q 31 [some (.ref a0), some (.long a1), none, some (.long a3), none, some (.int a5), some (.int a6), a7] [] τ = Ru M_Ground_besideAny d Q 33 [some (.ref a0), some (.long a1), none, some (.long a3), none, some (.int a5), some (.int a6), a7] [.int a6] τ) ∧
    (∀ (a0 : Nat) (a1 : Int64) (a3 : Int64) (a5 : Int32) (a6 : Int32) (a7 : Option Value) (x0 : Int32) (τ : St), Ru M_Ground_besideAny d Q 33 [some (.ref a0), some (.long a1), none, some (.long a3), none, some (.int a5), some (.int a6), a7] [.int x0] τ = Ru M_Ground_besideAny d Q 34 [some (.ref a0), some (.long a1), none, some (.long a3), none, some (.int a5), some (.int a6), a7] [.int 4, .int x0] τ) ∧
    (∀ (a0 : Nat) (a1 : Int64) (a3 : Int64) (a5 : Int32) (a6 : Int32) (a7 : Option Value) (x0 : Int32) (x1 : Int32) (τ : St), Ru M_Ground_besideAny d Q 34 [some (.ref a0), some (.long a1), none, some (.long a3), none, some (.int a5), some (.int a6), a7] [.int x0, .int x1] τ = ((x0 ≤ x1 → Ru M_Ground_besideAny d Q 66 [some (.ref a0), some (.long a1), none, some (.long a3), none, some (.int a5), some (.int a6), a7] [] τ) ∧ (¬ x0 ≤ x1 → Ru M_Ground_besideAny d Q 37 [some (.ref a0), some (.long a1), none, some (.long a3), none, some (.int a5), some (.int a6), a7] [] τ))) ∧
    (∀ (a0 : Nat) (a1 : Int64) (a3 : Int64) (a5 : Int32) (a6 : Int32) (a7 : Option Value) (τ : St), Ru M_Ground_besideAny d Q 37 [some (.ref a0), some (.long a1), none, some (.long a3), none, some (.int a5), some (.int a6), a7] [] τ = Ru M_Ground_besideAny d Q 38 [some (.ref a0), some (.long a1), none, some (.long a3), none, some (.int a5), some (.int a6), a7] [.ref a0] τ) ∧
    (∀ (a0 : Nat) (a1 : Int64) (a3 : Int64) (a5 : Int32) (a6 : Int32) (a7 : Option Value) (x0 : Nat) (τ : St), Ru M_Ground_besideAny d Q 38 [some (.ref a0), some (.long a1), none, some (.long a3), none, some (.int a5), some (.int a6), a7] [.ref x0] τ = Ru M_Ground_besideAny d Q 40 [some (.ref a0), some (.long a1), none, some (.long a3), none, some (.int a5), some (.int a6), a7] [.int a5, .ref x0] τ) ∧
    (∀ (a0 : Nat) (a1 : Int64) (a3 : Int64) (a5 : Int32) (a6 : Int32) (a7 : Option Value) (x0 : Int32) (x1 : Nat) (τ : St), Ru M_Ground_besideAny d Q 40 [some (.ref a0), some (.long a1), none, some (.long a3), none, some (.int a5), some (.int a6), a7] [.int x0, .ref x1] τ = Ru M_Ground_besideAny d Q 42 [some (.ref a0), some (.long a1), none, some (.long a3), none, some (.int a5), some (.int a6), a7] [.int a6, .int x0, .ref x1] τ) ∧
    (∀ (a0 : Nat) (a1 : Int64) (a3 : Int64) (a5 : Int32) (a6 : Int32) (a7 : Option Value) (x0 : Int32) (x1 : Int32) (x2 : Nat) (τ : St), Ru M_Ground_besideAny d Q 42 [some (.ref a0), some (.long a1), none, some (.long a3), none, some (.int a5), some (.int a6), a7] [.int x0, .int x1, .ref x2] τ = (isA 0 x2 ∧ Cl d m_Ground_beside [.ref x2, .int x1, .int x0] τ (fun v τ' => Ru M_Ground_besideAny d Q 45 [some (.ref a0), some (.long a1), none, some (.long a3), none, some (.int a5), some (.int a6), a7] (v.toList ++ []) τ'))) ∧
    (∀ (a0 : Nat) (a1 : Int64) (a3 : Int64) (a5 : Int32) (a6 : Int32) (a7 : Option Value) (x0 : Int32) (τ : St), Ru M_Ground_besideAny d Q 45 [some (.ref a0), some (.long a1), none, some (.long a3), none, some (.int a5), some (.int a6), a7] [.int x0] τ = Ru M_Ground_besideAny d Q 47 [some (.ref a0), some (.long a1), none, some (.long a3), none, some (.int a5), some (.int a6), some (.int x0)] [] τ) ∧
    (∀ (a0 : Nat) (a1 : Int64) (a3 : Int64) (a5 : Int32) (a6 : Int32) (a7 : Int32) (τ : St), Ru M_Ground_besideAny d Q 47 [some (.ref a0), some (.long a1), none, some (.long a3), none, some (.int a5), some (.int a6), some (.int a7)] [] τ = Ru M_Ground_besideAny d Q 49 [some (.ref a0), some (.long a1), none, some (.long a3), none, some (.int a5), some (.int a6), some (.int a7)] [.int a7] τ) ∧
    (∀ (a0 : Nat) (a1 : Int64) (a3 : Int64) (a5 : Int32) (a6 : Int32) (a7 : Int32) (x0 : Int32) (τ : St), Ru M_Ground_besideAny d Q 49 [some (.ref a0), some (.long a1), none, some (.long a3), none, some (.int a5), some (.int a6), some (.int a7)] [.int x0] τ = Ru M_Ground_besideAny d Q 50 [some (.ref a0), some (.long a1), none, some (.long a3), none, some (.int a5), some (.int a6), some (.int a7)] [.int (-1), .int x0] τ) ∧
    (∀ (a0 : Nat) (a1 : Int64) (a3 : Int64) (a5 : Int32) (a6 : Int32) (a7 : Int32) (x0 : Int32) (x1 : Int32) (τ : St), Ru M_Ground_besideAny d Q 50 [some (.ref a0), some (.long a1), none, some (.long a3), none, some (.int a5), some (.int a6), some (.int a7)] [.int x0, .int x1] τ = ((x1 = x0 → Ru M_Ground_besideAny d Q 60 [some (.ref a0), some (.long a1), none, some (.long a3), none, some (.int a5), some (.int a6), some (.int a7)] [] τ) ∧ (¬ x1 = x0 → Ru M_Ground_besideAny d Q 53 [some (.ref a0), some (.long a1), none, some (.long a3), none, some (.int a5), some (.int a6), some (.int a7)] [] τ))) ∧
    (∀ (a0 : Nat) (a1 : Int64) (a3 : Int64) (a5 : Int32) (a6 : Int32) (a7 : Int32) (τ : St), Ru M_Ground_besideAny d Q 53 [some (.ref a0), some (.long a1), none, some (.long a3), none, some (.int a5), some (.int a6), some (.int a7)] [] τ = Ru M_Ground_besideAny d Q 54 [some (.ref a0), some (.long a1), none, some (.long a3), none, some (.int a5), some (.int a6), some (.int a7)] [.long a3] τ) ∧
    (∀ (a0 : Nat) (a1 : Int64) (a3 : Int64) (a5 : Int32) (a6 : Int32) (a7 : Int32) (x0 : Int64) (τ : St), Ru M_Ground_besideAny d Q 54 [some (.ref a0), some (.long a1), none, some (.long a3), none, some (.int a5), some (.int a6), some (.int a7)] [.long x0] τ = Ru M_Ground_besideAny d Q 55 [some (.ref a0), some (.long a1), none, some (.long a3), none, some (.int a5), some (.int a6), some (.int a7)] [.long 1, .long x0] τ) ∧
    (∀ (a0 : Nat) (a1 : Int64) (a3 : Int64) (a5 : Int32) (a6 : Int32) (a7 : Int32) (x0 : Int64) (x1 : Int64) (τ : St), Ru M_Ground_besideAny d Q 55 [some (.ref a0), some (.long a1), none, some (.long a3), none, some (.int a5), some (.int a6), some (.int a7)] [.long x0, .long x1] τ = Ru M_Ground_besideAny d Q 57 [some (.ref a0), some (.long a1), none, some (.long a3), none, some (.int a5), some (.int a6), some (.int a7)] [.int a7, .long x0, .long x1] τ) ∧
    (∀ (a0 : Nat) (a1 : Int64) (a3 : Int64) (a5 : Int32) (a6 : Int32) (a7 : Int32) (x0 : Int32) (x1 : Int64) (x2 : Int64) (τ : St), Ru M_Ground_besideAny d Q 57 [some (.ref a0), some (.long a1), none, some (.long a3), none, some (.int a5), some (.int a6), some (.int a7)] [.int x0, .long x1, .long x2] τ = Ru M_Ground_besideAny d Q 58 [some (.ref a0), some (.long a1), none, some (.long a3), none, some (.int a5), some (.int a6), some (.int a7)] [.long (x1 <<< (x0.toInt64 &&& 63)), .long x2] τ) ∧
    (∀ (a0 : Nat) (a1 : Int64) (a3 : Int64) (a5 : Int32) (a6 : Int32) (a7 : Int32) (x0 : Int64) (x1 : Int64) (τ : St), Ru M_Ground_besideAny d Q 58 [some (.ref a0), some (.long a1), none, some (.long a3), none, some (.int a5), some (.int a6), some (.int a7)] [.long x0, .long x1] τ = Ru M_Ground_besideAny d Q 59 [some (.ref a0), some (.long a1), none, some (.long a3), none, some (.int a5), some (.int a6), some (.int a7)] [.long (x1 ||| x0)] τ) ∧
    (∀ (a0 : Nat) (a1 : Int64) (a3 : Int64) (a5 : Int32) (a6 : Int32) (a7 : Int32) (x0 : Int64) (τ : St), Ru M_Ground_besideAny d Q 59 [some (.ref a0), some (.long a1), none, some (.long a3), none, some (.int a5), some (.int a6), some (.int a7)] [.long x0] τ = Ru M_Ground_besideAny d Q 60 [some (.ref a0), some (.long a1), none, some (.long x0), none, some (.int a5), some (.int a6), some (.int a7)] [] τ) ∧
    (∀ (a0 : Nat) (a1 : Int64) (a3 : Int64) (a5 : Int32) (a6 : Int32) (a7 : Int32) (τ : St), Ru M_Ground_besideAny d Q 60 [some (.ref a0), some (.long a1), none, some (.long a3), none, some (.int a5), some (.int a6), some (.int a7)] [] τ = Ru M_Ground_besideAny d Q 63 [some (.ref a0), some (.long a1), none, some (.long a3), none, some (.int a5), some (.int (a6 + 1)), some (.int a7)] [] τ) ∧
    (∀ (a0 : Nat) (a1 : Int64) (a3 : Int64) (a5 : Int32) (a6 : Int32) (a7 : Int32) (τ : St), Ru M_Ground_besideAny d Q 63 [some (.ref a0), some (.long a1), none, some (.long a3), none, some (.int a5), some (.int a6), some (.int a7)] [] τ = Rs M_Ground_besideAny d Q 31 [some (.ref a0), some (.long a1), none, some (.long a3), none, some (.int a5), some (.int a6), some (.int a7)] [] τ) ∧
    (∀ (a0 : Nat) (a1 : Int64) (a3 : Int64) (a5 : Int32) (a6 : Option Value) (a7 : Option Value) (τ : St), Ru M_Ground_besideAny d Q 66 [some (.ref a0), some (.long a1), none, some (.long a3), none, some (.int a5), a6, a7] [] τ = Ru M_Ground_besideAny d Q 69 [some (.ref a0), some (.long a1), none, some (.long a3), none, some (.int (a5 + 1)), a6, a7] [] τ) ∧
    (∀ (a0 : Nat) (a1 : Int64) (a3 : Int64) (a5 : Int32) (a6 : Option Value) (a7 : Option Value) (τ : St), Ru M_Ground_besideAny d Q 69 [some (.ref a0), some (.long a1), none, some (.long a3), none, some (.int a5), a6, a7] [] τ = Rs M_Ground_besideAny d Q 5 [some (.ref a0), some (.long a1), none, some (.long a3), none, some (.int a5), a6, a7] [] τ) ∧
    (∀ (a0 : Nat) (a1 : Int64) (a3 : Int64) (a5 : Int32) (a6 : Option Value) (a7 : Option Value) (τ : St), Ru M_Ground_besideAny d Q 72 [some (.ref a0), some (.long a1), none, some (.long a3), none, some (.int a5), a6, a7] [] τ = Ru M_Ground_besideAny d Q 73 [some (.ref a0), some (.long a1), none, some (.long a3), none, some (.int a5), a6, a7] [.long a3] τ) ∧
    (∀ (a0 : Nat) (a1 : Int64) (a3 : Int64) (a5 : Int32) (a6 : Option Value) (a7 : Option Value) (x0 : Int64) (τ : St), Ru M_Ground_besideAny d Q 73 [some (.ref a0), some (.long a1), none, some (.long a3), none, some (.int a5), a6, a7] [.long x0] τ = Q (some (.long x0)) τ) := ⟨
  fun _ _ _ => (R_at ok_Ground_besideAny rfl).trans e_push,
  fun _ _ _ _ => (R_at ok_Ground_besideAny rfl).trans e_lst,
  fun _ _ _ _ => (R_at ok_Ground_besideAny rfl).trans e_push,
  fun _ _ _ _ _ => (R_at ok_Ground_besideAny rfl).trans e_ist,
  fun _ _ _ _ _ _ _ => (R_at ok_Ground_besideAny rfl).trans (e_ild rfl),
  fun _ _ _ _ _ _ _ _ => (R_at ok_Ground_besideAny rfl).trans (e_ald rfl),
  fun _ _ _ _ _ _ _ _ _ => (R_at ok_Ground_besideAny rfl).trans e_gI,
  fun _ _ _ _ _ _ _ _ _ => (R_at ok_Ground_besideAny rfl).trans e_ic,
  fun _ _ _ _ _ _ _ => (R_at ok_Ground_besideAny rfl).trans (e_lld rfl),
  fun _ _ _ _ _ _ _ _ => (R_at ok_Ground_besideAny rfl).trans (e_ild rfl),
  fun _ _ _ _ _ _ _ _ _ => (R_at ok_Ground_besideAny rfl).trans e_lsh,
  fun _ _ _ _ _ _ _ _ => (R_at ok_Ground_besideAny rfl).trans e_push,
  fun _ _ _ _ _ _ _ _ _ => (R_at ok_Ground_besideAny rfl).trans e_lbin,
  fun _ _ _ _ _ _ _ _ => (R_at ok_Ground_besideAny rfl).trans e_push,
  fun _ _ _ _ _ _ _ _ _ => (R_at ok_Ground_besideAny rfl).trans e_lcmp,
  fun _ _ _ _ _ _ _ _ => (R_at ok_Ground_besideAny rfl).trans e_ifn,
  fun _ _ _ _ _ _ _ => (R_at ok_Ground_besideAny rfl).trans e_goto,
  fun _ _ _ _ _ _ _ => (R_at ok_Ground_besideAny rfl).trans e_push,
  fun _ _ _ _ _ _ _ _ => (R_at ok_Ground_besideAny rfl).trans e_ist,
  fun _ _ _ _ _ _ _ => (R_at ok_Ground_besideAny rfl).trans (e_ild rfl),
  fun _ _ _ _ _ _ _ _ => (R_at ok_Ground_besideAny rfl).trans e_push,
  fun _ _ _ _ _ _ _ _ _ => (R_at ok_Ground_besideAny rfl).trans e_ic,
  fun _ _ _ _ _ _ _ => (R_at ok_Ground_besideAny rfl).trans (e_ald rfl),
  fun _ _ _ _ _ _ _ _ => (R_at ok_Ground_besideAny rfl).trans (e_ild rfl),
  fun _ _ _ _ _ _ _ _ _ => (R_at ok_Ground_besideAny rfl).trans (e_ild rfl),
  fun _ _ _ _ _ _ x0 x1 _ _ => (R_at ok_Ground_besideAny rfl).trans (e_cv [.int x1, .int x0] rfl rfl rfl),
  fun _ _ _ _ _ _ _ _ => (R_at ok_Ground_besideAny rfl).trans e_ist,
  fun _ _ _ _ _ _ _ => (R_at ok_Ground_besideAny rfl).trans (e_ild rfl),
  fun _ _ _ _ _ _ _ _ => (R_at ok_Ground_besideAny rfl).trans e_push,
  fun _ _ _ _ _ _ _ _ _ => (R_at ok_Ground_besideAny rfl).trans e_ic,
  fun _ _ _ _ _ _ _ => (R_at ok_Ground_besideAny rfl).trans (e_lld rfl),
  fun _ _ _ _ _ _ _ _ => (R_at ok_Ground_besideAny rfl).trans e_push,
  fun _ _ _ _ _ _ _ _ _ => (R_at ok_Ground_besideAny rfl).trans (e_ild rfl),
  fun _ _ _ _ _ _ _ _ _ _ => (R_at ok_Ground_besideAny rfl).trans e_lsh,
  fun _ _ _ _ _ _ _ _ _ => (R_at ok_Ground_besideAny rfl).trans e_lbin,
  fun _ _ _ _ _ _ _ _ => (R_at ok_Ground_besideAny rfl).trans e_lst,
  fun _ _ _ _ _ _ _ => (R_at ok_Ground_besideAny rfl).trans (e_iinc rfl),
  fun _ _ _ _ _ _ _ => (R_at ok_Ground_besideAny rfl).trans e_goto,
  fun _ _ _ _ _ _ _ => (R_at ok_Ground_besideAny rfl).trans (e_iinc rfl),
  fun _ _ _ _ _ _ _ => (R_at ok_Ground_besideAny rfl).trans e_goto,
  fun _ _ _ _ _ _ _ => (R_at ok_Ground_besideAny rfl).trans (e_lld rfl),
  fun _ _ _ _ _ _ _ _ => (R_at ok_Ground_besideAny rfl).trans e_lret⟩
set_option maxHeartbeats 4000000 in
theorem N_Moment_clear (d : Nat) (Q : Qt) : ∀ (x0 : Nat) (τ : St), Cl (d + 1) m_Moment_clear [.ref x0] τ Q = Ru M_Moment_clear d Q 0 [some (.ref x0)] [] τ := fun _ _ => propext ⟨fun h => h.2, fun h => ⟨Nat.le_of_ble_eq_true rfl, h⟩⟩
set_option maxHeartbeats 4000000 in
theorem E_Moment_clear (d : Nat) (Q : Qt) :
    (∀ (a0 : Nat) (τ : St), Ru M_Moment_clear d Q 0 [some (.ref a0)] [] τ = Ru M_Moment_clear d Q 1 [some (.ref a0)] [.ref a0] τ) ∧
    (∀ (a0 : Nat) (x0 : Nat) (τ : St), Ru M_Moment_clear d Q 1 [some (.ref a0)] [.ref x0] τ = Ru M_Moment_clear d Q 2 [some (.ref a0)] [.int 0, .ref x0] τ) ∧
    (∀ (a0 : Nat) (x0 : Int32) (x1 : Nat) (τ : St), Ru M_Moment_clear d Q 2 [some (.ref a0)] [.int x0, .ref x1] τ = (isA 1 x1 ∧ Ru M_Moment_clear d Q 5 [some (.ref a0)] [] (sI τ x1 1 x0))) ∧
    (∀ (a0 : Nat) (τ : St), Ru M_Moment_clear d Q 5 [some (.ref a0)] [] τ = Ru M_Moment_clear d Q 6 [some (.ref a0)] [.ref a0] τ) ∧
    (∀ (a0 : Nat) (x0 : Nat) (τ : St), Ru M_Moment_clear d Q 6 [some (.ref a0)] [.ref x0] τ = Ru M_Moment_clear d Q 7 [some (.ref a0)] [.int 0, .ref x0] τ) ∧
    (∀ (a0 : Nat) (x0 : Int32) (x1 : Nat) (τ : St), Ru M_Moment_clear d Q 7 [some (.ref a0)] [.int x0, .ref x1] τ = (isA 1 x1 ∧ Ru M_Moment_clear d Q 10 [some (.ref a0)] [] (sI τ x1 2 x0))) ∧
    (∀ (a0 : Nat) (τ : St), Ru M_Moment_clear d Q 10 [some (.ref a0)] [] τ = Ru M_Moment_clear d Q 11 [some (.ref a0)] [.ref a0] τ) ∧
    (∀ (a0 : Nat) (x0 : Nat) (τ : St), Ru M_Moment_clear d Q 11 [some (.ref a0)] [.ref x0] τ = Ru M_Moment_clear d Q 12 [some (.ref a0)] [.long 0, .ref x0] τ) ∧
    (∀ (a0 : Nat) (x0 : Int64) (x1 : Nat) (τ : St), Ru M_Moment_clear d Q 12 [some (.ref a0)] [.long x0, .ref x1] τ = (isA 1 x1 ∧ Ru M_Moment_clear d Q 15 [some (.ref a0)] [] (sL τ x1 3 x0))) ∧
    (∀ (a0 : Nat) (τ : St), Ru M_Moment_clear d Q 15 [some (.ref a0)] [] τ = Ru M_Moment_clear d Q 16 [some (.ref a0)] [.ref a0] τ) ∧
    (∀ (a0 : Nat) (x0 : Nat) (τ : St), Ru M_Moment_clear d Q 16 [some (.ref a0)] [.ref x0] τ = Ru M_Moment_clear d Q 17 [some (.ref a0)] [.int 0, .ref x0] τ) ∧
    (∀ (a0 : Nat) (x0 : Int32) (x1 : Nat) (τ : St), Ru M_Moment_clear d Q 17 [some (.ref a0)] [.int x0, .ref x1] τ = (isA 1 x1 ∧ Ru M_Moment_clear d Q 20 [some (.ref a0)] [] (sI τ x1 4 x0))) ∧
    (∀ (a0 : Nat) (τ : St), Ru M_Moment_clear d Q 20 [some (.ref a0)] [] τ = Ru M_Moment_clear d Q 21 [some (.ref a0)] [.ref a0] τ) ∧
    (∀ (a0 : Nat) (x0 : Nat) (τ : St), Ru M_Moment_clear d Q 21 [some (.ref a0)] [.ref x0] τ = Ru M_Moment_clear d Q 22 [some (.ref a0)] [.int 0, .ref x0] τ) ∧
    (∀ (a0 : Nat) (x0 : Int32) (x1 : Nat) (τ : St), Ru M_Moment_clear d Q 22 [some (.ref a0)] [.int x0, .ref x1] τ = (isA 1 x1 ∧ Ru M_Moment_clear d Q 25 [some (.ref a0)] [] (sI τ x1 5 x0))) ∧
    (∀ (a0 : Nat) (τ : St), Ru M_Moment_clear d Q 25 [some (.ref a0)] [] τ = Ru M_Moment_clear d Q 26 [some (.ref a0)] [.ref a0] τ) ∧
    (∀ (a0 : Nat) (x0 : Nat) (τ : St), Ru M_Moment_clear d Q 26 [some (.ref a0)] [.ref x0] τ = Ru M_Moment_clear d Q 27 [some (.ref a0)] [.int 0, .ref x0] τ) ∧
    (∀ (a0 : Nat) (x0 : Int32) (x1 : Nat) (τ : St), Ru M_Moment_clear d Q 27 [some (.ref a0)] [.int x0, .ref x1] τ = (isA 1 x1 ∧ Ru M_Moment_clear d Q 30 [some (.ref a0)] [] (sI τ x1 6 x0))) ∧
    (∀ (a0 : Nat) (τ : St), Ru M_Moment_clear d Q 30 [some (.ref a0)] [] τ = Ru M_Moment_clear d Q 31 [some (.ref a0)] [.ref a0] τ) ∧
    (∀ (a0 : Nat) (x0 : Nat) (τ : St), Ru M_Moment_clear d Q 31 [some (.ref a0)] [.ref x0] τ = Ru M_Moment_clear d Q 32 [some (.ref a0)] [.int 0, .ref x0] τ) ∧
    (∀ (a0 : Nat) (x0 : Int32) (x1 : Nat) (τ : St), Ru M_Moment_clear d Q 32 [some (.ref a0)] [.int x0, .ref x1] τ = (isA 1 x1 ∧ Ru M_Moment_clear d Q 35 [some (.ref a0)] [] (sI τ x1 7 x0))) ∧
    (∀ (a0 : Nat) (τ : St), Ru M_Moment_clear d Q 35 [some (.ref a0)] [] τ = Ru M_Moment_clear d Q 36 [some (.ref a0)] [.ref a0] τ) ∧
    (∀ (a0 : Nat) (x0 : Nat) (τ : St), Ru M_Moment_clear d Q 36 [some (.ref a0)] [.ref x0] τ = Ru M_Moment_clear d Q 37 [some (.ref a0)] [.int 0, .ref x0] τ) ∧
    (∀ (a0 : Nat) (x0 : Int32) (x1 : Nat) (τ : St), Ru M_Moment_clear d Q 37 [some (.ref a0)] [.int x0, .ref x1] τ = (isA 1 x1 ∧ Ru M_Moment_clear d Q 40 [some (.ref a0)] [] (sI τ x1 8 x0))) ∧
    (∀ (a0 : Nat) (τ : St), Ru M_Moment_clear d Q 40 [some (.ref a0)] [] τ = Q none τ) := ⟨
  fun _ _ => (R_at ok_Moment_clear rfl).trans (e_ald rfl),
  fun _ _ _ => (R_at ok_Moment_clear rfl).trans e_push,
  fun _ _ _ _ => (R_at ok_Moment_clear rfl).trans e_pI,
  fun _ _ => (R_at ok_Moment_clear rfl).trans (e_ald rfl),
  fun _ _ _ => (R_at ok_Moment_clear rfl).trans e_push,
  fun _ _ _ _ => (R_at ok_Moment_clear rfl).trans e_pI,
  fun _ _ => (R_at ok_Moment_clear rfl).trans (e_ald rfl),
  fun _ _ _ => (R_at ok_Moment_clear rfl).trans e_push,
  fun _ _ _ _ => (R_at ok_Moment_clear rfl).trans e_pL,
  fun _ _ => (R_at ok_Moment_clear rfl).trans (e_ald rfl),
  fun _ _ _ => (R_at ok_Moment_clear rfl).trans e_push,
  fun _ _ _ _ => (R_at ok_Moment_clear rfl).trans e_pI,
  fun _ _ => (R_at ok_Moment_clear rfl).trans (e_ald rfl),
  fun _ _ _ => (R_at ok_Moment_clear rfl).trans e_push,
  fun _ _ _ _ => (R_at ok_Moment_clear rfl).trans e_pI,
  fun _ _ => (R_at ok_Moment_clear rfl).trans (e_ald rfl),
  fun _ _ _ => (R_at ok_Moment_clear rfl).trans e_push,
  fun _ _ _ _ => (R_at ok_Moment_clear rfl).trans e_pI,
  fun _ _ => (R_at ok_Moment_clear rfl).trans (e_ald rfl),
  fun _ _ _ => (R_at ok_Moment_clear rfl).trans e_push,
  fun _ _ _ _ => (R_at ok_Moment_clear rfl).trans e_pI,
  fun _ _ => (R_at ok_Moment_clear rfl).trans (e_ald rfl),
  fun _ _ _ => (R_at ok_Moment_clear rfl).trans e_push,
  fun _ _ _ _ => (R_at ok_Moment_clear rfl).trans e_pI,
  fun _ _ => (R_at ok_Moment_clear rfl).trans e_vret⟩
set_option maxHeartbeats 4000000 in
theorem N_Moment_copy (d : Nat) (Q : Qt) : ∀ (x0 : Nat) (x1 : Nat) (τ : St), Cl (d + 1) m_Moment_copy [.ref x0, .ref x1] τ Q = Ru M_Moment_copy d Q 0 [some (.ref x0), some (.ref x1)] [] τ := fun _ _ _ => propext ⟨fun h => h.2, fun h => ⟨Nat.le_of_ble_eq_true rfl, h⟩⟩
set_option maxHeartbeats 4000000 in
theorem E_Moment_copy (d : Nat) (Q : Qt) :
    (∀ (a0 : Nat) (a1 : Nat) (τ : St), Ru M_Moment_copy d Q 0 [some (.ref a0), some (.ref a1)] [] τ = Ru M_Moment_copy d Q 1 [some (.ref a0), some (.ref a1)] [.ref a1] τ) ∧
    (∀ (a0 : Nat) (a1 : Nat) (x0 : Nat) (τ : St), Ru M_Moment_copy d Q 1 [some (.ref a0), some (.ref a1)] [.ref x0] τ = (isA 1 x0 ∧ Ru M_Moment_copy d Q 4 [some (.ref a0), some (.ref a1)] [.ref (rtab x0 0)] τ)) ∧
    (∀ (a0 : Nat) (a1 : Nat) (x0 : Nat) (τ : St), Ru M_Moment_copy d Q 4 [some (.ref a0), some (.ref a1)] [.ref x0] τ = Ru M_Moment_copy d Q 5 [some (.ref a0), some (.ref a1)] [.int 0, .ref x0] τ) ∧
    (∀ (a0 : Nat) (a1 : Nat) (x0 : Int32) (x1 : Nat) (τ : St), Ru M_Moment_copy d Q 5 [some (.ref a0), some (.ref a1)] [.int x0, .ref x1] τ = Ru M_Moment_copy d Q 6 [some (.ref a0), some (.ref a1)] [.ref a0, .int x0, .ref x1] τ) ∧
    (∀ (a0 : Nat) (a1 : Nat) (x0 : Nat) (x1 : Int32) (x2 : Nat) (τ : St), Ru M_Moment_copy d Q 6 [some (.ref a0), some (.ref a1)] [.ref x0, .int x1, .ref x2] τ = (isA 1 x0 ∧ Ru M_Moment_copy d Q 9 [some (.ref a0), some (.ref a1)] [.ref (rtab x0 0), .int x1, .ref x2] τ)) ∧
    (∀ (a0 : Nat) (a1 : Nat) (x0 : Nat) (x1 : Int32) (x2 : Nat) (τ : St), Ru M_Moment_copy d Q 9 [some (.ref a0), some (.ref a1)] [.ref x0, .int x1, .ref x2] τ = Ru M_Moment_copy d Q 10 [some (.ref a0), some (.ref a1)] [.int 0, .ref x0, .int x1, .ref x2] τ) ∧
    (∀ (a0 : Nat) (a1 : Nat) (x0 : Int32) (x1 : Nat) (x2 : Int32) (x3 : Nat) (τ : St), Ru M_Moment_copy d Q 10 [some (.ref a0), some (.ref a1)] [.int x0, .ref x1, .int x2, .ref x3] τ = Ru M_Moment_copy d Q 12 [some (.ref a0), some (.ref a1)] [.int 8, .int x0, .ref x1, .int x2, .ref x3] τ) ∧
    (∀ (a0 : Nat) (a1 : Nat) (x0 : Int32) (x1 : Int32) (x2 : Nat) (x3 : Int32) (x4 : Nat) (τ : St), Ru M_Moment_copy d Q 12 [some (.ref a0), some (.ref a1)] [.int x0, .int x1, .ref x2, .int x3, .ref x4] τ = (isA 14 x4 ∧ isA 14 x2 ∧ ¬ x3 < 0 ∧ ¬ x1 < 0 ∧ ¬ x0 < 0 ∧ x3.toNatClampNeg + x0.toNatClampNeg ≤ len x4 ∧ x1.toNatClampNeg + x0.toNatClampNeg ≤ len x2 ∧ Ru M_Moment_copy d Q 15 [some (.ref a0), some (.ref a1)] [] (sA τ x2 (va_cpy (τ.1 x4) (τ.1 x2) x3.toNatClampNeg x1.toNatClampNeg x0.toNatClampNeg)))) ∧
    (∀ (a0 : Nat) (a1 : Nat) (τ : St), Ru M_Moment_copy d Q 15 [some (.ref a0), some (.ref a1)] [] τ = Ru M_Moment_copy d Q 16 [some (.ref a0), some (.ref a1)] [.ref a0] τ) ∧
    (∀ (a0 : Nat) (a1 : Nat) (x0 : Nat) (τ : St), Ru M_Moment_copy d Q 16 [some (.ref a0), some (.ref a1)] [.ref x0] τ = Ru M_Moment_copy d Q 17 [some (.ref a0), some (.ref a1)] [.ref a1, .ref x0] τ) ∧
    (∀ (a0 : Nat) (a1 : Nat) (x0 : Nat) (x1 : Nat) (τ : St), Ru M_Moment_copy d Q 17 [some (.ref a0), some (.ref a1)] [.ref x0, .ref x1] τ = (isA 1 x0 ∧ Ru M_Moment_copy d Q 20 [some (.ref a0), some (.ref a1)] [.int (τ.1 x0 1), .ref x1] τ)) ∧
    (∀ (a0 : Nat) (a1 : Nat) (x0 : Int32) (x1 : Nat) (τ : St), Ru M_Moment_copy d Q 20 [some (.ref a0), some (.ref a1)] [.int x0, .ref x1] τ = (isA 1 x1 ∧ Ru M_Moment_copy d Q 23 [some (.ref a0), some (.ref a1)] [] (sI τ x1 1 x0))) ∧
    (∀ (a0 : Nat) (a1 : Nat) (τ : St), Ru M_Moment_copy d Q 23 [some (.ref a0), some (.ref a1)] [] τ = Ru M_Moment_copy d Q 24 [some (.ref a0), some (.ref a1)] [.ref a0] τ) ∧
    (∀ (a0 : Nat) (a1 : Nat) (x0 : Nat) (τ : St), Ru M_Moment_copy d Q 24 [some (.ref a0), some (.ref a1)] [.ref x0] τ = Ru M_Moment_copy d Q 25 [some (.ref a0), some (.ref a1)] [.ref a1, .ref x0] τ) ∧
    (∀ (a0 : Nat) (a1 : Nat) (x0 : Nat) (x1 : Nat) (τ : St), Ru M_Moment_copy d Q 25 [some (.ref a0), some (.ref a1)] [.ref x0, .ref x1] τ = (isA 1 x0 ∧ Ru M_Moment_copy d Q 28 [some (.ref a0), some (.ref a1)] [.int (τ.1 x0 2), .ref x1] τ)) ∧
    (∀ (a0 : Nat) (a1 : Nat) (x0 : Int32) (x1 : Nat) (τ : St), Ru M_Moment_copy d Q 28 [some (.ref a0), some (.ref a1)] [.int x0, .ref x1] τ = (isA 1 x1 ∧ Ru M_Moment_copy d Q 31 [some (.ref a0), some (.ref a1)] [] (sI τ x1 2 x0))) ∧
    (∀ (a0 : Nat) (a1 : Nat) (τ : St), Ru M_Moment_copy d Q 31 [some (.ref a0), some (.ref a1)] [] τ = Ru M_Moment_copy d Q 32 [some (.ref a0), some (.ref a1)] [.ref a0] τ) ∧
    (∀ (a0 : Nat) (a1 : Nat) (x0 : Nat) (τ : St), Ru M_Moment_copy d Q 32 [some (.ref a0), some (.ref a1)] [.ref x0] τ = Ru M_Moment_copy d Q 33 [some (.ref a0), some (.ref a1)] [.ref a1, .ref x0] τ) ∧
    (∀ (a0 : Nat) (a1 : Nat) (x0 : Nat) (x1 : Nat) (τ : St), Ru M_Moment_copy d Q 33 [some (.ref a0), some (.ref a1)] [.ref x0, .ref x1] τ = (isA 1 x0 ∧ Ru M_Moment_copy d Q 36 [some (.ref a0), some (.ref a1)] [.long (τ.2 x0 3), .ref x1] τ)) ∧
    (∀ (a0 : Nat) (a1 : Nat) (x0 : Int64) (x1 : Nat) (τ : St), Ru M_Moment_copy d Q 36 [some (.ref a0), some (.ref a1)] [.long x0, .ref x1] τ = (isA 1 x1 ∧ Ru M_Moment_copy d Q 39 [some (.ref a0), some (.ref a1)] [] (sL τ x1 3 x0))) ∧
    (∀ (a0 : Nat) (a1 : Nat) (τ : St), Ru M_Moment_copy d Q 39 [some (.ref a0), some (.ref a1)] [] τ = Ru M_Moment_copy d Q 40 [some (.ref a0), some (.ref a1)] [.ref a0] τ) ∧
    (∀ (a0 : Nat) (a1 : Nat) (x0 : Nat) (τ : St), Ru M_Moment_copy d Q 40 [some (.ref a0), some (.ref a1)] [.ref x0] τ = Ru M_Moment_copy d Q 41 [some (.ref a0), some (.ref a1)] [.ref a1, .ref x0] τ) ∧
    (∀ (a0 : Nat) (a1 : Nat) (x0 : Nat) (x1 : Nat) (τ : St), Ru M_Moment_copy d Q 41 [some (.ref a0), some (.ref a1)] [.ref x0, .ref x1] τ = (isA 1 x0 ∧ Ru M_Moment_copy d Q 44 [some (.ref a0), some (.ref a1)] [.int (τ.1 x0 4), .ref x1] τ)) ∧
    (∀ (a0 : Nat) (a1 : Nat) (x0 : Int32) (x1 : Nat) (τ : St), Ru M_Moment_copy d Q 44 [some (.ref a0), some (.ref a1)] [.int x0, .ref x1] τ = (isA 1 x1 ∧ Ru M_Moment_copy d Q 47 [some (.ref a0), some (.ref a1)] [] (sI τ x1 4 x0))) ∧
    (∀ (a0 : Nat) (a1 : Nat) (τ : St), Ru M_Moment_copy d Q 47 [some (.ref a0), some (.ref a1)] [] τ = Ru M_Moment_copy d Q 48 [some (.ref a0), some (.ref a1)] [.ref a0] τ) ∧
    (∀ (a0 : Nat) (a1 : Nat) (x0 : Nat) (τ : St), Ru M_Moment_copy d Q 48 [some (.ref a0), some (.ref a1)] [.ref x0] τ = Ru M_Moment_copy d Q 49 [some (.ref a0), some (.ref a1)] [.ref a1, .ref x0] τ) ∧
    (∀ (a0 : Nat) (a1 : Nat) (x0 : Nat) (x1 : Nat) (τ : St), Ru M_Moment_copy d Q 49 [some (.ref a0), some (.ref a1)] [.ref x0, .ref x1] τ = (isA 1 x0 ∧ Ru M_Moment_copy d Q 52 [some (.ref a0), some (.ref a1)] [.int (τ.1 x0 5), .ref x1] τ)) ∧
    (∀ (a0 : Nat) (a1 : Nat) (x0 : Int32) (x1 : Nat) (τ : St), Ru M_Moment_copy d Q 52 [some (.ref a0), some (.ref a1)] [.int x0, .ref x1] τ = (isA 1 x1 ∧ Ru M_Moment_copy d Q 55 [some (.ref a0), some (.ref a1)] [] (sI τ x1 5 x0))) ∧
    (∀ (a0 : Nat) (a1 : Nat) (τ : St), Ru M_Moment_copy d Q 55 [some (.ref a0), some (.ref a1)] [] τ = Ru M_Moment_copy d Q 56 [some (.ref a0), some (.ref a1)] [.ref a0] τ) ∧
    (∀ (a0 : Nat) (a1 : Nat) (x0 : Nat) (τ : St), Ru M_Moment_copy d Q 56 [some (.ref a0), some (.ref a1)] [.ref x0] τ = Ru M_Moment_copy d Q 57 [some (.ref a0), some (.ref a1)] [.ref a1, .ref x0] τ) ∧
    (∀ (a0 : Nat) (a1 : Nat) (x0 : Nat) (x1 : Nat) (τ : St), Ru M_Moment_copy d Q 57 [some (.ref a0), some (.ref a1)] [.ref x0, .ref x1] τ = (isA 1 x0 ∧ Ru M_Moment_copy d Q 60 [some (.ref a0), some (.ref a1)] [.int (τ.1 x0 6), .ref x1] τ)) ∧
    (∀ (a0 : Nat) (a1 : Nat) (x0 : Int32) (x1 : Nat) (τ : St), Ru M_Moment_copy d Q 60 [some (.ref a0), some (.ref a1)] [.int x0, .ref x1] τ = (isA 1 x1 ∧ Ru M_Moment_copy d Q 63 [some (.ref a0), some (.ref a1)] [] (sI τ x1 6 x0))) ∧
    (∀ (a0 : Nat) (a1 : Nat) (τ : St), Ru M_Moment_copy d Q 63 [some (.ref a0), some (.ref a1)] [] τ = Ru M_Moment_copy d Q 64 [some (.ref a0), some (.ref a1)] [.ref a0] τ) ∧
    (∀ (a0 : Nat) (a1 : Nat) (x0 : Nat) (τ : St), Ru M_Moment_copy d Q 64 [some (.ref a0), some (.ref a1)] [.ref x0] τ = Ru M_Moment_copy d Q 65 [some (.ref a0), some (.ref a1)] [.ref a1, .ref x0] τ) ∧
    (∀ (a0 : Nat) (a1 : Nat) (x0 : Nat) (x1 : Nat) (τ : St), Ru M_Moment_copy d Q 65 [some (.ref a0), some (.ref a1)] [.ref x0, .ref x1] τ = (isA 1 x0 ∧ Ru M_Moment_copy d Q 68 [some (.ref a0), some (.ref a1)] [.int (τ.1 x0 7), .ref x1] τ)) ∧
    (∀ (a0 : Nat) (a1 : Nat) (x0 : Int32) (x1 : Nat) (τ : St), Ru M_Moment_copy d Q 68 [some (.ref a0), some (.ref a1)] [.int x0, .ref x1] τ = (isA 1 x1 ∧ Ru M_Moment_copy d Q 71 [some (.ref a0), some (.ref a1)] [] (sI τ x1 7 x0))) ∧
    (∀ (a0 : Nat) (a1 : Nat) (τ : St), Ru M_Moment_copy d Q 71 [some (.ref a0), some (.ref a1)] [] τ = Ru M_Moment_copy d Q 72 [some (.ref a0), some (.ref a1)] [.ref a0] τ) ∧
    (∀ (a0 : Nat) (a1 : Nat) (x0 : Nat) (τ : St), Ru M_Moment_copy d Q 72 [some (.ref a0), some (.ref a1)] [.ref x0] τ = Ru M_Moment_copy d Q 73 [some (.ref a0), some (.ref a1)] [.ref a1, .ref x0] τ) ∧
    (∀ (a0 : Nat) (a1 : Nat) (x0 : Nat) (x1 : Nat) (τ : St), Ru M_Moment_copy d Q 73 [some (.ref a0), some (.ref a1)] [.ref x0, .ref x1] τ = (isA 1 x0 ∧ Ru M_Moment_copy d Q 76 [some (.ref a0), some (.ref a1)] [.int (τ.1 x0 8), .ref x1] τ)) ∧
    (∀ (a0 : Nat) (a1 : Nat) (x0 : Int32) (x1 : Nat) (τ : St), Ru M_Moment_copy d Q 76 [some (.ref a0), some (.ref a1)] [.int x0, .ref x1] τ = (isA 1 x1 ∧ Ru M_Moment_copy d Q 79 [some (.ref a0), some (.ref a1)] [] (sI τ x1 8 x0))) ∧
    (∀ (a0 : Nat) (a1 : Nat) (τ : St), Ru M_Moment_copy d Q 79 [some (.ref a0), some (.ref a1)] [] τ = Q none τ) := ⟨
  fun _ _ _ => (R_at ok_Moment_copy rfl).trans (e_ald rfl),
  fun _ _ _ _ => (R_at ok_Moment_copy rfl).trans e_gR,
  fun _ _ _ _ => (R_at ok_Moment_copy rfl).trans e_push,
  fun _ _ _ _ _ => (R_at ok_Moment_copy rfl).trans (e_ald rfl),
  fun _ _ _ _ _ _ => (R_at ok_Moment_copy rfl).trans e_gR,
  fun _ _ _ _ _ _ => (R_at ok_Moment_copy rfl).trans e_push,
  fun _ _ _ _ _ _ _ => (R_at ok_Moment_copy rfl).trans e_push,
  fun _ _ _ _ _ _ _ _ => (R_at ok_Moment_copy rfl).trans (e_cpy rfl),
  fun _ _ _ => (R_at ok_Moment_copy rfl).trans (e_ald rfl),
  fun _ _ _ _ => (R_at ok_Moment_copy rfl).trans (e_ald rfl),
  fun _ _ _ _ _ => (R_at ok_Moment_copy rfl).trans e_gI,
  fun _ _ _ _ _ => (R_at ok_Moment_copy rfl).trans e_pI,
  fun _ _ _ => (R_at ok_Moment_copy rfl).trans (e_ald rfl),
  fun _ _ _ _ => (R_at ok_Moment_copy rfl).trans (e_ald rfl),
  fun _ _ _ _ _ => (R_at ok_Moment_copy rfl).trans e_gI,
  fun _ _ _ _ _ => (R_at ok_Moment_copy rfl).trans e_pI,
  fun _ _ _ => (R_at ok_Moment_copy rfl).trans (e_ald rfl),
  fun _ _ _ _ => (R_at ok_Moment_copy rfl).trans (e_ald rfl),
  fun _ _ _ _ _ => (R_at ok_Moment_copy rfl).trans e_gL,
  fun _ _ _ _ _ => (R_at ok_Moment_copy rfl).trans e_pL,
  fun _ _ _ => (R_at ok_Moment_copy rfl).trans (e_ald rfl),
  fun _ _ _ _ => (R_at ok_Moment_copy rfl).trans (e_ald rfl),
  fun _ _ _ _ _ => (R_at ok_Moment_copy rfl).trans e_gI,
  fun _ _ _ _ _ => (R_at ok_Moment_copy rfl).trans e_pI,
  fun _ _ _ => (R_at ok_Moment_copy rfl).trans (e_ald rfl),
  fun _ _ _ _ => (R_at ok_Moment_copy rfl).trans (e_ald rfl),
  fun _ _ _ _ _ => (R_at ok_Moment_copy rfl).trans e_gI,
  fun _ _ _ _ _ => (R_at ok_Moment_copy rfl).trans e_pI,
  fun _ _ _ => (R_at ok_Moment_copy rfl).trans (e_ald rfl),
  fun _ _ _ _ => (R_at ok_Moment_copy rfl).trans (e_ald rfl),
  fun _ _ _ _ _ => (R_at ok_Moment_copy rfl).trans e_gI,
  fun _ _ _ _ _ => (R_at ok_Moment_copy rfl).trans e_pI,
  fun _ _ _ => (R_at ok_Moment_copy rfl).trans (e_ald rfl),
  fun _ _ _ _ => (R_at ok_Moment_copy rfl).trans (e_ald rfl),
  fun _ _ _ _ _ => (R_at ok_Moment_copy rfl).trans e_gI,
  fun _ _ _ _ _ => (R_at ok_Moment_copy rfl).trans e_pI,
  fun _ _ _ => (R_at ok_Moment_copy rfl).trans (e_ald rfl),
  fun _ _ _ _ => (R_at ok_Moment_copy rfl).trans (e_ald rfl),
  fun _ _ _ _ _ => (R_at ok_Moment_copy rfl).trans e_gI,
  fun _ _ _ _ _ => (R_at ok_Moment_copy rfl).trans e_pI,
  fun _ _ _ => (R_at ok_Moment_copy rfl).trans e_vret⟩
set_option maxHeartbeats 4000000 in
theorem N_Moment_put (d : Nat) (Q : Qt) : ∀ (x0 : Nat) (x1 : Int32) (x2 : Int32) (τ : St), Cl (d + 1) m_Moment_put [.ref x0, .int x1, .int x2] τ Q = Ru M_Moment_put d Q 0 [some (.ref x0), some (.int x1), some (.int x2)] [] τ := fun _ _ _ _ => propext ⟨fun h => h.2, fun h => ⟨Nat.le_of_ble_eq_true rfl, h⟩⟩
set_option maxHeartbeats 4000000 in
theorem E_Moment_put (d : Nat) (Q : Qt) :
    (∀ (a0 : Nat) (a1 : Int32) (a2 : Int32) (τ : St), Ru M_Moment_put d Q 0 [some (.ref a0), some (.int a1), some (.int a2)] [] τ = Ru M_Moment_put d Q 1 [some (.ref a0), some (.int a1), some (.int a2)] [.int a1] τ) ∧
    (∀ (a0 : Nat) (a1 : Int32) (a2 : Int32) (x0 : Int32) (τ : St), Ru M_Moment_put d Q 1 [some (.ref a0), some (.int a1), some (.int a2)] [.int x0] τ = ((x0 < 0 → Ru M_Moment_put d Q 17 [some (.ref a0), some (.int a1), some (.int a2)] [] τ) ∧ (¬ x0 < 0 → Ru M_Moment_put d Q 4 [some (.ref a0), some (.int a1), some (.int a2)] [] τ))) ∧
    (∀ (a0 : Nat) (a1 : Int32) (a2 : Int32) (τ : St), Ru M_Moment_put d Q 4 [some (.ref a0), some (.int a1), some (.int a2)] [] τ = Ru M_Moment_put d Q 5 [some (.ref a0), some (.int a1), some (.int a2)] [.int a1] τ) ∧
    (∀ (a0 : Nat) (a1 : Int32) (a2 : Int32) (x0 : Int32) (τ : St), Ru M_Moment_put d Q 5 [some (.ref a0), some (.int a1), some (.int a2)] [.int x0] τ = Ru M_Moment_put d Q 7 [some (.ref a0), some (.int a1), some (.int a2)] [.int 8, .int x0] τ) ∧
    (∀ (a0 : Nat) (a1 : Int32) (a2 : Int32) (x0 : Int32) (x1 : Int32) (τ : St), Ru M_Moment_put d Q 7 [some (.ref a0), some (.int a1), some (.int a2)] [.int x0, .int x1] τ = ((x0 ≤ x1 → Ru M_Moment_put d Q 17 [some (.ref a0), some (.int a1), some (.int a2)] [] τ) ∧ (¬ x0 ≤ x1 → Ru M_Moment_put d Q 10 [some (.ref a0), some (.int a1), some (.int a2)] [] τ))) ∧
    (∀ (a0 : Nat) (a1 : Int32) (a2 : Int32) (τ : St), Ru M_Moment_put d Q 10 [some (.ref a0), some (.int a1), some (.int a2)] [] τ = Ru M_Moment_put d Q 11 [some (.ref a0), some (.int a1), some (.int a2)] [.ref a0] τ) ∧
    (∀ (a0 : Nat) (a1 : Int32) (a2 : Int32) (x0 : Nat) (τ : St), Ru M_Moment_put d Q 11 [some (.ref a0), some (.int a1), some (.int a2)] [.ref x0] τ = (isA 1 x0 ∧ Ru M_Moment_put d Q 14 [some (.ref a0), some (.int a1), some (.int a2)] [.ref (rtab x0 0)] τ)) ∧
    (∀ (a0 : Nat) (a1 : Int32) (a2 : Int32) (x0 : Nat) (τ : St), Ru M_Moment_put d Q 14 [some (.ref a0), some (.int a1), some (.int a2)] [.ref x0] τ = Ru M_Moment_put d Q 15 [some (.ref a0), some (.int a1), some (.int a2)] [.int a1, .ref x0] τ) ∧
    (∀ (a0 : Nat) (a1 : Int32) (a2 : Int32) (x0 : Int32) (x1 : Nat) (τ : St), Ru M_Moment_put d Q 15 [some (.ref a0), some (.int a1), some (.int a2)] [.int x0, .ref x1] τ = Ru M_Moment_put d Q 16 [some (.ref a0), some (.int a1), some (.int a2)] [.int a2, .int x0, .ref x1] τ) ∧
    (∀ (a0 : Nat) (a1 : Int32) (a2 : Int32) (x0 : Int32) (x1 : Int32) (x2 : Nat) (τ : St), Ru M_Moment_put d Q 16 [some (.ref a0), some (.int a1), some (.int a2)] [.int x0, .int x1, .ref x2] τ = (isA 14 x2 ∧ vp_in x1 (len x2) ∧ Ru M_Moment_put d Q 17 [some (.ref a0), some (.int a1), some (.int a2)] [] (sI τ x2 x1.toNatClampNeg (x0)))) ∧
    (∀ (a0 : Nat) (a1 : Int32) (a2 : Int32) (τ : St), Ru M_Moment_put d Q 17 [some (.ref a0), some (.int a1), some (.int a2)] [] τ = Q none τ) := ⟨
  fun _ _ _ _ => (R_at ok_Moment_put rfl).trans (e_ild rfl),
  fun _ _ _ _ _ => (R_at ok_Moment_put rfl).trans e_if,
  fun _ _ _ _ => (R_at ok_Moment_put rfl).trans (e_ild rfl),
  fun _ _ _ _ _ => (R_at ok_Moment_put rfl).trans e_push,
  fun _ _ _ _ _ _ => (R_at ok_Moment_put rfl).trans e_ic,
  fun _ _ _ _ => (R_at ok_Moment_put rfl).trans (e_ald rfl),
  fun _ _ _ _ _ => (R_at ok_Moment_put rfl).trans e_gR,
  fun _ _ _ _ _ => (R_at ok_Moment_put rfl).trans (e_ild rfl),
  fun _ _ _ _ _ _ => (R_at ok_Moment_put rfl).trans (e_ild rfl),
  fun _ _ _ _ _ _ _ => (R_at ok_Moment_put rfl).trans e_as,
  fun _ _ _ _ => (R_at ok_Moment_put rfl).trans e_vret⟩
set_option maxHeartbeats 4000000 in
theorem N_Moment_placeOf (d : Nat) (Q : Qt) : ∀ (x0 : Nat) (x1 : Int32) (τ : St), Cl (d + 1) m_Moment_placeOf [.ref x0, .int x1] τ Q = Ru M_Moment_placeOf d Q 0 [some (.ref x0), some (.int x1)] [] τ := fun _ _ _ => propext ⟨fun h => h.2, fun h => ⟨Nat.le_of_ble_eq_true rfl, h⟩⟩
set_option maxHeartbeats 4000000 in
theorem E_Moment_placeOf (d : Nat) (Q : Qt) :
    (∀ (a0 : Nat) (a1 : Int32) (τ : St), Ru M_Moment_placeOf d Q 0 [some (.ref a0), some (.int a1)] [] τ = Ru M_Moment_placeOf d Q 1 [some (.ref a0), some (.int a1)] [.int a1] τ) ∧
    (∀ (a0 : Nat) (a1 : Int32) (x0 : Int32) (τ : St), Ru M_Moment_placeOf d Q 1 [some (.ref a0), some (.int a1)] [.int x0] τ = ((x0 < 0 → Ru M_Moment_placeOf d Q 19 [some (.ref a0), some (.int a1)] [] τ) ∧ (¬ x0 < 0 → Ru M_Moment_placeOf d Q 4 [some (.ref a0), some (.int a1)] [] τ))) ∧
    (∀ (a0 : Nat) (a1 : Int32) (τ : St), Ru M_Moment_placeOf d Q 4 [some (.ref a0), some (.int a1)] [] τ = Ru M_Moment_placeOf d Q 5 [some (.ref a0), some (.int a1)] [.int a1] τ) ∧
    (∀ (a0 : Nat) (a1 : Int32) (x0 : Int32) (τ : St), Ru M_Moment_placeOf d Q 5 [some (.ref a0), some (.int a1)] [.int x0] τ = Ru M_Moment_placeOf d Q 7 [some (.ref a0), some (.int a1)] [.int 8, .int x0] τ) ∧
    (∀ (a0 : Nat) (a1 : Int32) (x0 : Int32) (x1 : Int32) (τ : St), Ru M_Moment_placeOf d Q 7 [some (.ref a0), some (.int a1)] [.int x0, .int x1] τ = ((x0 ≤ x1 → Ru M_Moment_placeOf d Q 19 [some (.ref a0), some (.int a1)] [] τ) ∧ (¬ x0 ≤ x1 → Ru M_Moment_placeOf d Q 10 [some (.ref a0), some (.int a1)] [] τ))) ∧
    (∀ (a0 : Nat) (a1 : Int32) (τ : St), Ru M_Moment_placeOf d Q 10 [some (.ref a0), some (.int a1)] [] τ = Ru M_Moment_placeOf d Q 11 [some (.ref a0), some (.int a1)] [.ref a0] τ) ∧
    (∀ (a0 : Nat) (a1 : Int32) (x0 : Nat) (τ : St), Ru M_Moment_placeOf d Q 11 [some (.ref a0), some (.int a1)] [.ref x0] τ = (isA 1 x0 ∧ Ru M_Moment_placeOf d Q 14 [some (.ref a0), some (.int a1)] [.ref (rtab x0 0)] τ)) ∧
    (∀ (a0 : Nat) (a1 : Int32) (x0 : Nat) (τ : St), Ru M_Moment_placeOf d Q 14 [some (.ref a0), some (.int a1)] [.ref x0] τ = Ru M_Moment_placeOf d Q 15 [some (.ref a0), some (.int a1)] [.int a1, .ref x0] τ) ∧
    (∀ (a0 : Nat) (a1 : Int32) (x0 : Int32) (x1 : Nat) (τ : St), Ru M_Moment_placeOf d Q 15 [some (.ref a0), some (.int a1)] [.int x0, .ref x1] τ = (isA 14 x1 ∧ vp_in x0 (len x1) ∧ Ru M_Moment_placeOf d Q 16 [some (.ref a0), some (.int a1)] [.int (τ.1 x1 x0.toNatClampNeg)] τ)) ∧
    (∀ (a0 : Nat) (a1 : Int32) (x0 : Int32) (τ : St), Ru M_Moment_placeOf d Q 16 [some (.ref a0), some (.int a1)] [.int x0] τ = Ru M_Moment_placeOf d Q 20 [some (.ref a0), some (.int a1)] [.int x0] τ) ∧
    (∀ (a0 : Nat) (a1 : Int32) (τ : St), Ru M_Moment_placeOf d Q 19 [some (.ref a0), some (.int a1)] [] τ = Ru M_Moment_placeOf d Q 20 [some (.ref a0), some (.int a1)] [.int (-1)] τ) ∧
    (∀ (a0 : Nat) (a1 : Int32) (x0 : Int32) (τ : St), Ru M_Moment_placeOf d Q 20 [some (.ref a0), some (.int a1)] [.int x0] τ = Q (some (.int x0)) τ) := ⟨
  fun _ _ _ => (R_at ok_Moment_placeOf rfl).trans (e_ild rfl),
  fun _ _ _ _ => (R_at ok_Moment_placeOf rfl).trans e_if,
  fun _ _ _ => (R_at ok_Moment_placeOf rfl).trans (e_ild rfl),
  fun _ _ _ _ => (R_at ok_Moment_placeOf rfl).trans e_push,
  fun _ _ _ _ _ => (R_at ok_Moment_placeOf rfl).trans e_ic,
  fun _ _ _ => (R_at ok_Moment_placeOf rfl).trans (e_ald rfl),
  fun _ _ _ _ => (R_at ok_Moment_placeOf rfl).trans e_gR,
  fun _ _ _ _ => (R_at ok_Moment_placeOf rfl).trans (e_ild rfl),
  fun _ _ _ _ _ => (R_at ok_Moment_placeOf rfl).trans e_al,
  fun _ _ _ _ => (R_at ok_Moment_placeOf rfl).trans e_goto,
  fun _ _ _ => (R_at ok_Moment_placeOf rfl).trans e_push,
  fun _ _ _ _ => (R_at ok_Moment_placeOf rfl).trans e_iret⟩
set_option maxHeartbeats 4000000 in
theorem N_Moment_wasDragged (d : Nat) (Q : Qt) : ∀ (x0 : Nat) (x1 : Int32) (τ : St), Cl (d + 1) m_Moment_wasDragged [.ref x0, .int x1] τ Q = Ru M_Moment_wasDragged d Q 0 [some (.ref x0), some (.int x1)] [] τ := fun _ _ _ => propext ⟨fun h => h.2, fun h => ⟨Nat.le_of_ble_eq_true rfl, h⟩⟩
set_option maxHeartbeats 4000000 in
theorem E_Moment_wasDragged (d : Nat) (Q : Qt) :
    (∀ (a0 : Nat) (a1 : Int32) (τ : St), Ru M_Moment_wasDragged d Q 0 [some (.ref a0), some (.int a1)] [] τ = Ru M_Moment_wasDragged d Q 1 [some (.ref a0), some (.int a1)] [.ref a0] τ) ∧
    (∀ (a0 : Nat) (a1 : Int32) (x0 : Nat) (τ : St), Ru M_Moment_wasDragged d Q 1 [some (.ref a0), some (.int a1)] [.ref x0] τ = (isA 1 x0 ∧ Ru M_Moment_wasDragged d Q 4 [some (.ref a0), some (.int a1)] [.int (τ.1 x0 2)] τ)) ∧
    (∀ (a0 : Nat) (a1 : Int32) (x0 : Int32) (τ : St), Ru M_Moment_wasDragged d Q 4 [some (.ref a0), some (.int a1)] [.int x0] τ = Ru M_Moment_wasDragged d Q 5 [some (.ref a0), some (.int a1)] [.int a1, .int x0] τ) ∧
    (∀ (a0 : Nat) (a1 : Int32) (x0 : Int32) (x1 : Int32) (τ : St), Ru M_Moment_wasDragged d Q 5 [some (.ref a0), some (.int a1)] [.int x0, .int x1] τ = Ru M_Moment_wasDragged d Q 6 [some (.ref a0), some (.int a1)] [.int ((x1.toUInt32 >>> (x0.toUInt32 &&& Int32.toUInt32 31)).toInt32)] τ) ∧
    (∀ (a0 : Nat) (a1 : Int32) (x0 : Int32) (τ : St), Ru M_Moment_wasDragged d Q 6 [some (.ref a0), some (.int a1)] [.int x0] τ = Ru M_Moment_wasDragged d Q 7 [some (.ref a0), some (.int a1)] [.int 1, .int x0] τ) ∧
    (∀ (a0 : Nat) (a1 : Int32) (x0 : Int32) (x1 : Int32) (τ : St), Ru M_Moment_wasDragged d Q 7 [some (.ref a0), some (.int a1)] [.int x0, .int x1] τ = Ru M_Moment_wasDragged d Q 8 [some (.ref a0), some (.int a1)] [.int (x1 &&& x0)] τ) ∧
    (∀ (a0 : Nat) (a1 : Int32) (x0 : Int32) (τ : St), Ru M_Moment_wasDragged d Q 8 [some (.ref a0), some (.int a1)] [.int x0] τ = ((x0 = 0 → Ru M_Moment_wasDragged d Q 15 [some (.ref a0), some (.int a1)] [] τ) ∧ (¬ x0 = 0 → Ru M_Moment_wasDragged d Q 11 [some (.ref a0), some (.int a1)] [] τ))) ∧
    (∀ (a0 : Nat) (a1 : Int32) (τ : St), Ru M_Moment_wasDragged d Q 11 [some (.ref a0), some (.int a1)] [] τ = Ru M_Moment_wasDragged d Q 12 [some (.ref a0), some (.int a1)] [.int 1] τ) ∧
    (∀ (a0 : Nat) (a1 : Int32) (x0 : Int32) (τ : St), Ru M_Moment_wasDragged d Q 12 [some (.ref a0), some (.int a1)] [.int x0] τ = Ru M_Moment_wasDragged d Q 16 [some (.ref a0), some (.int a1)] [.int x0] τ) ∧
    (∀ (a0 : Nat) (a1 : Int32) (τ : St), Ru M_Moment_wasDragged d Q 15 [some (.ref a0), some (.int a1)] [] τ = Ru M_Moment_wasDragged d Q 16 [some (.ref a0), some (.int a1)] [.int 0] τ) ∧
    (∀ (a0 : Nat) (a1 : Int32) (x0 : Int32) (τ : St), Ru M_Moment_wasDragged d Q 16 [some (.ref a0), some (.int a1)] [.int x0] τ = ((x0 = 0 ∨ x0 = 1) ∧ Q (some (.int x0)) τ)) := ⟨
  fun _ _ _ => (R_at ok_Moment_wasDragged rfl).trans (e_ald rfl),
  fun _ _ _ _ => (R_at ok_Moment_wasDragged rfl).trans e_gI,
  fun _ _ _ _ => (R_at ok_Moment_wasDragged rfl).trans (e_ild rfl),
  fun _ _ _ _ _ => (R_at ok_Moment_wasDragged rfl).trans e_bin,
  fun _ _ _ _ => (R_at ok_Moment_wasDragged rfl).trans e_push,
  fun _ _ _ _ _ => (R_at ok_Moment_wasDragged rfl).trans e_bin,
  fun _ _ _ _ => (R_at ok_Moment_wasDragged rfl).trans e_if,
  fun _ _ _ => (R_at ok_Moment_wasDragged rfl).trans e_push,
  fun _ _ _ _ => (R_at ok_Moment_wasDragged rfl).trans e_goto,
  fun _ _ _ => (R_at ok_Moment_wasDragged rfl).trans e_push,
  fun _ _ _ _ => (R_at ok_Moment_wasDragged rfl).trans e_zret⟩
set_option maxHeartbeats 4000000 in
theorem N_Moment_planksAt (d : Nat) (Q : Qt) : ∀ (x0 : Nat) (x1 : Int32) (τ : St), Cl (d + 1) m_Moment_planksAt [.ref x0, .int x1] τ Q = Ru M_Moment_planksAt d Q 0 [some (.ref x0), some (.int x1)] [] τ := fun _ _ _ => propext ⟨fun h => h.2, fun h => ⟨Nat.le_of_ble_eq_true rfl, h⟩⟩
set_option maxHeartbeats 4000000 in
theorem E_Moment_planksAt (d : Nat) (Q : Qt) :
    (∀ (a0 : Nat) (a1 : Int32) (τ : St), Ru M_Moment_planksAt d Q 0 [some (.ref a0), some (.int a1)] [] τ = Ru M_Moment_planksAt d Q 1 [some (.ref a0), some (.int a1)] [.ref a0] τ) ∧
    (∀ (a0 : Nat) (a1 : Int32) (x0 : Nat) (τ : St), Ru M_Moment_planksAt d Q 1 [some (.ref a0), some (.int a1)] [.ref x0] τ = (isA 1 x0 ∧ Ru M_Moment_planksAt d Q 4 [some (.ref a0), some (.int a1)] [.long (τ.2 x0 3)] τ)) ∧
    (∀ (a0 : Nat) (a1 : Int32) (x0 : Int64) (τ : St), Ru M_Moment_planksAt d Q 4 [some (.ref a0), some (.int a1)] [.long x0] τ = Ru M_Moment_planksAt d Q 5 [some (.ref a0), some (.int a1)] [.int a1, .long x0] τ) ∧
    (∀ (a0 : Nat) (a1 : Int32) (x0 : Int32) (x1 : Int64) (τ : St), Ru M_Moment_planksAt d Q 5 [some (.ref a0), some (.int a1)] [.int x0, .long x1] τ = Ru M_Moment_planksAt d Q 6 [some (.ref a0), some (.int a1)] [.long ((x1.toUInt64 >>> (x0.toInt64.toUInt64 &&& Int64.toUInt64 63)).toInt64)] τ) ∧
    (∀ (a0 : Nat) (a1 : Int32) (x0 : Int64) (τ : St), Ru M_Moment_planksAt d Q 6 [some (.ref a0), some (.int a1)] [.long x0] τ = Ru M_Moment_planksAt d Q 7 [some (.ref a0), some (.int a1)] [.long 1, .long x0] τ) ∧
    (∀ (a0 : Nat) (a1 : Int32) (x0 : Int64) (x1 : Int64) (τ : St), Ru M_Moment_planksAt d Q 7 [some (.ref a0), some (.int a1)] [.long x0, .long x1] τ = Ru M_Moment_planksAt d Q 8 [some (.ref a0), some (.int a1)] [.long (x1 &&& x0)] τ) ∧
    (∀ (a0 : Nat) (a1 : Int32) (x0 : Int64) (τ : St), Ru M_Moment_planksAt d Q 8 [some (.ref a0), some (.int a1)] [.long x0] τ = Ru M_Moment_planksAt d Q 9 [some (.ref a0), some (.int a1)] [.int x0.toInt32] τ) ∧
    (∀ (a0 : Nat) (a1 : Int32) (x0 : Int32) (τ : St), Ru M_Moment_planksAt d Q 9 [some (.ref a0), some (.int a1)] [.int x0] τ = Q (some (.int x0)) τ) := ⟨
  fun _ _ _ => (R_at ok_Moment_planksAt rfl).trans (e_ald rfl),
  fun _ _ _ _ => (R_at ok_Moment_planksAt rfl).trans e_gL,
  fun _ _ _ _ => (R_at ok_Moment_planksAt rfl).trans (e_ild rfl),
  fun _ _ _ _ _ => (R_at ok_Moment_planksAt rfl).trans e_lsh,
  fun _ _ _ _ => (R_at ok_Moment_planksAt rfl).trans e_push,
  fun _ _ _ _ _ => (R_at ok_Moment_planksAt rfl).trans e_lbin,
  fun _ _ _ _ => (R_at ok_Moment_planksAt rfl).trans e_li,
  fun _ _ _ _ => (R_at ok_Moment_planksAt rfl).trans e_iret⟩
set_option maxHeartbeats 4000000 in
theorem N_Moment_shipsAt (d : Nat) (Q : Qt) : ∀ (x0 : Nat) (x1 : Int32) (τ : St), Cl (d + 1) m_Moment_shipsAt [.ref x0, .int x1] τ Q = Ru M_Moment_shipsAt d Q 0 [some (.ref x0), some (.int x1), none, none] [] τ := fun _ _ _ => propext ⟨fun h => h.2, fun h => ⟨Nat.le_of_ble_eq_true rfl, h⟩⟩
set_option maxHeartbeats 4000000 in
theorem E_Moment_shipsAt (d : Nat) (Q : Qt) :
    (∀ (a0 : Nat) (a1 : Int32) (τ : St), Ru M_Moment_shipsAt d Q 0 [some (.ref a0), some (.int a1), none, none] [] τ = Ru M_Moment_shipsAt d Q 1 [some (.ref a0), some (.int a1), none, none] [.int 0] τ) ∧
    (∀ (a0 : Nat) (a1 : Int32) (x0 : Int32) (τ : St), Ru M_Moment_shipsAt d Q 1 [some (.ref a0), some (.int a1), none, none] [.int x0] τ = Ru M_Moment_shipsAt d Q 2 [some (.ref a0), some (.int a1), some (.int x0), none] [] τ) ∧
    (∀ (a0 : Nat) (a1 : Int32) (a2 : Int32) (τ : St), Ru M_Moment_shipsAt d Q 2 [some (.ref a0), some (.int a1), some (.int a2), none] [] τ = Ru M_Moment_shipsAt d Q 3 [some (.ref a0), some (.int a1), some (.int a2), none] [.int 0] τ) ∧
    (∀ (a0 : Nat) (a1 : Int32) (a2 : Int32) (x0 : Int32) (τ : St), Ru M_Moment_shipsAt d Q 3 [some (.ref a0), some (.int a1), some (.int a2), none] [.int x0] τ = Rs M_Moment_shipsAt d Q 4 [some (.ref a0), some (.int a1), some (.int a2), some (.int x0)] [] τ) ∧
    (∀ (a0 : Nat) (a1 : Int32) (a2 : Int32) (a3 : Int32) (τ : St), Ru M_Moment_shipsAt d Q 4 [some (.ref a0), some (.int a1), some (.int a2), some (.int a3)] [] τ = Ru M_Moment_shipsAt d Q 5 [some (.ref a0), some (.int a1), some (.int a2), some (.int a3)] [.int a3] τ) ∧
    (∀ (a0 : Nat) (a1 : Int32) (a2 : Int32) (a3 : Int32) (x0 : Int32) (τ : St), Ru M_Moment_shipsAt d Q 5 [some (.ref a0), some (.int a1), some (.int a2), some (.int a3)] [.int x0] τ = Ru M_Moment_shipsAt d Q 6 [some (.ref a0), some (.int a1), some (.int a2), some (.int a3)] [.ref a0, .int x0] τ) ∧
    (∀ (a0 : Nat) (a1 : Int32) (a2 : Int32) (a3 : Int32) (x0 : Nat) (x1 : Int32) (τ : St), Ru M_Moment_shipsAt d Q 6 [some (.ref a0), some (.int a1), some (.int a2), some (.int a3)] [.ref x0, .int x1] τ = (isA 1 x0 ∧ Ru M_Moment_shipsAt d Q 9 [some (.ref a0), some (.int a1), some (.int a2), some (.int a3)] [.int (τ.1 x0 1), .int x1] τ)) ∧
    (∀ (a0 : Nat) (a1 : Int32) (a2 : Int32) (a3 : Int32) (x0 : Int32) (x1 : Int32) (τ : St), Ru M_Moment_shipsAt d Q 9 [some (.ref a0), some (.int a1), some (.int a2), some (.int a3)] [.int x0, .int x1] τ = ((x0 ≤ x1 → Ru M_Moment_shipsAt d Q 40 [some (.ref a0), some (.int a1), some (.int a2), some (.int a3)] [] τ) ∧ (¬ x0 ≤ x1 → Ru M_Moment_shipsAt d Q 12 [some (.ref a0), some (.int a1), some (.int a2), some (.int a3)] [] τ))) ∧
    (∀ (a0 : Nat) (a1 : Int32) (a2 : Int32) (a3 : Int32) (τ : St), Ru M_Moment_shipsAt d Q 12 [some (.ref a0), some (.int a1), some (.int a2), some (.int a3)] [] τ = Ru M_Moment_shipsAt d Q 13 [some (.ref a0), some (.int a1), some (.int a2), some (.int a3)] [.int a3] τ) ∧
    (∀ (a0 : Nat) (a1 : Int32) (a2 : Int32) (a3 : Int32) (x0 : Int32) (τ : St), Ru M_Moment_shipsAt d Q 13 [some (.ref a0), some (.int a1), some (.int a2), some (.int a3)] [.int x0] τ = Ru M_Moment_shipsAt d Q 15 [some (.ref a0), some (.int a1), some (.int a2), some (.int a3)] [.int 8, .int x0] τ) ∧
    (∀ (a0 : Nat) (a1 : Int32) (a2 : Int32) (a3 : Int32) (x0 : Int32) (x1 : Int32) (τ : St), Ru M_Moment_shipsAt d Q 15 [some (.ref a0), some (.int a1), some (.int a2), some (.int a3)] [.int x0, .int x1] τ = ((x0 ≤ x1 → Ru M_Moment_shipsAt d Q 40 [some (.ref a0), some (.int a1), some (.int a2), some (.int a3)] [] τ) ∧ (¬ x0 ≤ x1 → Ru M_Moment_shipsAt d Q 18 [some (.ref a0), some (.int a1), some (.int a2), some (.int a3)] [] τ))) ∧
    (∀ (a0 : Nat) (a1 : Int32) (a2 : Int32) (a3 : Int32) (τ : St), Ru M_Moment_shipsAt d Q 18 [some (.ref a0), some (.int a1), some (.int a2), some (.int a3)] [] τ = Ru M_Moment_shipsAt d Q 19 [some (.ref a0), some (.int a1), some (.int a2), some (.int a3)] [.ref a0] τ) ∧
    (∀ (a0 : Nat) (a1 : Int32) (a2 : Int32) (a3 : Int32) (x0 : Nat) (τ : St), Ru M_Moment_shipsAt d Q 19 [some (.ref a0), some (.int a1), some (.int a2), some (.int a3)] [.ref x0] τ = (isA 1 x0 ∧ Ru M_Moment_shipsAt d Q 22 [some (.ref a0), some (.int a1), some (.int a2), some (.int a3)] [.ref (rtab x0 0)] τ)) ∧
    (∀ (a0 : Nat) (a1 : Int32) (a2 : Int32) (a3 : Int32) (x0 : Nat) (τ : St), Ru M_Moment_shipsAt d Q 22 [some (.ref a0), some (.int a1), some (.int a2), some (.int a3)] [.ref x0] τ = Ru M_Moment_shipsAt d Q 23 [some (.ref a0), some (.int a1), some (.int a2), some (.int a3)] [.int a3, .ref x0] τ) ∧
    (∀ (a0 : Nat) (a1 : Int32) (a2 : Int32) (a3 : Int32) (x0 : Int32) (x1 : Nat) (τ : St), Ru M_Moment_shipsAt d Q 23 [some (.ref a0), some (.int a1), some (.int a2), some (.int a3)] [.int x0, .ref x1] τ = (isA 14 x1 ∧ vp_in x0 (len x1) ∧ Ru M_Moment_shipsAt d Q 24 [some (.ref a0), some (.int a1), some (.int a2), some (.int a3)] [.int (τ.1 x1 x0.toNatClampNeg)] τ)) ∧
    (∀ (a0 : Nat) (a1 : Int32) (a2 : Int32) (a3 : Int32) (x0 : Int32) (τ : St), Ru M_Moment_shipsAt d Q 24 [some (.ref a0), some (.int a1), some (.int a2), some (.int a3)] [.int x0] τ = Ru M_Moment_shipsAt d Q 25 [some (.ref a0), some (.int a1), some (.int a2), some (.int a3)] [.int a1, .int x0] τ) ∧
    (∀ (a0 : Nat) (a1 : Int32) (a2 : Int32) (a3 : Int32) (x0 : Int32) (x1 : Int32) (τ : St), Ru M_Moment_shipsAt d Q 25 [some (.ref a0), some (.int a1), some (.int a2), some (.int a3)] [.int x0, .int x1] τ = ((¬ x1 = x0 → Ru M_Moment_shipsAt d Q 34 [some (.ref a0), some (.int a1), some (.int a2), some (.int a3)] [] τ) ∧ (x1 = x0 → Ru M_Moment_shipsAt d Q 28 [some (.ref a0), some (.int a1), some (.int a2), some (.int a3)] [] τ))) ∧
    (∀ (a0 : Nat) (a1 : Int32) (a2 : Int32) (a3 : Int32) (τ : St), Ru M_Moment_shipsAt d Q 28 [some (.ref a0), some (.int a1), some (.int a2), some (.int a3)] [] τ = Ru M_Moment_shipsAt d Q 29 [some (.ref a0), some (.int a1), some (.int a2), some (.int a3)] [.int a2] τ) ∧
    (∀ (a0 : Nat) (a1 : Int32) (a2 : Int32) (a3 : Int32) (x0 : Int32) (τ : St), Ru M_Moment_shipsAt d Q 29 [some (.ref a0), some (.int a1), some (.int a2), some (.int a3)] [.int x0] τ = Ru M_Moment_shipsAt d Q 30 [some (.ref a0), some (.int a1), some (.int a2), some (.int a3)] [.int 1, .int x0] τ) ∧
    (∀ (a0 : Nat) (a1 : Int32) (a2 : Int32) (a3 : Int32) (x0 : Int32) (x1 : Int32) (τ : St), Ru M_Moment_shipsAt d Q 30 [some (.ref a0), some (.int a1), some (.int a2), some (.int a3)] [.int x0, .int x1] τ = Ru M_Moment_shipsAt d Q 31 [some (.ref a0), some (.int a1), some (.int a2), some (.int a3)] [.int a3, .int x0, .int x1] τ) ∧
    (∀ (a0 : Nat) (a1 : Int32) (a2 : Int32) (a3 : Int32) (x0 : Int32) (x1 : Int32) (x2 : Int32) (τ : St), Ru M_Moment_shipsAt d Q 31 [some (.ref a0), some (.int a1), some (.int a2), some (.int a3)] [.int x0, .int x1, .int x2] τ = Ru M_Moment_shipsAt d Q 32 [some (.ref a0), some (.int a1), some (.int a2), some (.int a3)] [.int (x1 <<< (x0 &&& 31)), .int x2] τ) ∧
    (∀ (a0 : Nat) (a1 : Int32) (a2 : Int32) (a3 : Int32) (x0 : Int32) (x1 : Int32) (τ : St), Ru M_Moment_shipsAt d Q 32 [some (.ref a0), some (.int a1), some (.int a2), some (.int a3)] [.int x0, .int x1] τ = Ru M_Moment_shipsAt d Q 33 [some (.ref a0), some (.int a1), some (.int a2), some (.int a3)] [.int (x1 ||| x0)] τ) ∧
    (∀ (a0 : Nat) (a1 : Int32) (a2 : Int32) (a3 : Int32) (x0 : Int32) (τ : St), Ru M_Moment_shipsAt d Q 33 [some (.ref a0), some (.int a1), some (.int a2), some (.int a3)] [.int x0] τ = Ru M_Moment_shipsAt d Q 34 [some (.ref a0), some (.int a1), some (.int x0), some (.int a3)] [] τ) ∧
    (∀ (a0 : Nat) (a1 : Int32) (a2 : Int32) (a3 : Int32) (τ : St), Ru M_Moment_shipsAt d Q 34 [some (.ref a0), some (.int a1), some (.int a2), some (.int a3)] [] τ = Ru M_Moment_shipsAt d Q 37 [some (.ref a0), some (.int a1), some (.int a2), some (.int (a3 + 1))] [] τ) ∧
    (∀ (a0 : Nat) (a1 : Int32) (a2 : Int32) (a3 : Int32) (τ : St), Ru M_Moment_shipsAt d Q 37 [some (.ref a0), some (.int a1), some (.int a2), some (.int a3)] [] τ = Rs M_Moment_shipsAt d Q 4 [some (.ref a0), some (.int a1), some (.int a2), some (.int a3)] [] τ) ∧
    (∀ (a0 : Nat) (a1 : Int32) (a2 : Int32) (a3 : Int32) (τ : St), Ru M_Moment_shipsAt d Q 40 [some (.ref a0), some (.int a1), some (.int a2), some (.int a3)] [] τ = Ru M_Moment_shipsAt d Q 41 [some (.ref a0), some (.int a1), some (.int a2), some (.int a3)] [.int a2] τ) ∧
    (∀ (a0 : Nat) (a1 : Int32) (a2 : Int32) (a3 : Int32) (x0 : Int32) (τ : St), Ru M_Moment_shipsAt d Q 41 [some (.ref a0), some (.int a1), some (.int a2), some (.int a3)] [.int x0] τ = Q (some (.int x0)) τ) := ⟨
  fun _ _ _ => (R_at ok_Moment_shipsAt rfl).trans e_push,
  fun _ _ _ _ => (R_at ok_Moment_shipsAt rfl).trans e_ist,
  fun _ _ _ _ => (R_at ok_Moment_shipsAt rfl).trans e_push,
  fun _ _ _ _ _ => (R_at ok_Moment_shipsAt rfl).trans e_ist,
  fun _ _ _ _ _ => (R_at ok_Moment_shipsAt rfl).trans (e_ild rfl),
  fun _ _ _ _ _ _ => (R_at ok_Moment_shipsAt rfl).trans (e_ald rfl),
  fun _ _ _ _ _ _ _ => (R_at ok_Moment_shipsAt rfl).trans e_gI,
  fun _ _ _ _ _ _ _ => (R_at ok_Moment_shipsAt rfl).trans e_ic,
  fun _ _ _ _ _ => (R_at ok_Moment_shipsAt rfl).trans (e_ild rfl),
  fun _ _ _ _ _ _ => (R_at ok_Moment_shipsAt rfl).trans e_push,
  fun _ _ _ _ _ _ _ => (R_at ok_Moment_shipsAt rfl).trans e_ic,
  fun _ _ _ _ _ => (R_at ok_Moment_shipsAt rfl).trans (e_ald rfl),
  fun _ _ _ _ _ _ => (R_at ok_Moment_shipsAt rfl).trans e_gR,
  fun _ _ _ _ _ _ => (R_at ok_Moment_shipsAt rfl).trans (e_ild rfl),
  fun _ _ _ _ _ _ _ => (R_at ok_Moment_shipsAt rfl).trans e_al,
  fun _ _ _ _ _ _ => (R_at ok_Moment_shipsAt rfl).trans (e_ild rfl),
  fun _ _ _ _ _ _ _ => (R_at ok_Moment_shipsAt rfl).trans e_icn,
  fun _ _ _ _ _ => (R_at ok_Moment_shipsAt rfl).trans (e_ild rfl),
  fun _ _ _ _ _ _ => (R_at ok_Moment_shipsAt rfl).trans e_push,
  fun _ _ _ _ _ _ _ => (R_at ok_Moment_shipsAt rfl).trans (e_ild rfl),
  fun _ _ _ _ _ _ _ _ => (R_at ok_Moment_shipsAt rfl).trans e_bin,
  fun _ _ _ _ _ _ _ => (R_at ok_Moment_shipsAt rfl).trans e_bin,
  fun _ _ _ _ _ _ => (R_at ok_Moment_shipsAt rfl).trans e_ist,
  fun _ _ _ _ _ => (R_at ok_Moment_shipsAt rfl).trans (e_iinc rfl),
  fun _ _ _ _ _ => (R_at ok_Moment_shipsAt rfl).trans e_goto,
  fun _ _ _ _ _ => (R_at ok_Moment_shipsAt rfl).trans (e_ild rfl),
  fun _ _ _ _ _ _ => (R_at ok_Moment_shipsAt rfl).trans e_iret⟩
set_option maxHeartbeats 4000000 in
theorem N_Moment_letHourPass (d : Nat) (Q : Qt) : ∀ (x0 : Nat) (x1 : Int32) (τ : St), Cl (d + 1) m_Moment_letHourPass [.ref x0, .int x1] τ Q = Ru M_Moment_letHourPass d Q 0 [some (.ref x0), some (.int x1)] [] τ := fun _ _ _ => propext ⟨fun h => h.2, fun h => ⟨Nat.le_of_ble_eq_true rfl, h⟩⟩
set_option maxHeartbeats 4000000 in
theorem E_Moment_letHourPass (d : Nat) (Q : Qt) :
    (∀ (a0 : Nat) (a1 : Int32) (τ : St), Ru M_Moment_letHourPass d Q 0 [some (.ref a0), some (.int a1)] [] τ = Ru M_Moment_letHourPass d Q 1 [some (.ref a0), some (.int a1)] [.ref a0] τ) ∧
    (∀ (a0 : Nat) (a1 : Int32) (x0 : Nat) (τ : St), Ru M_Moment_letHourPass d Q 1 [some (.ref a0), some (.int a1)] [.ref x0] τ = (isA 1 x0 ∧ Ru M_Moment_letHourPass d Q 4 [some (.ref a0), some (.int a1)] [.int (τ.1 x0 7)] τ)) ∧
    (∀ (a0 : Nat) (a1 : Int32) (x0 : Int32) (τ : St), Ru M_Moment_letHourPass d Q 4 [some (.ref a0), some (.int a1)] [.int x0] τ = Ru M_Moment_letHourPass d Q 5 [some (.ref a0), some (.int a1)] [.int a1, .int x0] τ) ∧
    (∀ (a0 : Nat) (a1 : Int32) (x0 : Int32) (x1 : Int32) (τ : St), Ru M_Moment_letHourPass d Q 5 [some (.ref a0), some (.int a1)] [.int x0, .int x1] τ = ((x1 ≤ x0 → Ru M_Moment_letHourPass d Q 18 [some (.ref a0), some (.int a1)] [] τ) ∧ (¬ x1 ≤ x0 → Ru M_Moment_letHourPass d Q 8 [some (.ref a0), some (.int a1)] [] τ))) ∧
    (∀ (a0 : Nat) (a1 : Int32) (τ : St), Ru M_Moment_letHourPass d Q 8 [some (.ref a0), some (.int a1)] [] τ = Ru M_Moment_letHourPass d Q 9 [some (.ref a0), some (.int a1)] [.ref a0] τ) ∧
    (∀ (a0 : Nat) (a1 : Int32) (x0 : Nat) (τ : St), Ru M_Moment_letHourPass d Q 9 [some (.ref a0), some (.int a1)] [.ref x0] τ = Ru M_Moment_letHourPass d Q 10 [some (.ref a0), some (.int a1)] [.ref x0, .ref x0] τ) ∧
    (∀ (a0 : Nat) (a1 : Int32) (x0 : Nat) (x1 : Nat) (τ : St), Ru M_Moment_letHourPass d Q 10 [some (.ref a0), some (.int a1)] [.ref x0, .ref x1] τ = (isA 1 x0 ∧ Ru M_Moment_letHourPass d Q 13 [some (.ref a0), some (.int a1)] [.int (τ.1 x0 8), .ref x1] τ)) ∧
    (∀ (a0 : Nat) (a1 : Int32) (x0 : Int32) (x1 : Nat) (τ : St), Ru M_Moment_letHourPass d Q 13 [some (.ref a0), some (.int a1)] [.int x0, .ref x1] τ = Ru M_Moment_letHourPass d Q 14 [some (.ref a0), some (.int a1)] [.int 1, .int x0, .ref x1] τ) ∧
    (∀ (a0 : Nat) (a1 : Int32) (x0 : Int32) (x1 : Int32) (x2 : Nat) (τ : St), Ru M_Moment_letHourPass d Q 14 [some (.ref a0), some (.int a1)] [.int x0, .int x1, .ref x2] τ = Ru M_Moment_letHourPass d Q 15 [some (.ref a0), some (.int a1)] [.int (x1 + x0), .ref x2] τ) ∧
    (∀ (a0 : Nat) (a1 : Int32) (x0 : Int32) (x1 : Nat) (τ : St), Ru M_Moment_letHourPass d Q 15 [some (.ref a0), some (.int a1)] [.int x0, .ref x1] τ = (isA 1 x1 ∧ Ru M_Moment_letHourPass d Q 18 [some (.ref a0), some (.int a1)] [] (sI τ x1 8 x0))) ∧
    (∀ (a0 : Nat) (a1 : Int32) (τ : St), Ru M_Moment_letHourPass d Q 18 [some (.ref a0), some (.int a1)] [] τ = Ru M_Moment_letHourPass d Q 19 [some (.ref a0), some (.int a1)] [.ref a0] τ) ∧
    (∀ (a0 : Nat) (a1 : Int32) (x0 : Nat) (τ : St), Ru M_Moment_letHourPass d Q 19 [some (.ref a0), some (.int a1)] [.ref x0] τ = Ru M_Moment_letHourPass d Q 20 [some (.ref a0), some (.int a1)] [.int 0, .ref x0] τ) ∧
    (∀ (a0 : Nat) (a1 : Int32) (x0 : Int32) (x1 : Nat) (τ : St), Ru M_Moment_letHourPass d Q 20 [some (.ref a0), some (.int a1)] [.int x0, .ref x1] τ = (isA 1 x1 ∧ Ru M_Moment_letHourPass d Q 23 [some (.ref a0), some (.int a1)] [] (sI τ x1 4 x0))) ∧
    (∀ (a0 : Nat) (a1 : Int32) (τ : St), Ru M_Moment_letHourPass d Q 23 [some (.ref a0), some (.int a1)] [] τ = Ru M_Moment_letHourPass d Q 24 [some (.ref a0), some (.int a1)] [.ref a0] τ) ∧
    (∀ (a0 : Nat) (a1 : Int32) (x0 : Nat) (τ : St), Ru M_Moment_letHourPass d Q 24 [some (.ref a0), some (.int a1)] [.ref x0] τ = Ru M_Moment_letHourPass d Q 25 [some (.ref a0), some (.int a1)] [.int 0, .ref x0] τ) ∧
    (∀ (a0 : Nat) (a1 : Int32) (x0 : Int32) (x1 : Nat) (τ : St), Ru M_Moment_letHourPass d Q 25 [some (.ref a0), some (.int a1)] [.int x0, .ref x1] τ = (isA 1 x1 ∧ Ru M_Moment_letHourPass d Q 28 [some (.ref a0), some (.int a1)] [] (sI τ x1 7 x0))) ∧
    (∀ (a0 : Nat) (a1 : Int32) (τ : St), Ru M_Moment_letHourPass d Q 28 [some (.ref a0), some (.int a1)] [] τ = Ru M_Moment_letHourPass d Q 29 [some (.ref a0), some (.int a1)] [.ref a0] τ) ∧
    (∀ (a0 : Nat) (a1 : Int32) (x0 : Nat) (τ : St), Ru M_Moment_letHourPass d Q 29 [some (.ref a0), some (.int a1)] [.ref x0] τ = Ru M_Moment_letHourPass d Q 30 [some (.ref a0), some (.int a1)] [.int 0, .ref x0] τ) ∧
    (∀ (a0 : Nat) (a1 : Int32) (x0 : Int32) (x1 : Nat) (τ : St), Ru M_Moment_letHourPass d Q 30 [some (.ref a0), some (.int a1)] [.int x0, .ref x1] τ = (isA 1 x1 ∧ Ru M_Moment_letHourPass d Q 33 [some (.ref a0), some (.int a1)] [] (sI τ x1 2 x0))) ∧
    (∀ (a0 : Nat) (a1 : Int32) (τ : St), Ru M_Moment_letHourPass d Q 33 [some (.ref a0), some (.int a1)] [] τ = Ru M_Moment_letHourPass d Q 34 [some (.ref a0), some (.int a1)] [.ref a0] τ) ∧
    (∀ (a0 : Nat) (a1 : Int32) (x0 : Nat) (τ : St), Ru M_Moment_letHourPass d Q 34 [some (.ref a0), some (.int a1)] [.ref x0] τ = Ru M_Moment_letHourPass d Q 35 [some (.ref a0), some (.int a1)] [.ref x0, .ref x0] τ) ∧
    (∀ (a0 : Nat) (a1 : Int32) (x0 : Nat) (x1 : Nat) (τ : St), Ru M_Moment_letHourPass d Q 35 [some (.ref a0), some (.int a1)] [.ref x0, .ref x1] τ = (isA 1 x0 ∧ Ru M_Moment_letHourPass d Q 38 [some (.ref a0), some (.int a1)] [.int (τ.1 x0 6), .ref x1] τ)) ∧
    (∀ (a0 : Nat) (a1 : Int32) (x0 : Int32) (x1 : Nat) (τ : St), Ru M_Moment_letHourPass d Q 38 [some (.ref a0), some (.int a1)] [.int x0, .ref x1] τ = Ru M_Moment_letHourPass d Q 39 [some (.ref a0), some (.int a1)] [.int 1, .int x0, .ref x1] τ) ∧
    (∀ (a0 : Nat) (a1 : Int32) (x0 : Int32) (x1 : Int32) (x2 : Nat) (τ : St), Ru M_Moment_letHourPass d Q 39 [some (.ref a0), some (.int a1)] [.int x0, .int x1, .ref x2] τ = Ru M_Moment_letHourPass d Q 40 [some (.ref a0), some (.int a1)] [.int (x1 + x0), .ref x2] τ) ∧
    (∀ (a0 : Nat) (a1 : Int32) (x0 : Int32) (x1 : Nat) (τ : St), Ru M_Moment_letHourPass d Q 40 [some (.ref a0), some (.int a1)] [.int x0, .ref x1] τ = (isA 1 x1 ∧ Ru M_Moment_letHourPass d Q 43 [some (.ref a0), some (.int a1)] [] (sI τ x1 6 x0))) ∧
    (∀ (a0 : Nat) (a1 : Int32) (τ : St), Ru M_Moment_letHourPass d Q 43 [some (.ref a0), some (.int a1)] [] τ = Ru M_Moment_letHourPass d Q 44 [some (.ref a0), some (.int a1)] [.ref a0] τ) ∧
    (∀ (a0 : Nat) (a1 : Int32) (x0 : Nat) (τ : St), Ru M_Moment_letHourPass d Q 44 [some (.ref a0), some (.int a1)] [.ref x0] τ = (isA 1 x0 ∧ Ru M_Moment_letHourPass d Q 47 [some (.ref a0), some (.int a1)] [.int (τ.1 x0 6)] τ)) ∧
    (∀ (a0 : Nat) (a1 : Int32) (x0 : Int32) (τ : St), Ru M_Moment_letHourPass d Q 47 [some (.ref a0), some (.int a1)] [.int x0] τ = Ru M_Moment_letHourPass d Q 49 [some (.ref a0), some (.int a1)] [.int 10, .int x0] τ) ∧
    (∀ (a0 : Nat) (a1 : Int32) (x0 : Int32) (x1 : Int32) (τ : St), Ru M_Moment_letHourPass d Q 49 [some (.ref a0), some (.int a1)] [.int x0, .int x1] τ = ((¬ x1 = x0 → Ru M_Moment_letHourPass d Q 67 [some (.ref a0), some (.int a1)] [] τ) ∧ (x1 = x0 → Ru M_Moment_letHourPass d Q 52 [some (.ref a0), some (.int a1)] [] τ))) ∧
    (∀ (a0 : Nat) (a1 : Int32) (τ : St), Ru M_Moment_letHourPass d Q 52 [some (.ref a0), some (.int a1)] [] τ = Ru M_Moment_letHourPass d Q 53 [some (.ref a0), some (.int a1)] [.ref a0] τ) ∧
    (∀ (a0 : Nat) (a1 : Int32) (x0 : Nat) (τ : St), Ru M_Moment_letHourPass d Q 53 [some (.ref a0), some (.int a1)] [.ref x0] τ = Ru M_Moment_letHourPass d Q 54 [some (.ref a0), some (.int a1)] [.int 0, .ref x0] τ) ∧
    (∀ (a0 : Nat) (a1 : Int32) (x0 : Int32) (x1 : Nat) (τ : St), Ru M_Moment_letHourPass d Q 54 [some (.ref a0), some (.int a1)] [.int x0, .ref x1] τ = (isA 1 x1 ∧ Ru M_Moment_letHourPass d Q 57 [some (.ref a0), some (.int a1)] [] (sI τ x1 6 x0))) ∧
    (∀ (a0 : Nat) (a1 : Int32) (τ : St), Ru M_Moment_letHourPass d Q 57 [some (.ref a0), some (.int a1)] [] τ = Ru M_Moment_letHourPass d Q 58 [some (.ref a0), some (.int a1)] [.ref a0] τ) ∧
    (∀ (a0 : Nat) (a1 : Int32) (x0 : Nat) (τ : St), Ru M_Moment_letHourPass d Q 58 [some (.ref a0), some (.int a1)] [.ref x0] τ = Ru M_Moment_letHourPass d Q 59 [some (.ref a0), some (.int a1)] [.ref x0, .ref x0] τ) ∧
    (∀ (a0 : Nat) (a1 : Int32) (x0 : Nat) (x1 : Nat) (τ : St), Ru M_Moment_letHourPass d Q 59 [some (.ref a0), some (.int a1)] [.ref x0, .ref x1] τ = (isA 1 x0 ∧ Ru M_Moment_letHourPass d Q 62 [some (.ref a0), some (.int a1)] [.int (τ.1 x0 5), .ref x1] τ)) ∧
    (∀ (a0 : Nat) (a1 : Int32) (x0 : Int32) (x1 : Nat) (τ : St), Ru M_Moment_letHourPass d Q 62 [some (.ref a0), some (.int a1)] [.int x0, .ref x1] τ = Ru M_Moment_letHourPass d Q 63 [some (.ref a0), some (.int a1)] [.int 1, .int x0, .ref x1] τ) ∧
    (∀ (a0 : Nat) (a1 : Int32) (x0 : Int32) (x1 : Int32) (x2 : Nat) (τ : St), Ru M_Moment_letHourPass d Q 63 [some (.ref a0), some (.int a1)] [.int x0, .int x1, .ref x2] τ = Ru M_Moment_letHourPass d Q 64 [some (.ref a0), some (.int a1)] [.int (x1 + x0), .ref x2] τ) ∧
    (∀ (a0 : Nat) (a1 : Int32) (x0 : Int32) (x1 : Nat) (τ : St), Ru M_Moment_letHourPass d Q 64 [some (.ref a0), some (.int a1)] [.int x0, .ref x1] τ = (isA 1 x1 ∧ Ru M_Moment_letHourPass d Q 67 [some (.ref a0), some (.int a1)] [] (sI τ x1 5 x0))) ∧
    (∀ (a0 : Nat) (a1 : Int32) (τ : St), Ru M_Moment_letHourPass d Q 67 [some (.ref a0), some (.int a1)] [] τ = Q none τ) := ⟨
  fun _ _ _ => (R_at ok_Moment_letHourPass rfl).trans (e_ald rfl),
  fun _ _ _ _ => (R_at ok_Moment_letHourPass rfl).trans e_gI,
  fun _ _ _ _ => (R_at ok_Moment_letHourPass rfl).trans (e_ild rfl),
  fun _ _ _ _ _ => (R_at ok_Moment_letHourPass rfl).trans e_ic,
  fun _ _ _ => (R_at ok_Moment_letHourPass rfl).trans (e_ald rfl),
  fun _ _ _ _ => (R_at ok_Moment_letHourPass rfl).trans (e_dup rfl),
  fun _ _ _ _ _ => (R_at ok_Moment_letHourPass rfl).trans e_gI,
  fun _ _ _ _ _ => (R_at ok_Moment_letHourPass rfl).trans e_push,
  fun _ _ _ _ _ _ => (R_at ok_Moment_letHourPass rfl).trans e_bin,
  fun _ _ _ _ _ => (R_at ok_Moment_letHourPass rfl).trans e_pI,
  fun _ _ _ => (R_at ok_Moment_letHourPass rfl).trans (e_ald rfl),
  fun _ _ _ _ => (R_at ok_Moment_letHourPass rfl).trans e_push,
  fun _ _ _ _ _ => (R_at ok_Moment_letHourPass rfl).trans e_pI,
  fun _ _ _ => (R_at ok_Moment_letHourPass rfl).trans (e_ald rfl),
  fun _ _ _ _ => (R_at ok_Moment_letHourPass rfl).trans e_push,
  fun _ _ _ _ _ => (R_at ok_Moment_letHourPass rfl).trans e_pI,
  fun _ _ _ => (R_at ok_Moment_letHourPass rfl).trans (e_ald rfl),
  fun _ _ _ _ => (R_at ok_Moment_letHourPass rfl).trans e_push,
  fun _ _ _ _ _ => (R_at ok_Moment_letHourPass rfl).trans e_pI,
  fun _ _ _ => (R_at ok_Moment_letHourPass rfl).trans (e_ald rfl),
  fun _ _ _ _ => (R_at ok_Moment_letHourPass rfl).trans (e_dup rfl),
  fun _ _ _ _ _ => (R_at ok_Moment_letHourPass rfl).trans e_gI,
  fun _ _ _ _ _ => (R_at ok_Moment_letHourPass rfl).trans e_push,
  fun _ _ _ _ _ _ => (R_at ok_Moment_letHourPass rfl).trans e_bin,
  fun _ _ _ _ _ => (R_at ok_Moment_letHourPass rfl).trans e_pI,
  fun _ _ _ => (R_at ok_Moment_letHourPass rfl).trans (e_ald rfl),
  fun _ _ _ _ => (R_at ok_Moment_letHourPass rfl).trans e_gI,
  fun _ _ _ _ => (R_at ok_Moment_letHourPass rfl).trans e_push,
  fun _ _ _ _ _ => (R_at ok_Moment_letHourPass rfl).trans e_icn,
  fun _ _ _ => (R_at ok_Moment_letHourPass rfl).trans (e_ald rfl),
  fun _ _ _ _ => (R_at ok_Moment_letHourPass rfl).trans e_push,
  fun _ _ _ _ _ => (R_at ok_Moment_letHourPass rfl).trans e_pI,
  fun _ _ _ => (R_at ok_Moment_letHourPass rfl).trans (e_ald rfl),
  fun _ _ _ _ => (R_at ok_Moment_letHourPass rfl).trans (e_dup rfl),
  fun _ _ _ _ _ => (R_at ok_Moment_letHourPass rfl).trans e_gI,
  fun _ _ _ _ _ => (R_at ok_Moment_letHourPass rfl).trans e_push,
  fun _ _ _ _ _ _ => (R_at ok_Moment_letHourPass rfl).trans e_bin,
  fun _ _ _ _ _ => (R_at ok_Moment_letHourPass rfl).trans e_pI,
  fun _ _ _ => (R_at ok_Moment_letHourPass rfl).trans e_vret⟩
set_option maxHeartbeats 4000000 in
theorem N_Past_clear (d : Nat) (Q : Qt) : ∀ (x0 : Nat) (τ : St), Cl (d + 1) m_Past_clear [.ref x0] τ Q = Ru M_Past_clear d Q 0 [some (.ref x0)] [] τ := fun _ _ => propext ⟨fun h => h.2, fun h => ⟨Nat.le_of_ble_eq_true rfl, h⟩⟩
set_option maxHeartbeats 4000000 in
theorem E_Past_clear (d : Nat) (Q : Qt) :
    (∀ (a0 : Nat) (τ : St), Ru M_Past_clear d Q 0 [some (.ref a0)] [] τ = Ru M_Past_clear d Q 1 [some (.ref a0)] [.ref a0] τ) ∧
    (∀ (a0 : Nat) (x0 : Nat) (τ : St), Ru M_Past_clear d Q 1 [some (.ref a0)] [.ref x0] τ = Ru M_Past_clear d Q 2 [some (.ref a0)] [.int 0, .ref x0] τ) ∧
    (∀ (a0 : Nat) (x0 : Int32) (x1 : Nat) (τ : St), Ru M_Past_clear d Q 2 [some (.ref a0)] [.int x0, .ref x1] τ = (isA 2 x1 ∧ Ru M_Past_clear d Q 5 [some (.ref a0)] [] (sI τ x1 2 x0))) ∧
    (∀ (a0 : Nat) (τ : St), Ru M_Past_clear d Q 5 [some (.ref a0)] [] τ = Q none τ) := ⟨
  fun _ _ => (R_at ok_Past_clear rfl).trans (e_ald rfl),
  fun _ _ _ => (R_at ok_Past_clear rfl).trans e_push,
  fun _ _ _ _ => (R_at ok_Past_clear rfl).trans e_pI,
  fun _ _ => (R_at ok_Past_clear rfl).trans e_vret⟩
set_option maxHeartbeats 4000000 in
theorem N_Past_add (d : Nat) (Q : Qt) : ∀ (x0 : Nat) (x1 : Nat) (τ : St), Cl (d + 1) m_Past_add [.ref x0, .ref x1] τ Q = Ru M_Past_add d Q 0 [some (.ref x0), some (.ref x1)] [] τ := fun _ _ _ => propext ⟨fun h => h.2, fun h => ⟨Nat.le_of_ble_eq_true rfl, h⟩⟩
set_option maxHeartbeats 4000000 in
theorem E_Past_add (d : Nat) (Q : Qt) :
    (∀ (a0 : Nat) (a1 : Nat) (τ : St), Ru M_Past_add d Q 0 [some (.ref a0), some (.ref a1)] [] τ = Ru M_Past_add d Q 1 [some (.ref a0), some (.ref a1)] [.ref a0] τ) ∧
    (∀ (a0 : Nat) (a1 : Nat) (x0 : Nat) (τ : St), Ru M_Past_add d Q 1 [some (.ref a0), some (.ref a1)] [.ref x0] τ = (isA 2 x0 ∧ Ru M_Past_add d Q 4 [some (.ref a0), some (.ref a1)] [.ref (rtab x0 0)] τ)) ∧
    (∀ (a0 : Nat) (a1 : Nat) (x0 : Nat) (τ : St), Ru M_Past_add d Q 4 [some (.ref a0), some (.ref a1)] [.ref x0] τ = Ru M_Past_add d Q 5 [some (.ref a0), some (.ref a1)] [.ref a0, .ref x0] τ) ∧
    (∀ (a0 : Nat) (a1 : Nat) (x0 : Nat) (x1 : Nat) (τ : St), Ru M_Past_add d Q 5 [some (.ref a0), some (.ref a1)] [.ref x0, .ref x1] τ = (isA 2 x0 ∧ Cl d m_Past_slot [.ref x0] τ (fun v τ' => Ru M_Past_add d Q 8 [some (.ref a0), some (.ref a1)] (v.toList ++ [.ref x1]) τ'))) ∧
    (∀ (a0 : Nat) (a1 : Nat) (x0 : Int32) (x1 : Nat) (τ : St), Ru M_Past_add d Q 8 [some (.ref a0), some (.ref a1)] [.int x0, .ref x1] τ = (isA 17 x1 ∧ vp_in x0 (len x1) ∧ Ru M_Past_add d Q 9 [some (.ref a0), some (.ref a1)] [.ref (mrf x1 x0.toNatClampNeg)] τ)) ∧
    (∀ (a0 : Nat) (a1 : Nat) (x0 : Nat) (τ : St), Ru M_Past_add d Q 9 [some (.ref a0), some (.ref a1)] [.ref x0] τ = Ru M_Past_add d Q 10 [some (.ref a0), some (.ref a1)] [.ref a1, .ref x0] τ) ∧
    (∀ (a0 : Nat) (a1 : Nat) (x0 : Nat) (x1 : Nat) (τ : St), Ru M_Past_add d Q 10 [some (.ref a0), some (.ref a1)] [.ref x0, .ref x1] τ = (isA 1 x1 ∧ Cl d m_Moment_copy [.ref x1, .ref x0] τ (fun v τ' => Ru M_Past_add d Q 13 [some (.ref a0), some (.ref a1)] (v.toList ++ []) τ'))) ∧
    (∀ (a0 : Nat) (a1 : Nat) (τ : St), Ru M_Past_add d Q 13 [some (.ref a0), some (.ref a1)] [] τ = Ru M_Past_add d Q 14 [some (.ref a0), some (.ref a1)] [.ref a0] τ) ∧
    (∀ (a0 : Nat) (a1 : Nat) (x0 : Nat) (τ : St), Ru M_Past_add d Q 14 [some (.ref a0), some (.ref a1)] [.ref x0] τ = (isA 2 x0 ∧ Ru M_Past_add d Q 17 [some (.ref a0), some (.ref a1)] [.int (τ.1 x0 2)] τ)) ∧
    (∀ (a0 : Nat) (a1 : Nat) (x0 : Int32) (τ : St), Ru M_Past_add d Q 17 [some (.ref a0), some (.ref a1)] [.int x0] τ = Ru M_Past_add d Q 19 [some (.ref a0), some (.ref a1)] [.int 15, .int x0] τ) ∧
    (∀ (a0 : Nat) (a1 : Nat) (x0 : Int32) (x1 : Int32) (τ : St), Ru M_Past_add d Q 19 [some (.ref a0), some (.ref a1)] [.int x0, .int x1] τ = ((x0 ≤ x1 → Ru M_Past_add d Q 35 [some (.ref a0), some (.ref a1)] [] τ) ∧ (¬ x0 ≤ x1 → Ru M_Past_add d Q 22 [some (.ref a0), some (.ref a1)] [] τ))) ∧
    (∀ (a0 : Nat) (a1 : Nat) (τ : St), Ru M_Past_add d Q 22 [some (.ref a0), some (.ref a1)] [] τ = Ru M_Past_add d Q 23 [some (.ref a0), some (.ref a1)] [.ref a0] τ) ∧
    (∀ (a0 : Nat) (a1 : Nat) (x0 : Nat) (τ : St), Ru M_Past_add d Q 23 [some (.ref a0), some (.ref a1)] [.ref x0] τ = Ru M_Past_add d Q 24 [some (.ref a0), some (.ref a1)] [.ref x0, .ref x0] τ) ∧
    (∀ (a0 : Nat) (a1 : Nat) (x0 : Nat) (x1 : Nat) (τ : St), Ru M_Past_add d Q 24 [some (.ref a0), some (.ref a1)] [.ref x0, .ref x1] τ = (isA 2 x0 ∧ Ru M_Past_add d Q 27 [some (.ref a0), some (.ref a1)] [.int (τ.1 x0 2), .ref x1] τ)) ∧
    (∀ (a0 : Nat) (a1 : Nat) (x0 : Int32) (x1 : Nat) (τ : St), Ru M_Past_add d Q 27 [some (.ref a0), some (.ref a1)] [.int x0, .ref x1] τ = Ru M_Past_add d Q 28 [some (.ref a0), some (.ref a1)] [.int 1, .int x0, .ref x1] τ) ∧
    (∀ (a0 : Nat) (a1 : Nat) (x0 : Int32) (x1 : Int32) (x2 : Nat) (τ : St), Ru M_Past_add d Q 28 [some (.ref a0), some (.ref a1)] [.int x0, .int x1, .ref x2] τ = Ru M_Past_add d Q 29 [some (.ref a0), some (.ref a1)] [.int (x1 + x0), .ref x2] τ) ∧
    (∀ (a0 : Nat) (a1 : Nat) (x0 : Int32) (x1 : Nat) (τ : St), Ru M_Past_add d Q 29 [some (.ref a0), some (.ref a1)] [.int x0, .ref x1] τ = (isA 2 x1 ∧ Ru M_Past_add d Q 32 [some (.ref a0), some (.ref a1)] [] (sI τ x1 2 x0))) ∧
    (∀ (a0 : Nat) (a1 : Nat) (τ : St), Ru M_Past_add d Q 32 [some (.ref a0), some (.ref a1)] [] τ = Ru M_Past_add d Q 48 [some (.ref a0), some (.ref a1)] [] τ) ∧
    (∀ (a0 : Nat) (a1 : Nat) (τ : St), Ru M_Past_add d Q 35 [some (.ref a0), some (.ref a1)] [] τ = Ru M_Past_add d Q 36 [some (.ref a0), some (.ref a1)] [.ref a0] τ) ∧
    (∀ (a0 : Nat) (a1 : Nat) (x0 : Nat) (τ : St), Ru M_Past_add d Q 36 [some (.ref a0), some (.ref a1)] [.ref x0] τ = Ru M_Past_add d Q 37 [some (.ref a0), some (.ref a1)] [.ref a0, .ref x0] τ) ∧
    (∀ (a0 : Nat) (a1 : Nat) (x0 : Nat) (x1 : Nat) (τ : St), Ru M_Past_add d Q 37 [some (.ref a0), some (.ref a1)] [.ref x0, .ref x1] τ = (isA 2 x0 ∧ Ru M_Past_add d Q 40 [some (.ref a0), some (.ref a1)] [.int (τ.1 x0 1), .ref x1] τ)) ∧
    (∀ (a0 : Nat) (a1 : Nat) (x0 : Int32) (x1 : Nat) (τ : St), Ru M_Past_add d Q 40 [some (.ref a0), some (.ref a1)] [.int x0, .ref x1] τ = Ru M_Past_add d Q 41 [some (.ref a0), some (.ref a1)] [.int 1, .int x0, .ref x1] τ) ∧
    (∀ (a0 : Nat) (a1 : Nat) (x0 : Int32) (x1 : Int32) (x2 : Nat) (τ : St), Ru M_Past_add d Q 41 [some (.ref a0), some (.ref a1)] [.int x0, .int x1, .ref x2] τ = Ru M_Past_add d Q 42 [some (.ref a0), some (.ref a1)] [.int (x1 + x0), .ref x2] τ) ∧
    (∀ (a0 : Nat) (a1 : Nat) (x0 : Int32) (x1 : Nat) (τ : St), Ru M_Past_add d Q 42 [some (.ref a0), some (.ref a1)] [.int x0, .ref x1] τ = Ru M_Past_add d Q 44 [some (.ref a0), some (.ref a1)] [.int 15, .int x0, .ref x1] τ) ∧
    (∀ (a0 : Nat) (a1 : Nat) (x0 : Int32) (x1 : Int32) (x2 : Nat) (τ : St), Ru M_Past_add d Q 44 [some (.ref a0), some (.ref a1)] [.int x0, .int x1, .ref x2] τ = (¬ x0 = 0 ∧ Ru M_Past_add d Q 45 [some (.ref a0), some (.ref a1)] [.int (x1 - x1 / x0 * x0), .ref x2] τ)) ∧
    (∀ (a0 : Nat) (a1 : Nat) (x0 : Int32) (x1 : Nat) (τ : St), Ru M_Past_add d Q 45 [some (.ref a0), some (.ref a1)] [.int x0, .ref x1] τ = (isA 2 x1 ∧ Ru M_Past_add d Q 48 [some (.ref a0), some (.ref a1)] [] (sI τ x1 1 x0))) ∧
    (∀ (a0 : Nat) (a1 : Nat) (τ : St), Ru M_Past_add d Q 48 [some (.ref a0), some (.ref a1)] [] τ = Q none τ) := ⟨
  fun _ _ _ => (R_at ok_Past_add rfl).trans (e_ald rfl),
  fun _ _ _ _ => (R_at ok_Past_add rfl).trans e_gR,
  fun _ _ _ _ => (R_at ok_Past_add rfl).trans (e_ald rfl),
  fun _ _ _ _ _ => (R_at ok_Past_add rfl).trans (e_cv [] rfl rfl rfl),
  fun _ _ _ _ _ => (R_at ok_Past_add rfl).trans e_ala,
  fun _ _ _ _ => (R_at ok_Past_add rfl).trans (e_ald rfl),
  fun _ _ x0 _ _ => (R_at ok_Past_add rfl).trans (e_cv [.ref x0] rfl rfl rfl),
  fun _ _ _ => (R_at ok_Past_add rfl).trans (e_ald rfl),
  fun _ _ _ _ => (R_at ok_Past_add rfl).trans e_gI,
  fun _ _ _ _ => (R_at ok_Past_add rfl).trans e_push,
  fun _ _ _ _ _ => (R_at ok_Past_add rfl).trans e_ic,
  fun _ _ _ => (R_at ok_Past_add rfl).trans (e_ald rfl),
  fun _ _ _ _ => (R_at ok_Past_add rfl).trans (e_dup rfl),
  fun _ _ _ _ _ => (R_at ok_Past_add rfl).trans e_gI,
  fun _ _ _ _ _ => (R_at ok_Past_add rfl).trans e_push,
  fun _ _ _ _ _ _ => (R_at ok_Past_add rfl).trans e_bin,
  fun _ _ _ _ _ => (R_at ok_Past_add rfl).trans e_pI,
  fun _ _ _ => (R_at ok_Past_add rfl).trans e_goto,
  fun _ _ _ => (R_at ok_Past_add rfl).trans (e_ald rfl),
  fun _ _ _ _ => (R_at ok_Past_add rfl).trans (e_ald rfl),
  fun _ _ _ _ _ => (R_at ok_Past_add rfl).trans e_gI,
  fun _ _ _ _ _ => (R_at ok_Past_add rfl).trans e_push,
  fun _ _ _ _ _ _ => (R_at ok_Past_add rfl).trans e_bin,
  fun _ _ _ _ _ => (R_at ok_Past_add rfl).trans e_push,
  fun _ _ _ _ _ _ => (R_at ok_Past_add rfl).trans e_binz,
  fun _ _ _ _ _ => (R_at ok_Past_add rfl).trans e_pI,
  fun _ _ _ => (R_at ok_Past_add rfl).trans e_vret⟩
set_option maxHeartbeats 4000000 in
theorem N_Past_stepBack (d : Nat) (Q : Qt) : ∀ (x0 : Nat) (x1 : Nat) (τ : St), Cl (d + 1) m_Past_stepBack [.ref x0, .ref x1] τ Q = Ru M_Past_stepBack d Q 0 [some (.ref x0), some (.ref x1)] [] τ := fun _ _ _ => propext ⟨fun h => h.2, fun h => ⟨Nat.le_of_ble_eq_true rfl, h⟩⟩
set_option maxHeartbeats 4000000 in
theorem E_Past_stepBack (d : Nat) (Q : Qt) :
    (∀ (a0 : Nat) (a1 : Nat) (τ : St), Ru M_Past_stepBack d Q 0 [some (.ref a0), some (.ref a1)] [] τ = Ru M_Past_stepBack d Q 1 [some (.ref a0), some (.ref a1)] [.ref a0] τ) ∧
    (∀ (a0 : Nat) (a1 : Nat) (x0 : Nat) (τ : St), Ru M_Past_stepBack d Q 1 [some (.ref a0), some (.ref a1)] [.ref x0] τ = (isA 2 x0 ∧ Ru M_Past_stepBack d Q 4 [some (.ref a0), some (.ref a1)] [.int (τ.1 x0 2)] τ)) ∧
    (∀ (a0 : Nat) (a1 : Nat) (x0 : Int32) (τ : St), Ru M_Past_stepBack d Q 4 [some (.ref a0), some (.ref a1)] [.int x0] τ = Ru M_Past_stepBack d Q 5 [some (.ref a0), some (.ref a1)] [.int 1, .int x0] τ) ∧
    (∀ (a0 : Nat) (a1 : Nat) (x0 : Int32) (x1 : Int32) (τ : St), Ru M_Past_stepBack d Q 5 [some (.ref a0), some (.ref a1)] [.int x0, .int x1] τ = ((x0 ≤ x1 → Ru M_Past_stepBack d Q 10 [some (.ref a0), some (.ref a1)] [] τ) ∧ (¬ x0 ≤ x1 → Ru M_Past_stepBack d Q 8 [some (.ref a0), some (.ref a1)] [] τ))) ∧
    (∀ (a0 : Nat) (a1 : Nat) (τ : St), Ru M_Past_stepBack d Q 8 [some (.ref a0), some (.ref a1)] [] τ = Ru M_Past_stepBack d Q 9 [some (.ref a0), some (.ref a1)] [.int 0] τ) ∧
    (∀ (a0 : Nat) (a1 : Nat) (x0 : Int32) (τ : St), Ru M_Past_stepBack d Q 9 [some (.ref a0), some (.ref a1)] [.int x0] τ = ((x0 = 0 ∨ x0 = 1) ∧ Q (some (.int x0)) τ)) ∧
    (∀ (a0 : Nat) (a1 : Nat) (τ : St), Ru M_Past_stepBack d Q 10 [some (.ref a0), some (.ref a1)] [] τ = Ru M_Past_stepBack d Q 11 [some (.ref a0), some (.ref a1)] [.ref a0] τ) ∧
    (∀ (a0 : Nat) (a1 : Nat) (x0 : Nat) (τ : St), Ru M_Past_stepBack d Q 11 [some (.ref a0), some (.ref a1)] [.ref x0] τ = Ru M_Past_stepBack d Q 12 [some (.ref a0), some (.ref a1)] [.ref x0, .ref x0] τ) ∧
    (∀ (a0 : Nat) (a1 : Nat) (x0 : Nat) (x1 : Nat) (τ : St), Ru M_Past_stepBack d Q 12 [some (.ref a0), some (.ref a1)] [.ref x0, .ref x1] τ = (isA 2 x0 ∧ Ru M_Past_stepBack d Q 15 [some (.ref a0), some (.ref a1)] [.int (τ.1 x0 2), .ref x1] τ)) ∧
    (∀ (a0 : Nat) (a1 : Nat) (x0 : Int32) (x1 : Nat) (τ : St), Ru M_Past_stepBack d Q 15 [some (.ref a0), some (.ref a1)] [.int x0, .ref x1] τ = Ru M_Past_stepBack d Q 16 [some (.ref a0), some (.ref a1)] [.int 1, .int x0, .ref x1] τ) ∧
    (∀ (a0 : Nat) (a1 : Nat) (x0 : Int32) (x1 : Int32) (x2 : Nat) (τ : St), Ru M_Past_stepBack d Q 16 [some (.ref a0), some (.ref a1)] [.int x0, .int x1, .ref x2] τ = Ru M_Past_stepBack d Q 17 [some (.ref a0), some (.ref a1)] [.int (x1 - x0), .ref x2] τ) ∧
    (∀ (a0 : Nat) (a1 : Nat) (x0 : Int32) (x1 : Nat) (τ : St), Ru M_Past_stepBack d Q 17 [some (.ref a0), some (.ref a1)] [.int x0, .ref x1] τ = (isA 2 x1 ∧ Ru M_Past_stepBack d Q 20 [some (.ref a0), some (.ref a1)] [] (sI τ x1 2 x0))) ∧
    (∀ (a0 : Nat) (a1 : Nat) (τ : St), Ru M_Past_stepBack d Q 20 [some (.ref a0), some (.ref a1)] [] τ = Ru M_Past_stepBack d Q 21 [some (.ref a0), some (.ref a1)] [.ref a1] τ) ∧
    (∀ (a0 : Nat) (a1 : Nat) (x0 : Nat) (τ : St), Ru M_Past_stepBack d Q 21 [some (.ref a0), some (.ref a1)] [.ref x0] τ = Ru M_Past_stepBack d Q 22 [some (.ref a0), some (.ref a1)] [.ref a0, .ref x0] τ) ∧
    (∀ (a0 : Nat) (a1 : Nat) (x0 : Nat) (x1 : Nat) (τ : St), Ru M_Past_stepBack d Q 22 [some (.ref a0), some (.ref a1)] [.ref x0, .ref x1] τ = (isA 2 x0 ∧ Ru M_Past_stepBack d Q 25 [some (.ref a0), some (.ref a1)] [.ref (rtab x0 0), .ref x1] τ)) ∧
    (∀ (a0 : Nat) (a1 : Nat) (x0 : Nat) (x1 : Nat) (τ : St), Ru M_Past_stepBack d Q 25 [some (.ref a0), some (.ref a1)] [.ref x0, .ref x1] τ = Ru M_Past_stepBack d Q 26 [some (.ref a0), some (.ref a1)] [.ref a0, .ref x0, .ref x1] τ) ∧
    (∀ (a0 : Nat) (a1 : Nat) (x0 : Nat) (x1 : Nat) (x2 : Nat) (τ : St), Ru M_Past_stepBack d Q 26 [some (.ref a0), some (.ref a1)] [.ref x0, .ref x1, .ref x2] τ = (isA 2 x0 ∧ Cl d m_Past_slot [.ref x0] τ (fun v τ' => Ru M_Past_stepBack d Q 29 [some (.ref a0), some (.ref a1)] (v.toList ++ [.ref x1, .ref x2]) τ'))) ∧
    (∀ (a0 : Nat) (a1 : Nat) (x0 : Int32) (x1 : Nat) (x2 : Nat) (τ : St), Ru M_Past_stepBack d Q 29 [some (.ref a0), some (.ref a1)] [.int x0, .ref x1, .ref x2] τ = (isA 17 x1 ∧ vp_in x0 (len x1) ∧ Ru M_Past_stepBack d Q 30 [some (.ref a0), some (.ref a1)] [.ref (mrf x1 x0.toNatClampNeg), .ref x2] τ)) ∧
    (∀ (a0 : Nat) (a1 : Nat) (x0 : Nat) (x1 : Nat) (τ : St), Ru M_Past_stepBack d Q 30 [some (.ref a0), some (.ref a1)] [.ref x0, .ref x1] τ = (isA 1 x1 ∧ Cl d m_Moment_copy [.ref x1, .ref x0] τ (fun v τ' => Ru M_Past_stepBack d Q 33 [some (.ref a0), some (.ref a1)] (v.toList ++ []) τ'))) ∧
    (∀ (a0 : Nat) (a1 : Nat) (τ : St), Ru M_Past_stepBack d Q 33 [some (.ref a0), some (.ref a1)] [] τ = Ru M_Past_stepBack d Q 34 [some (.ref a0), some (.ref a1)] [.int 1] τ) ∧
    (∀ (a0 : Nat) (a1 : Nat) (x0 : Int32) (τ : St), Ru M_Past_stepBack d Q 34 [some (.ref a0), some (.ref a1)] [.int x0] τ = ((x0 = 0 ∨ x0 = 1) ∧ Q (some (.int x0)) τ)) := ⟨
  fun _ _ _ => (R_at ok_Past_stepBack rfl).trans (e_ald rfl),
  fun _ _ _ _ => (R_at ok_Past_stepBack rfl).trans e_gI,
  fun _ _ _ _ => (R_at ok_Past_stepBack rfl).trans e_push,
  fun _ _ _ _ _ => (R_at ok_Past_stepBack rfl).trans e_ic,
  fun _ _ _ => (R_at ok_Past_stepBack rfl).trans e_push,
  fun _ _ _ _ => (R_at ok_Past_stepBack rfl).trans e_zret,
  fun _ _ _ => (R_at ok_Past_stepBack rfl).trans (e_ald rfl),
  fun _ _ _ _ => (R_at ok_Past_stepBack rfl).trans (e_dup rfl),
  fun _ _ _ _ _ => (R_at ok_Past_stepBack rfl).trans e_gI,
  fun _ _ _ _ _ => (R_at ok_Past_stepBack rfl).trans e_push,
  fun _ _ _ _ _ _ => (R_at ok_Past_stepBack rfl).trans e_bin,
  fun _ _ _ _ _ => (R_at ok_Past_stepBack rfl).trans e_pI,
  fun _ _ _ => (R_at ok_Past_stepBack rfl).trans (e_ald rfl),
  fun _ _ _ _ => (R_at ok_Past_stepBack rfl).trans (e_ald rfl),
  fun _ _ _ _ _ => (R_at ok_Past_stepBack rfl).trans e_gR,
  fun _ _ _ _ _ => (R_at ok_Past_stepBack rfl).trans (e_ald rfl),
  fun _ _ _ _ _ _ => (R_at ok_Past_stepBack rfl).trans (e_cv [] rfl rfl rfl),
  fun _ _ _ _ _ _ => (R_at ok_Past_stepBack rfl).trans e_ala,
  fun _ _ x0 _ _ => (R_at ok_Past_stepBack rfl).trans (e_cv [.ref x0] rfl rfl rfl),
  fun _ _ _ => (R_at ok_Past_stepBack rfl).trans e_push,
  fun _ _ _ _ => (R_at ok_Past_stepBack rfl).trans e_zret⟩
set_option maxHeartbeats 4000000 in
theorem N_Past_slot (d : Nat) (Q : Qt) : ∀ (x0 : Nat) (τ : St), Cl (d + 1) m_Past_slot [.ref x0] τ Q = Ru M_Past_slot d Q 0 [some (.ref x0)] [] τ := fun _ _ => propext ⟨fun h => h.2, fun h => ⟨Nat.le_of_ble_eq_true rfl, h⟩⟩
set_option maxHeartbeats 4000000 in
theorem E_Past_slot (d : Nat) (Q : Qt) :
    (∀ (a0 : Nat) (τ : St), Ru M_Past_slot d Q 0 [some (.ref a0)] [] τ = Ru M_Past_slot d Q 1 [some (.ref a0)] [.ref a0] τ) ∧
    (∀ (a0 : Nat) (x0 : Nat) (τ : St), Ru M_Past_slot d Q 1 [some (.ref a0)] [.ref x0] τ = (isA 2 x0 ∧ Ru M_Past_slot d Q 4 [some (.ref a0)] [.int (τ.1 x0 1)] τ)) ∧
    (∀ (a0 : Nat) (x0 : Int32) (τ : St), Ru M_Past_slot d Q 4 [some (.ref a0)] [.int x0] τ = Ru M_Past_slot d Q 5 [some (.ref a0)] [.ref a0, .int x0] τ) ∧
    (∀ (a0 : Nat) (x0 : Nat) (x1 : Int32) (τ : St), Ru M_Past_slot d Q 5 [some (.ref a0)] [.ref x0, .int x1] τ = (isA 2 x0 ∧ Ru M_Past_slot d Q 8 [some (.ref a0)] [.int (τ.1 x0 2), .int x1] τ)) ∧
    (∀ (a0 : Nat) (x0 : Int32) (x1 : Int32) (τ : St), Ru M_Past_slot d Q 8 [some (.ref a0)] [.int x0, .int x1] τ = Ru M_Past_slot d Q 9 [some (.ref a0)] [.int (x1 + x0)] τ) ∧
    (∀ (a0 : Nat) (x0 : Int32) (τ : St), Ru M_Past_slot d Q 9 [some (.ref a0)] [.int x0] τ = Ru M_Past_slot d Q 11 [some (.ref a0)] [.int 15, .int x0] τ) ∧
    (∀ (a0 : Nat) (x0 : Int32) (x1 : Int32) (τ : St), Ru M_Past_slot d Q 11 [some (.ref a0)] [.int x0, .int x1] τ = Cl d m_floorMod [.int x1, .int x0] τ (fun v τ' => Ru M_Past_slot d Q 14 [some (.ref a0)] (v.toList ++ []) τ')) ∧
    (∀ (a0 : Nat) (x0 : Int32) (τ : St), Ru M_Past_slot d Q 14 [some (.ref a0)] [.int x0] τ = Q (some (.int x0)) τ) := ⟨
  fun _ _ => (R_at ok_Past_slot rfl).trans (e_ald rfl),
  fun _ _ _ => (R_at ok_Past_slot rfl).trans e_gI,
  fun _ _ _ => (R_at ok_Past_slot rfl).trans (e_ald rfl),
  fun _ _ _ _ => (R_at ok_Past_slot rfl).trans e_gI,
  fun _ _ _ _ => (R_at ok_Past_slot rfl).trans e_bin,
  fun _ _ _ => (R_at ok_Past_slot rfl).trans e_push,
  fun _ x0 x1 _ => (R_at ok_Past_slot rfl).trans (e_cs [.int x1, .int x0] rfl rfl rfl),
  fun _ _ _ => (R_at ok_Past_slot rfl).trans e_iret⟩
set_option maxHeartbeats 4000000 in
theorem N_Pulls_start (d : Nat) (Q : Qt) : ∀ (x0 : Nat) (τ : St), Cl (d + 1) m_Pulls_start [.ref x0] τ Q = Ru M_Pulls_start d Q 0 [some (.ref x0)] [] τ := fun _ _ => propext ⟨fun h => h.2, fun h => ⟨Nat.le_of_ble_eq_true rfl, h⟩⟩
set_option maxHeartbeats 4000000 in
theorem E_Pulls_start (d : Nat) (Q : Qt) :
    (∀ (a0 : Nat) (τ : St), Ru M_Pulls_start d Q 0 [some (.ref a0)] [] τ = Ru M_Pulls_start d Q 1 [some (.ref a0)] [.ref a0] τ) ∧
    (∀ (a0 : Nat) (x0 : Nat) (τ : St), Ru M_Pulls_start d Q 1 [some (.ref a0)] [.ref x0] τ = Ru M_Pulls_start d Q 2 [some (.ref a0)] [.int 0, .ref x0] τ) ∧
    (∀ (a0 : Nat) (x0 : Int32) (x1 : Nat) (τ : St), Ru M_Pulls_start d Q 2 [some (.ref a0)] [.int x0, .ref x1] τ = (isA 3 x1 ∧ Ru M_Pulls_start d Q 5 [some (.ref a0)] [] (sI τ x1 1 x0))) ∧
    (∀ (a0 : Nat) (τ : St), Ru M_Pulls_start d Q 5 [some (.ref a0)] [] τ = Q none τ) := ⟨
  fun _ _ => (R_at ok_Pulls_start rfl).trans (e_ald rfl),
  fun _ _ _ => (R_at ok_Pulls_start rfl).trans e_push,
  fun _ _ _ _ => (R_at ok_Pulls_start rfl).trans e_pI,
  fun _ _ => (R_at ok_Pulls_start rfl).trans e_vret⟩
set_option maxHeartbeats 4000000 in
theorem N_Pulls_turnTo (d : Nat) (Q : Qt) : ∀ (x0 : Nat) (x1 : Int32) (x2 : Int32) (x3 : Nat) (x4 : Int32) (τ : St), Cl (d + 1) m_Pulls_turnTo [.ref x0, .int x1, .int x2, .ref x3, .int x4] τ Q = Ru M_Pulls_turnTo d Q 0 [some (.ref x0), some (.int x1), some (.int x2), some (.ref x3), some (.int x4), none] [] τ := fun _ _ _ _ _ _ => propext ⟨fun h => h.2, fun h => ⟨Nat.le_of_ble_eq_true rfl, h⟩⟩
set_option maxHeartbeats 4000000 in
theorem E_Pulls_turnTo (d : Nat) (Q : Qt) :
    (∀ (a0 : Nat) (a1 : Int32) (a2 : Int32) (a3 : Nat) (a4 : Int32) (τ : St), Ru M_Pulls_turnTo d Q 0 [some (.ref a0), some (.int a1), some (.int a2), some (.ref a3), some (.int a4), none] [] τ = Ru M_Pulls_turnTo d Q 1 [some (.ref a0), some (.int a1), some (.int a2), some (.ref a3), some (.int a4), none] [.ref a0] τ) ∧
    (∀ (a0 : Nat) (a1 : Int32) (a2 : Int32) (a3 : Nat) (a4 : Int32) (x0 : Nat) (τ : St), Ru M_Pulls_turnTo d Q 1 [some (.ref a0), some (.int a1), some (.int a2), some (.ref a3), some (.int a4), none] [.ref x0] τ = Ru M_Pulls_turnTo d Q 2 [some (.ref a0), some (.int a1), some (.int a2), some (.ref a3), some (.int a4), none] [.int a2, .ref x0] τ) ∧
    (∀ (a0 : Nat) (a1 : Int32) (a2 : Int32) (a3 : Nat) (a4 : Int32) (x0 : Int32) (x1 : Nat) (τ : St), Ru M_Pulls_turnTo d Q 2 [some (.ref a0), some (.int a1), some (.int a2), some (.ref a3), some (.int a4), none] [.int x0, .ref x1] τ = (isA 3 x1 ∧ Ru M_Pulls_turnTo d Q 5 [some (.ref a0), some (.int a1), some (.int a2), some (.ref a3), some (.int a4), none] [] (sI τ x1 3 x0))) ∧
    (∀ (a0 : Nat) (a1 : Int32) (a2 : Int32) (a3 : Nat) (a4 : Int32) (τ : St), Ru M_Pulls_turnTo d Q 5 [some (.ref a0), some (.int a1), some (.int a2), some (.ref a3), some (.int a4), none] [] τ = Ru M_Pulls_turnTo d Q 6 [some (.ref a0), some (.int a1), some (.int a2), some (.ref a3), some (.int a4), none] [.int a1] τ) ∧
    (∀ (a0 : Nat) (a1 : Int32) (a2 : Int32) (a3 : Nat) (a4 : Int32) (x0 : Int32) (τ : St), Ru M_Pulls_turnTo d Q 6 [some (.ref a0), some (.int a1), some (.int a2), some (.ref a3), some (.int a4), none] [.int x0] τ = ((x0 < 0 → Ru M_Pulls_turnTo d Q 15 [some (.ref a0), some (.int a1), some (.int a2), some (.ref a3), some (.int a4), none] [] τ) ∧ (¬ x0 < 0 → Ru M_Pulls_turnTo d Q 9 [some (.ref a0), some (.int a1), some (.int a2), some (.ref a3), some (.int a4), none] [] τ))) ∧
    (∀ (a0 : Nat) (a1 : Int32) (a2 : Int32) (a3 : Nat) (a4 : Int32) (τ : St), Ru M_Pulls_turnTo d Q 9 [some (.ref a0), some (.int a1), some (.int a2), some (.ref a3), some (.int a4), none] [] τ = Ru M_Pulls_turnTo d Q 10 [some (.ref a0), some (.int a1), some (.int a2), some (.ref a3), some (.int a4), none] [.int a1] τ) ∧
    (∀ (a0 : Nat) (a1 : Int32) (a2 : Int32) (a3 : Nat) (a4 : Int32) (x0 : Int32) (τ : St), Ru M_Pulls_turnTo d Q 10 [some (.ref a0), some (.int a1), some (.int a2), some (.ref a3), some (.int a4), none] [.int x0] τ = Ru M_Pulls_turnTo d Q 12 [some (.ref a0), some (.int a1), some (.int a2), some (.ref a3), some (.int a4), none] [.int 10, .int x0] τ) ∧
    (∀ (a0 : Nat) (a1 : Int32) (a2 : Int32) (a3 : Nat) (a4 : Int32) (x0 : Int32) (x1 : Int32) (τ : St), Ru M_Pulls_turnTo d Q 12 [some (.ref a0), some (.int a1), some (.int a2), some (.ref a3), some (.int a4), none] [.int x0, .int x1] τ = ((x1 < x0 → Ru M_Pulls_turnTo d Q 16 [some (.ref a0), some (.int a1), some (.int a2), some (.ref a3), some (.int a4), none] [] τ) ∧ (¬ x1 < x0 → Ru M_Pulls_turnTo d Q 15 [some (.ref a0), some (.int a1), some (.int a2), some (.ref a3), some (.int a4), none] [] τ))) ∧
    (∀ (a0 : Nat) (a1 : Int32) (a2 : Int32) (a3 : Nat) (a4 : Int32) (τ : St), Ru M_Pulls_turnTo d Q 15 [some (.ref a0), some (.int a1), some (.int a2), some (.ref a3), some (.int a4), none] [] τ = Q none τ) ∧
    (∀ (a0 : Nat) (a1 : Int32) (a2 : Int32) (a3 : Nat) (a4 : Int32) (τ : St), Ru M_Pulls_turnTo d Q 16 [some (.ref a0), some (.int a1), some (.int a2), some (.ref a3), some (.int a4), none] [] τ = Ru M_Pulls_turnTo d Q 17 [some (.ref a0), some (.int a1), some (.int a2), some (.ref a3), some (.int a4), none] [.ref a0] τ) ∧
    (∀ (a0 : Nat) (a1 : Int32) (a2 : Int32) (a3 : Nat) (a4 : Int32) (x0 : Nat) (τ : St), Ru M_Pulls_turnTo d Q 17 [some (.ref a0), some (.int a1), some (.int a2), some (.ref a3), some (.int a4), none] [.ref x0] τ = Ru M_Pulls_turnTo d Q 18 [some (.ref a0), some (.int a1), some (.int a2), some (.ref a3), some (.int a4), none] [.int a1, .ref x0] τ) ∧
    (∀ (a0 : Nat) (a1 : Int32) (a2 : Int32) (a3 : Nat) (a4 : Int32) (x0 : Int32) (x1 : Nat) (τ : St), Ru M_Pulls_turnTo d Q 18 [some (.ref a0), some (.int a1), some (.int a2), some (.ref a3), some (.int a4), none] [.int x0, .ref x1] τ = Ru M_Pulls_turnTo d Q 20 [some (.ref a0), some (.int a1), some (.int a2), some (.ref a3), some (.int a4), none] [.int 38, .int x0, .ref x1] τ) ∧
    (∀ (a0 : Nat) (a1 : Int32) (a2 : Int32) (a3 : Nat) (a4 : Int32) (x0 : Int32) (x1 : Int32) (x2 : Nat) (τ : St), Ru M_Pulls_turnTo d Q 20 [some (.ref a0), some (.int a1), some (.int a2), some (.ref a3), some (.int a4), none] [.int x0, .int x1, .ref x2] τ = Ru M_Pulls_turnTo d Q 21 [some (.ref a0), some (.int a1), some (.int a2), some (.ref a3), some (.int a4), none] [.int (x1 * x0), .ref x2] τ) ∧
    (∀ (a0 : Nat) (a1 : Int32) (a2 : Int32) (a3 : Nat) (a4 : Int32) (x0 : Int32) (x1 : Nat) (τ : St), Ru M_Pulls_turnTo d Q 21 [some (.ref a0), some (.int a1), some (.int a2), some (.ref a3), some (.int a4), none] [.int x0, .ref x1] τ = (isA 3 x1 ∧ Ru M_Pulls_turnTo d Q 24 [some (.ref a0), some (.int a1), some (.int a2), some (.ref a3), some (.int a4), none] [] (sI τ x1 2 x0))) ∧
    (∀ (a0 : Nat) (a1 : Int32) (a2 : Int32) (a3 : Nat) (a4 : Int32) (τ : St), Ru M_Pulls_turnTo d Q 24 [some (.ref a0), some (.int a1), some (.int a2), some (.ref a3), some (.int a4), none] [] τ = Ru M_Pulls_turnTo d Q 25 [some (.ref a0), some (.int a1), some (.int a2), some (.ref a3), some (.int a4), none] [.ref a0] τ) ∧
    (∀ (a0 : Nat) (a1 : Int32) (a2 : Int32) (a3 : Nat) (a4 : Int32) (x0 : Nat) (τ : St), Ru M_Pulls_turnTo d Q 25 [some (.ref a0), some (.int a1), some (.int a2), some (.ref a3), some (.int a4), none] [.ref x0] τ = (isA 3 x0 ∧ Ru M_Pulls_turnTo d Q 28 [some (.ref a0), some (.int a1), some (.int a2), some (.ref a3), some (.int a4), none] [.int (τ.1 x0 1)] τ)) ∧
    (∀ (a0 : Nat) (a1 : Int32) (a2 : Int32) (a3 : Nat) (a4 : Int32) (x0 : Int32) (τ : St), Ru M_Pulls_turnTo d Q 28 [some (.ref a0), some (.int a1), some (.int a2), some (.ref a3), some (.int a4), none] [.int x0] τ = Ru M_Pulls_turnTo d Q 29 [some (.ref a0), some (.int a1), some (.int a2), some (.ref a3), some (.int a4), none] [.int a1, .int x0] τ) ∧
    (∀ (a0 : Nat) (a1 : Int32) (a2 : Int32) (a3 : Nat) (a4 : Int32) (x0 : Int32) (x1 : Int32) (τ : St), Ru M_Pulls_turnTo d Q 29 [some (.ref a0), some (.int a1), some (.int a2), some (.ref a3), some (.int a4), none] [.int x0, .int x1] τ = Ru M_Pulls_turnTo d Q 30 [some (.ref a0), some (.int a1), some (.int a2), some (.ref a3), some (.int a4), none] [.int ((x1.toUInt32 >>> (x0.toUInt32 &&& Int32.toUInt32 31)).toInt32)] τ) ∧
    (∀ (a0 : Nat) (a1 : Int32) (a2 : Int32) (a3 : Nat) (a4 : Int32) (x0 : Int32) (τ : St), Ru M_Pulls_turnTo d Q 30 [some (.ref a0), some (.int a1), some (.int a2), some (.ref a3), some (.int a4), none] [.int x0] τ = Ru M_Pulls_turnTo d Q 31 [some (.ref a0), some (.int a1), some (.int a2), some (.ref a3), some (.int a4), none] [.int 1, .int x0] τ) ∧
    (∀ (a0 : Nat) (a1 : Int32) (a2 : Int32) (a3 : Nat) (a4 : Int32) (x0 : Int32) (x1 : Int32) (τ : St), Ru M_Pulls_turnTo d Q 31 [some (.ref a0), some (.int a1), some (.int a2), some (.ref a3), some (.int a4), none] [.int x0, .int x1] τ = Ru M_Pulls_turnTo d Q 32 [some (.ref a0), some (.int a1), some (.int a2), some (.ref a3), some (.int a4), none] [.int (x1 &&& x0)] τ) ∧
    (∀ (a0 : Nat) (a1 : Int32) (a2 : Int32) (a3 : Nat) (a4 : Int32) (x0 : Int32) (τ : St), Ru M_Pulls_turnTo d Q 32 [some (.ref a0), some (.int a1), some (.int a2), some (.ref a3), some (.int a4), none] [.int x0] τ = ((¬ x0 = 0 → Ru M_Pulls_turnTo d Q 93 [some (.ref a0), some (.int a1), some (.int a2), some (.ref a3), some (.int a4), none] [] τ) ∧ (x0 = 0 → Ru M_Pulls_turnTo d Q 35 [some (.ref a0), some (.int a1), some (.int a2), some (.ref a3), some (.int a4), none] [] τ))) ∧
    (∀ (a0 : Nat) (a1 : Int32) (a2 : Int32) (a3 : Nat) (a4 : Int32) (τ : St), Ru M_Pulls_turnTo d Q 35 [some (.ref a0), some (.int a1), some (.int a2), some (.ref a3), some (.int a4), none] [] τ = Ru M_Pulls_turnTo d Q 36 [some (.ref a0), some (.int a1), some (.int a2), some (.ref a3), some (.int a4), none] [.ref a0] τ) ∧
    (∀ (a0 : Nat) (a1 : Int32) (a2 : Int32) (a3 : Nat) (a4 : Int32) (x0 : Nat) (τ : St), Ru M_Pulls_turnTo d Q 36 [some (.ref a0), some (.int a1), some (.int a2), some (.ref a3), some (.int a4), none] [.ref x0] τ = Ru M_Pulls_turnTo d Q 37 [some (.ref a0), some (.int a1), some (.int a2), some (.ref a3), some (.int a4), none] [.ref x0, .ref x0] τ) ∧
    (∀ (a0 : Nat) (a1 : Int32) (a2 : Int32) (a3 : Nat) (a4 : Int32) (x0 : Nat) (x1 : Nat) (τ : St), Ru M_Pulls_turnTo d Q 37 [some (.ref a0), some (.int a1), some (.int a2), some (.ref a3), some (.int a4), none] [.ref x0, .ref x1] τ = (isA 3 x0 ∧ Ru M_Pulls_turnTo d Q 40 [some (.ref a0), some (.int a1), some (.int a2), some (.ref a3), some (.int a4), none] [.int (τ.1 x0 1), .ref x1] τ)) ∧
    (∀ (a0 : Nat) (a1 : Int32) (a2 : Int32) (a3 : Nat) (a4 : Int32) (x0 : Int32) (x1 : Nat) (τ : St), Ru M_Pulls_turnTo d Q 40 [some (.ref a0), some (.int a1), some (.int a2), some (.ref a3), some (.int a4), none] [.int x0, .ref x1] τ = Ru M_Pulls_turnTo d Q 41 [some (.ref a0), some (.int a1), some (.int a2), some (.ref a3), some (.int a4), none] [.int 1, .int x0, .ref x1] τ) ∧
    (∀ (a0 : Nat) (a1 : Int32) (a2 : Int32) (a3 : Nat) (a4 : Int32) (x0 : Int32) (x1 : Int32) (x2 : Nat) (τ : St), Ru M_Pulls_turnTo d Q 41 [some (.ref a0), some (.int a1), some (.int a2), some (.ref a3), some (.int a4), none] [.int x0, .int x1, .ref x2] τ = Ru M_Pulls_turnTo d Q 42 [some (.ref a0), some (.int a1), some (.int a2), some (.ref a3), some (.int a4), none] [.int a1, .int x0, .int x1, .ref x2] τ) ∧
    (∀ (a0 : Nat) (a1 : Int32) (a2 : Int32) (a3 : Nat) (a4 : Int32) (x0 : Int32) (x1 : Int32) (x2 : Int32) (x3 : Nat) (τ : St), Ru M_Pulls_turnTo d Q 42 [some (.ref a0), some (.int a1), some (.int a2), some (.ref a3), some (.int a4), none] [.int x0, .int x1, .int x2, .ref x3] τ = Ru M_Pulls_turnTo d Q 43 [some (.ref a0), some (.int a1), some (.int a2), some (.ref a3), some (.int a4), none] [.int (x1 <<< (x0 &&& 31)), .int x2, .ref x3] τ) ∧
    (∀ (a0 : Nat) (a1 : Int32) (a2 : Int32) (a3 : Nat) (a4 : Int32) (x0 : Int32) (x1 : Int32) (x2 : Nat) (τ : St), Ru M_Pulls_turnTo d Q 43 [some (.ref a0), some (.int a1), some (.int a2), some (.ref a3), some (.int a4), none] [.int x0, .int x1, .ref x2] τ = Ru M_Pulls_turnTo d Q 44 [some (.ref a0), some (.int a1), some (.int a2), some (.ref a3), some (.int a4), none] [.int (x1 ||| x0), .ref x2] τ) ∧
    (∀ (a0 : Nat) (a1 : Int32) (a2 : Int32) (a3 : Nat) (a4 : Int32) (x0 : Int32) (x1 : Nat) (τ : St), Ru M_Pulls_turnTo d Q 44 [some (.ref a0), some (.int a1), some (.int a2), some (.ref a3), some (.int a4), none] [.int x0, .ref x1] τ = (isA 3 x1 ∧ Ru M_Pulls_turnTo d Q 47 [some (.ref a0), some (.int a1), some (.int a2), some (.ref a3), some (.int a4), none] [] (sI τ x1 1 x0))) ∧
    (∀ (a0 : Nat) (a1 : Int32) (a2 : Int32) (a3 : Nat) (a4 : Int32) (τ : St), Ru M_Pulls_turnTo d Q 47 [some (.ref a0), some (.int a1), some (.int a2), some (.ref a3), some (.int a4), none] [] τ = Ru M_Pulls_turnTo d Q 48 [some (.ref a0), some (.int a1), some (.int a2), some (.ref a3), some (.int a4), none] [.int 0] τ) ∧
    (∀ (a0 : Nat) (a1 : Int32) (a2 : Int32) (a3 : Nat) (a4 : Int32) (x0 : Int32) (τ : St), Ru M_Pulls_turnTo d Q 48 [some (.ref a0), some (.int a1), some (.int a2), some (.ref a3), some (.int a4), none] [.int x0] τ = Rs M_Pulls_turnTo d Q 50 [some (.ref a0), some (.int a1), some (.int a2), some (.ref a3), some (.int a4), some (.int x0)] [] τ) ∧
    (∀ (a0 : Nat) (a1 : Int32) (a2 : Int32) (a3 : Nat) (a4 : Int32) (a5 : Int32) (τ : St), Ru M_Pulls_turnTo d Q 50 [some (.ref a0), some (.int a1), some (.int a2), some (.ref a3), some (.int a4), some (.int a5)] [] τ = Ru M_Pulls_turnTo d Q 52 [some (.ref a0), some (.int a1), some (.int a2), some (.ref a3), some (.int a4), some (.int a5)] [.int a5] τ) ∧
    (∀ (a0 : Nat) (a1 : Int32) (a2 : Int32) (a3 : Nat) (a4 : Int32) (a5 : Int32) (x0 : Int32) (τ : St), Ru M_Pulls_turnTo d Q 52 [some (.ref a0), some (.int a1), some (.int a2), some (.ref a3), some (.int a4), some (.int a5)] [.int x0] τ = Ru M_Pulls_turnTo d Q 54 [some (.ref a0), some (.int a1), some (.int a2), some (.ref a3), some (.int a4), some (.int a5)] [.int 38, .int x0] τ) ∧
    (∀ (a0 : Nat) (a1 : Int32) (a2 : Int32) (a3 : Nat) (a4 : Int32) (a5 : Int32) (x0 : Int32) (x1 : Int32) (τ : St), Ru M_Pulls_turnTo d Q 54 [some (.ref a0), some (.int a1), some (.int a2), some (.ref a3), some (.int a4), some (.int a5)] [.int x0, .int x1] τ = ((x0 ≤ x1 → Ru M_Pulls_turnTo d Q 93 [some (.ref a0), some (.int a1), some (.int a2), some (.ref a3), some (.int a4), some (.int a5)] [] τ) ∧ (¬ x0 ≤ x1 → Ru M_Pulls_turnTo d Q 57 [some (.ref a0), some (.int a1), some (.int a2), some (.ref a3), some (.int a4), some (.int a5)] [] τ))) ∧
    (∀ (a0 : Nat) (a1 : Int32) (a2 : Int32) (a3 : Nat) (a4 : Int32) (a5 : Int32) (τ : St), Ru M_Pulls_turnTo d Q 57 [some (.ref a0), some (.int a1), some (.int a2), some (.ref a3), some (.int a4), some (.int a5)] [] τ = Ru M_Pulls_turnTo d Q 58 [some (.ref a0), some (.int a1), some (.int a2), some (.ref a3), some (.int a4), some (.int a5)] [.ref a0] τ) ∧
    (∀ (a0 : Nat) (a1 : Int32) (a2 : Int32) (a3 : Nat) (a4 : Int32) (a5 : Int32) (x0 : Nat) (τ : St), Ru M_Pulls_turnTo d Q 58 [some (.ref a0), some (.int a1), some (.int a2), some (.ref a3), some (.int a4), some (.int a5)] [.ref x0] τ = (isA 3 x0 ∧ Ru M_Pulls_turnTo d Q 61 [some (.ref a0), some (.int a1), some (.int a2), some (.ref a3), some (.int a4), some (.int a5)] [.ref (rtab x0 0)] τ)) ∧
    (∀ (a0 : Nat) (a1 : Int32) (a2 : Int32) (a3 : Nat) (a4 : Int32) (a5 : Int32) (x0 : Nat) (τ : St), Ru M_Pulls_turnTo d Q 61 [some (.ref a0), some (.int a1), some (.int a2), some (.ref a3), some (.int a4), some (.int a5)] [.ref x0] τ = Ru M_Pulls_turnTo d Q 62 [some (.ref a0), some (.int a1), some (.int a2), some (.ref a3), some (.int a4), some (.int a5)] [.ref a0, .ref x0] τ) ∧
    (∀ (a0 : Nat) (a1 : Int32) (a2 : Int32) (a3 : Nat) (a4 : Int32) (a5 : Int32) (x0 : Nat) (x1 : Nat) (τ : St), Ru M_Pulls_turnTo d Q 62 [some (.ref a0), some (.int a1), some (.int a2), some (.ref a3), some (.int a4), some (.int a5)] [.ref x0, .ref x1] τ = (isA 3 x0 ∧ Ru M_Pulls_turnTo d Q 65 [some (.ref a0), some (.int a1), some (.int a2), some (.ref a3), some (.int a4), some (.int a5)] [.int (τ.1 x0 2), .ref x1] τ)) ∧
    (∀ (a0 : Nat) (a1 : Int32) (a2 : Int32) (a3 : Nat) (a4 : Int32) (a5 : Int32) (x0 : Int32) (x1 : Nat) (τ : St), Ru M_Pulls_turnTo d Q 65 [some (.ref a0), some (.int a1), some (.int a2), some (.ref a3), some (.int a4), some (.int a5)] [.int x0, .ref x1] τ = Ru M_Pulls_turnTo d Q 67 [some (.ref a0), some (.int a1), some (.int a2), some (.ref a3), some (.int a4), some (.int a5)] [.int a5, .int x0, .ref x1] τ) ∧
    (∀ (a0 : Nat) (a1 : Int32) (a2 : Int32) (a3 : Nat) (a4 : Int32) (a5 : Int32) (x0 : Int32) (x1 : Int32) (x2 : Nat) (τ : St), Ru M_Pulls_turnTo d Q 67 [some (.ref a0), some (.int a1), some (.int a2), some (.ref a3), some (.int a4), some (.int a5)] [.int x0, .int x1, .ref x2] τ = Ru M_Pulls_turnTo d Q 68 [some (.ref a0), some (.int a1), some (.int a2), some (.ref a3), some (.int a4), some (.int a5)] [.int (x1 + x0), .ref x2] τ) ∧
    (∀ (a0 : Nat) (a1 : Int32) (a2 : Int32) (a3 : Nat) (a4 : Int32) (a5 : Int32) (x0 : Int32) (x1 : Nat) (τ : St), Ru M_Pulls_turnTo d Q 68 [some (.ref a0), some (.int a1), some (.int a2), some (.ref a3), some (.int a4), some (.int a5)] [.int x0, .ref x1] τ = Ru M_Pulls_turnTo d Q 69 [some (.ref a0), some (.int a1), some (.int a2), some (.ref a3), some (.int a4), some (.int a5)] [.ref a3, .int x0, .ref x1] τ) ∧
    (∀ (a0 : Nat) (a1 : Int32) (a2 : Int32) (a3 : Nat) (a4 : Int32) (a5 : Int32) (x0 : Nat) (x1 : Int32) (x2 : Nat) (τ : St), Ru M_Pulls_turnTo d Q 69 [some (.ref a0), some (.int a1), some (.int a2), some (.ref a3), some (.int a4), some (.int a5)] [.ref x0, .int x1, .ref x2] τ = Ru M_Pulls_turnTo d Q 71 [some (.ref a0), some (.int a1), some (.int a2), some (.ref a3), some (.int a4), some (.int a5)] [.int a4, .ref x0, .int x1, .ref x2] τ) ∧
    (∀ (a0 : Nat) (a1 : Int32) (a2 : Int32) (a3 : Nat) (a4 : Int32) (a5 : Int32) (x0 : Int32) (x1 : Nat) (x2 : Int32) (x3 : Nat) (τ : St), Ru M_Pulls_turnTo d Q 71 [some (.ref a0), some (.int a1), some (.int a2), some (.ref a3), some (.int a4), some (.int a5)] [.int x0, .ref x1, .int x2, .ref x3] τ = Ru M_Pulls_turnTo d Q 73 [some (.ref a0), some (.int a1), some (.int a2), some (.ref a3), some (.int a4), some (.int a5)] [.int a5, .int x0, .ref x1, .int x2, .ref x3] τ) ∧
    (∀ (a0 : Nat) (a1 : Int32) (a2 : Int32) (a3 : Nat) (a4 : Int32) (a5 : Int32) (x0 : Int32) (x1 : Int32) (x2 : Nat) (x3 : Int32) (x4 : Nat) (τ : St), Ru M_Pulls_turnTo d Q 73 [some (.ref a0), some (.int a1), some (.int a2), some (.ref a3), some (.int a4), some (.int a5)] [.int x0, .int x1, .ref x2, .int x3, .ref x4] τ = Ru M_Pulls_turnTo d Q 74 [some (.ref a0), some (.int a1), some (.int a2), some (.ref a3), some (.int a4), some (.int a5)] [.int 2, .int x0, .int x1, .ref x2, .int x3, .ref x4] τ) ∧
    (∀ (a0 : Nat) (a1 : Int32) (a2 : Int32) (a3 : Nat) (a4 : Int32) (a5 : Int32) (x0 : Int32) (x1 : Int32) (x2 : Int32) (x3 : Nat) (x4 : Int32) (x5 : Nat) (τ : St), Ru M_Pulls_turnTo d Q 74 [some (.ref a0), some (.int a1), some (.int a2), some (.ref a3), some (.int a4), some (.int a5)] [.int x0, .int x1, .int x2, .ref x3, .int x4, .ref x5] τ = (¬ x0 = 0 ∧ Ru M_Pulls_turnTo d Q 75 [some (.ref a0), some (.int a1), some (.int a2), some (.ref a3), some (.int a4), some (.int a5)] [.int (x1 / x0), .int x2, .ref x3, .int x4, .ref x5] τ)) ∧
    (∀ (a0 : Nat) (a1 : Int32) (a2 : Int32) (a3 : Nat) (a4 : Int32) (a5 : Int32) (x0 : Int32) (x1 : Int32) (x2 : Nat) (x3 : Int32) (x4 : Nat) (τ : St), Ru M_Pulls_turnTo d Q 75 [some (.ref a0), some (.int a1), some (.int a2), some (.ref a3), some (.int a4), some (.int a5)] [.int x0, .int x1, .ref x2, .int x3, .ref x4] τ = Ru M_Pulls_turnTo d Q 77 [some (.ref a0), some (.int a1), some (.int a2), some (.ref a3), some (.int a4), some (.int a5)] [.int 9, .int x0, .int x1, .ref x2, .int x3, .ref x4] τ) ∧
    (∀ (a0 : Nat) (a1 : Int32) (a2 : Int32) (a3 : Nat) (a4 : Int32) (a5 : Int32) (x0 : Int32) (x1 : Int32) (x2 : Int32) (x3 : Nat) (x4 : Int32) (x5 : Nat) (τ : St), Ru M_Pulls_turnTo d Q 77 [some (.ref a0), some (.int a1), some (.int a2), some (.ref a3), some (.int a4), some (.int a5)] [.int x0, .int x1, .int x2, .ref x3, .int x4, .ref x5] τ = Ru M_Pulls_turnTo d Q 78 [some (.ref a0), some (.int a1), some (.int a2), some (.ref a3), some (.int a4), some (.int a5)] [.int (x1 - x0), .int x2, .ref x3, .int x4, .ref x5] τ) ∧
    (∀ (a0 : Nat) (a1 : Int32) (a2 : Int32) (a3 : Nat) (a4 : Int32) (a5 : Int32) (x0 : Int32) (x1 : Int32) (x2 : Nat) (x3 : Int32) (x4 : Nat) (τ : St), Ru M_Pulls_turnTo d Q 78 [some (.ref a0), some (.int a1), some (.int a2), some (.ref a3), some (.int a4), some (.int a5)] [.int x0, .int x1, .ref x2, .int x3, .ref x4] τ = Ru M_Pulls_turnTo d Q 80 [some (.ref a0), some (.int a1), some (.int a2), some (.ref a3), some (.int a4), some (.int a5)] [.int a5, .int x0, .int x1, .ref x2, .int x3, .ref x4] τ) ∧
    (∀ (a0 : Nat) (a1 : Int32) (a2 : Int32) (a3 : Nat) (a4 : Int32) (a5 : Int32) (x0 : Int32) (x1 : Int32) (x2 : Int32) (x3 : Nat) (x4 : Int32) (x5 : Nat) (τ : St), Ru M_Pulls_turnTo d Q 80 [some (.ref a0), some (.int a1), some (.int a2), some (.ref a3), some (.int a4), some (.int a5)] [.int x0, .int x1, .int x2, .ref x3, .int x4, .ref x5] τ = Ru M_Pulls_turnTo d Q 81 [some (.ref a0), some (.int a1), some (.int a2), some (.ref a3), some (.int a4), some (.int a5)] [.int 2, .int x0, .int x1, .int x2, .ref x3, .int x4, .ref x5] τ) ∧
    (∀ (a0 : Nat) (a1 : Int32) (a2 : Int32) (a3 : Nat) (a4 : Int32) (a5 : Int32) (x0 : Int32) (x1 : Int32) (x2 : Int32) (x3 : Int32) (x4 : Nat) (x5 : Int32) (x6 : Nat) (τ : St), Ru M_Pulls_turnTo d Q 81 [some (.ref a0), some (.int a1), some (.int a2), some (.ref a3), some (.int a4), some (.int a5)] [.int x0, .int x1, .int x2, .int x3, .ref x4, .int x5, .ref x6] τ = (¬ x0 = 0 ∧ Ru M_Pulls_turnTo d Q 82 [some (.ref a0), some (.int a1), some (.int a2), some (.ref a3), some (.int a4), some (.int a5)] [.int (x1 - x1 / x0 * x0), .int x2, .int x3, .ref x4, .int x5, .ref x6] τ)) ∧
    (∀ (a0 : Nat) (a1 : Int32) (a2 : Int32) (a3 : Nat) (a4 : Int32) (a5 : Int32) (x0 : Int32) (x1 : Int32) (x2 : Int32) (x3 : Nat) (x4 : Int32) (x5 : Nat) (τ : St), Ru M_Pulls_turnTo d Q 82 [some (.ref a0), some (.int a1), some (.int a2), some (.ref a3), some (.int a4), some (.int a5)] [.int x0, .int x1, .int x2, .ref x3, .int x4, .ref x5] τ = Ru M_Pulls_turnTo d Q 83 [some (.ref a0), some (.int a1), some (.int a2), some (.ref a3), some (.int a4), some (.int a5)] [.int a1, .int x0, .int x1, .int x2, .ref x3, .int x4, .ref x5] τ) ∧
    (∀ (a0 : Nat) (a1 : Int32) (a2 : Int32) (a3 : Nat) (a4 : Int32) (a5 : Int32) (x0 : Int32) (x1 : Int32) (x2 : Int32) (x3 : Int32) (x4 : Nat) (x5 : Int32) (x6 : Nat) (τ : St), Ru M_Pulls_turnTo d Q 83 [some (.ref a0), some (.int a1), some (.int a2), some (.ref a3), some (.int a4), some (.int a5)] [.int x0, .int x1, .int x2, .int x3, .ref x4, .int x5, .ref x6] τ = (isA 5 x4 ∧ Cl d m_Rule_dragOf [.ref x4, .int x3, .int x2, .int x1, .int x0] τ (fun v τ' => Ru M_Pulls_turnTo d Q 86 [some (.ref a0), some (.int a1), some (.int a2), some (.ref a3), some (.int a4), some (.int a5)] (v.toList ++ [.int x5, .ref x6]) τ'))) ∧
    (∀ (a0 : Nat) (a1 : Int32) (a2 : Int32) (a3 : Nat) (a4 : Int32) (a5 : Int32) (x0 : Int32) (x1 : Int32) (x2 : Nat) (τ : St), Ru M_Pulls_turnTo d Q 86 [some (.ref a0), some (.int a1), some (.int a2), some (.ref a3), some (.int a4), some (.int a5)] [.int x0, .int x1, .ref x2] τ = (isA 14 x2 ∧ vp_in x1 (len x2) ∧ Ru M_Pulls_turnTo d Q 87 [some (.ref a0), some (.int a1), some (.int a2), some (.ref a3), some (.int a4), some (.int a5)] [] (sI τ x2 x1.toNatClampNeg (x0)))) ∧
    (∀ (a0 : Nat) (a1 : Int32) (a2 : Int32) (a3 : Nat) (a4 : Int32) (a5 : Int32) (τ : St), Ru M_Pulls_turnTo d Q 87 [some (.ref a0), some (.int a1), some (.int a2), some (.ref a3), some (.int a4), some (.int a5)] [] τ = Ru M_Pulls_turnTo d Q 90 [some (.ref a0), some (.int a1), some (.int a2), some (.ref a3), some (.int a4), some (.int (a5 + 1))] [] τ) ∧
    (∀ (a0 : Nat) (a1 : Int32) (a2 : Int32) (a3 : Nat) (a4 : Int32) (a5 : Int32) (τ : St), Ru M_Pulls_turnTo d Q 90 [some (.ref a0), some (.int a1), some (.int a2), some (.ref a3), some (.int a4), some (.int a5)] [] τ = Rs M_Pulls_turnTo d Q 50 [some (.ref a0), some (.int a1), some (.int a2), some (.ref a3), some (.int a4), some (.int a5)] [] τ) ∧
    (∀ (a0 : Nat) (a1 : Int32) (a2 : Int32) (a3 : Nat) (a4 : Int32) (a5 : Option Value) (τ : St), Ru M_Pulls_turnTo d Q 93 [some (.ref a0), some (.int a1), some (.int a2), some (.ref a3), some (.int a4), a5] [] τ = Q none τ) := ⟨
  fun _ _ _ _ _ _ => (R_at ok_Pulls_turnTo rfl).trans (e_ald rfl),
  fun _ _ _ _ _ _ _ => (R_at ok_Pulls_turnTo rfl).trans (e_ild rfl),
  fun _ _ _ _ _ _ _ _ => (R_at ok_Pulls_turnTo rfl).trans e_pI,
  fun _ _ _ _ _ _ => (R_at ok_Pulls_turnTo rfl).trans (e_ild rfl),
  fun _ _ _ _ _ _ _ => (R_at ok_Pulls_turnTo rfl).trans e_if,
  fun _ _ _ _ _ _ => (R_at ok_Pulls_turnTo rfl).trans (e_ild rfl),
  fun _ _ _ _ _ _ _ => (R_at ok_Pulls_turnTo rfl).trans e_push,
  fun _ _ _ _ _ _ _ _ => (R_at ok_Pulls_turnTo rfl).trans e_ic,
  fun _ _ _ _ _ _ => (R_at ok_Pulls_turnTo rfl).trans e_vret,
  fun _ _ _ _ _ _ => (R_at ok_Pulls_turnTo rfl).trans (e_ald rfl),
  fun _ _ _ _ _ _ _ => (R_at ok_Pulls_turnTo rfl).trans (e_ild rfl),
  fun _ _ _ _ _ _ _ _ => (R_at ok_Pulls_turnTo rfl).trans e_push,
  fun _ _ _ _ _ _ _ _ _ => (R_at ok_Pulls_turnTo rfl).trans e_bin,
  fun _ _ _ _ _ _ _ _ => (R_at ok_Pulls_turnTo rfl).trans e_pI,
  fun _ _ _ _ _ _ => (R_at ok_Pulls_turnTo rfl).trans (e_ald rfl),
  fun _ _ _ _ _ _ _ => (R_at ok_Pulls_turnTo rfl).trans e_gI,
  fun _ _ _ _ _ _ _ => (R_at ok_Pulls_turnTo rfl).trans (e_ild rfl),
  fun _ _ _ _ _ _ _ _ => (R_at ok_Pulls_turnTo rfl).trans e_bin,
  fun _ _ _ _ _ _ _ => (R_at ok_Pulls_turnTo rfl).trans e_push,
  fun _ _ _ _ _ _ _ _ => (R_at ok_Pulls_turnTo rfl).trans e_bin,
  fun _ _ _ _ _ _ _ => (R_at ok_Pulls_turnTo rfl).trans e_ifn,
  fun _ _ _ _ _ _ => (R_at ok_Pulls_turnTo rfl).trans (e_ald rfl),
  fun _ _ _ _ _ _ _ => (R_at ok_Pulls_turnTo rfl).trans (e_dup rfl),
  fun _ _ _ _ _ _ _ _ => (R_at ok_Pulls_turnTo rfl).trans e_gI,
  fun _ _ _ _ _ _ _ _ => (R_at ok_Pulls_turnTo rfl).trans e_push,
  fun _ _ _ _ _ _ _ _ _ => (R_at ok_Pulls_turnTo rfl).trans (e_ild rfl),
  fun _ _ _ _ _ _ _ _ _ _ => (R_at ok_Pulls_turnTo rfl).trans e_bin,
  fun _ _ _ _ _ _ _ _ _ => (R_at ok_Pulls_turnTo rfl).trans e_bin,
  fun _ _ _ _ _ _ _ _ => (R_at ok_Pulls_turnTo rfl).trans e_pI,
  fun _ _ _ _ _ _ => (R_at ok_Pulls_turnTo rfl).trans e_push,
  fun _ _ _ _ _ _ _ => (R_at ok_Pulls_turnTo rfl).trans e_ist,
  fun _ _ _ _ _ _ _ => (R_at ok_Pulls_turnTo rfl).trans (e_ild rfl),
  fun _ _ _ _ _ _ _ _ => (R_at ok_Pulls_turnTo rfl).trans e_push,
  fun _ _ _ _ _ _ _ _ _ => (R_at ok_Pulls_turnTo rfl).trans e_ic,
  fun _ _ _ _ _ _ _ => (R_at ok_Pulls_turnTo rfl).trans (e_ald rfl),
  fun _ _ _ _ _ _ _ _ => (R_at ok_Pulls_turnTo rfl).trans e_gR,
  fun _ _ _ _ _ _ _ _ => (R_at ok_Pulls_turnTo rfl).trans (e_ald rfl),
  fun _ _ _ _ _ _ _ _ _ => (R_at ok_Pulls_turnTo rfl).trans e_gI,
  fun _ _ _ _ _ _ _ _ _ => (R_at ok_Pulls_turnTo rfl).trans (e_ild rfl),
  fun _ _ _ _ _ _ _ _ _ _ => (R_at ok_Pulls_turnTo rfl).trans e_bin,
  fun _ _ _ _ _ _ _ _ _ => (R_at ok_Pulls_turnTo rfl).trans (e_ald rfl),
  fun _ _ _ _ _ _ _ _ _ _ => (R_at ok_Pulls_turnTo rfl).trans (e_ild rfl),
  fun _ _ _ _ _ _ _ _ _ _ _ => (R_at ok_Pulls_turnTo rfl).trans (e_ild rfl),
  fun _ _ _ _ _ _ _ _ _ _ _ _ => (R_at ok_Pulls_turnTo rfl).trans e_push,
  fun _ _ _ _ _ _ _ _ _ _ _ _ _ => (R_at ok_Pulls_turnTo rfl).trans e_binz,
  fun _ _ _ _ _ _ _ _ _ _ _ _ => (R_at ok_Pulls_turnTo rfl).trans e_push,
  fun _ _ _ _ _ _ _ _ _ _ _ _ _ => (R_at ok_Pulls_turnTo rfl).trans e_bin,
  fun _ _ _ _ _ _ _ _ _ _ _ _ => (R_at ok_Pulls_turnTo rfl).trans (e_ild rfl),
  fun _ _ _ _ _ _ _ _ _ _ _ _ _ => (R_at ok_Pulls_turnTo rfl).trans e_push,
  fun _ _ _ _ _ _ _ _ _ _ _ _ _ _ => (R_at ok_Pulls_turnTo rfl).trans e_binz,
  fun _ _ _ _ _ _ _ _ _ _ _ _ _ => (R_at ok_Pulls_turnTo rfl).trans (e_ild rfl),
  fun _ _ _ _ _ _ x0 x1 x2 x3 _ _ _ _ => (R_at ok_Pulls_turnTo rfl).trans (e_cv [.int x3, .int x2, .int x1, .int x0] rfl rfl rfl),
  fun _ _ _ _ _ _ _ _ _ _ => (R_at ok_Pulls_turnTo rfl).trans e_as,
  fun _ _ _ _ _ _ _ => (R_at ok_Pulls_turnTo rfl).trans (e_iinc rfl),
  fun _ _ _ _ _ _ _ => (R_at ok_Pulls_turnTo rfl).trans e_goto,
  fun _ _ _ _ _ _ _ => (R_at ok_Pulls_turnTo rfl).trans e_vret⟩
set_option maxHeartbeats 4000000 in
theorem N_Pulls_of (d : Nat) (Q : Qt) : ∀ (x0 : Nat) (x1 : Int32) (x2 : Int32) (τ : St), Cl (d + 1) m_Pulls_of [.ref x0, .int x1, .int x2] τ Q = Ru M_Pulls_of d Q 0 [some (.ref x0), some (.int x1), some (.int x2), none] [] τ := fun _ _ _ _ => propext ⟨fun h => h.2, fun h => ⟨Nat.le_of_ble_eq_true rfl, h⟩⟩
set_option maxHeartbeats 4000000 in
theorem E_Pulls_of (d : Nat) (Q : Qt) :
    (∀ (a0 : Nat) (a1 : Int32) (a2 : Int32) (τ : St), Ru M_Pulls_of d Q 0 [some (.ref a0), some (.int a1), some (.int a2), none] [] τ = Ru M_Pulls_of d Q 1 [some (.ref a0), some (.int a1), some (.int a2), none] [.int a1] τ) ∧
    (∀ (a0 : Nat) (a1 : Int32) (a2 : Int32) (x0 : Int32) (τ : St), Ru M_Pulls_of d Q 1 [some (.ref a0), some (.int a1), some (.int a2), none] [.int x0] τ = Ru M_Pulls_of d Q 3 [some (.ref a0), some (.int a1), some (.int a2), none] [.int 9, .int x0] τ) ∧
    (∀ (a0 : Nat) (a1 : Int32) (a2 : Int32) (x0 : Int32) (x1 : Int32) (τ : St), Ru M_Pulls_of d Q 3 [some (.ref a0), some (.int a1), some (.int a2), none] [.int x0, .int x1] τ = Ru M_Pulls_of d Q 4 [some (.ref a0), some (.int a1), some (.int a2), none] [.int (x1 + x0)] τ) ∧
    (∀ (a0 : Nat) (a1 : Int32) (a2 : Int32) (x0 : Int32) (τ : St), Ru M_Pulls_of d Q 4 [some (.ref a0), some (.int a1), some (.int a2), none] [.int x0] τ = Ru M_Pulls_of d Q 5 [some (.ref a0), some (.int a1), some (.int a2), none] [.int 2, .int x0] τ) ∧
    (∀ (a0 : Nat) (a1 : Int32) (a2 : Int32) (x0 : Int32) (x1 : Int32) (τ : St), Ru M_Pulls_of d Q 5 [some (.ref a0), some (.int a1), some (.int a2), none] [.int x0, .int x1] τ = Ru M_Pulls_of d Q 6 [some (.ref a0), some (.int a1), some (.int a2), none] [.int (x1 * x0)] τ) ∧
    (∀ (a0 : Nat) (a1 : Int32) (a2 : Int32) (x0 : Int32) (τ : St), Ru M_Pulls_of d Q 6 [some (.ref a0), some (.int a1), some (.int a2), none] [.int x0] τ = Ru M_Pulls_of d Q 7 [some (.ref a0), some (.int a1), some (.int a2), none] [.int a2, .int x0] τ) ∧
    (∀ (a0 : Nat) (a1 : Int32) (a2 : Int32) (x0 : Int32) (x1 : Int32) (τ : St), Ru M_Pulls_of d Q 7 [some (.ref a0), some (.int a1), some (.int a2), none] [.int x0, .int x1] τ = Ru M_Pulls_of d Q 8 [some (.ref a0), some (.int a1), some (.int a2), none] [.int (x1 + x0)] τ) ∧
    (∀ (a0 : Nat) (a1 : Int32) (a2 : Int32) (x0 : Int32) (τ : St), Ru M_Pulls_of d Q 8 [some (.ref a0), some (.int a1), some (.int a2), none] [.int x0] τ = Ru M_Pulls_of d Q 9 [some (.ref a0), some (.int a1), some (.int a2), some (.int x0)] [] τ) ∧
    (∀ (a0 : Nat) (a1 : Int32) (a2 : Int32) (a3 : Int32) (τ : St), Ru M_Pulls_of d Q 9 [some (.ref a0), some (.int a1), some (.int a2), some (.int a3)] [] τ = Ru M_Pulls_of d Q 10 [some (.ref a0), some (.int a1), some (.int a2), some (.int a3)] [.int a3] τ) ∧
    (∀ (a0 : Nat) (a1 : Int32) (a2 : Int32) (a3 : Int32) (x0 : Int32) (τ : St), Ru M_Pulls_of d Q 10 [some (.ref a0), some (.int a1), some (.int a2), some (.int a3)] [.int x0] τ = ((x0 < 0 → Ru M_Pulls_of d Q 40 [some (.ref a0), some (.int a1), some (.int a2), some (.int a3)] [] τ) ∧ (¬ x0 < 0 → Ru M_Pulls_of d Q 13 [some (.ref a0), some (.int a1), some (.int a2), some (.int a3)] [] τ))) ∧
    (∀ (a0 : Nat) (a1 : Int32) (a2 : Int32) (a3 : Int32) (τ : St), Ru M_Pulls_of d Q 13 [some (.ref a0), some (.int a1), some (.int a2), some (.int a3)] [] τ = Ru M_Pulls_of d Q 14 [some (.ref a0), some (.int a1), some (.int a2), some (.int a3)] [.int a3] τ) ∧
    (∀ (a0 : Nat) (a1 : Int32) (a2 : Int32) (a3 : Int32) (x0 : Int32) (τ : St), Ru M_Pulls_of d Q 14 [some (.ref a0), some (.int a1), some (.int a2), some (.int a3)] [.int x0] τ = Ru M_Pulls_of d Q 16 [some (.ref a0), some (.int a1), some (.int a2), some (.int a3)] [.int 38, .int x0] τ) ∧
    (∀ (a0 : Nat) (a1 : Int32) (a2 : Int32) (a3 : Int32) (x0 : Int32) (x1 : Int32) (τ : St), Ru M_Pulls_of d Q 16 [some (.ref a0), some (.int a1), some (.int a2), some (.int a3)] [.int x0, .int x1] τ = ((x0 ≤ x1 → Ru M_Pulls_of d Q 40 [some (.ref a0), some (.int a1), some (.int a2), some (.int a3)] [] τ) ∧ (¬ x0 ≤ x1 → Ru M_Pulls_of d Q 19 [some (.ref a0), some (.int a1), some (.int a2), some (.int a3)] [] τ))) ∧
    (∀ (a0 : Nat) (a1 : Int32) (a2 : Int32) (a3 : Int32) (τ : St), Ru M_Pulls_of d Q 19 [some (.ref a0), some (.int a1), some (.int a2), some (.int a3)] [] τ = Ru M_Pulls_of d Q 20 [some (.ref a0), some (.int a1), some (.int a2), some (.int a3)] [.ref a0] τ) ∧
    (∀ (a0 : Nat) (a1 : Int32) (a2 : Int32) (a3 : Int32) (x0 : Nat) (τ : St), Ru M_Pulls_of d Q 20 [some (.ref a0), some (.int a1), some (.int a2), some (.int a3)] [.ref x0] τ = (isA 3 x0 ∧ Ru M_Pulls_of d Q 23 [some (.ref a0), some (.int a1), some (.int a2), some (.int a3)] [.ref (rtab x0 0)] τ)) ∧
    (∀ (a0 : Nat) (a1 : Int32) (a2 : Int32) (a3 : Int32) (x0 : Nat) (τ : St), Ru M_Pulls_of d Q 23 [some (.ref a0), some (.int a1), some (.int a2), some (.int a3)] [.ref x0] τ = Ru M_Pulls_of d Q 24 [some (.ref a0), some (.int a1), some (.int a2), some (.int a3)] [.ref a0, .ref x0] τ) ∧
    (∀ (a0 : Nat) (a1 : Int32) (a2 : Int32) (a3 : Int32) (x0 : Nat) (x1 : Nat) (τ : St), Ru M_Pulls_of d Q 24 [some (.ref a0), some (.int a1), some (.int a2), some (.int a3)] [.ref x0, .ref x1] τ = (isA 3 x0 ∧ Ru M_Pulls_of d Q 27 [some (.ref a0), some (.int a1), some (.int a2), some (.int a3)] [.int (τ.1 x0 2), .ref x1] τ)) ∧
    (∀ (a0 : Nat) (a1 : Int32) (a2 : Int32) (a3 : Int32) (x0 : Int32) (x1 : Nat) (τ : St), Ru M_Pulls_of d Q 27 [some (.ref a0), some (.int a1), some (.int a2), some (.int a3)] [.int x0, .ref x1] τ = Ru M_Pulls_of d Q 28 [some (.ref a0), some (.int a1), some (.int a2), some (.int a3)] [.int a3, .int x0, .ref x1] τ) ∧
    (∀ (a0 : Nat) (a1 : Int32) (a2 : Int32) (a3 : Int32) (x0 : Int32) (x1 : Int32) (x2 : Nat) (τ : St), Ru M_Pulls_of d Q 28 [some (.ref a0), some (.int a1), some (.int a2), some (.int a3)] [.int x0, .int x1, .ref x2] τ = Ru M_Pulls_of d Q 29 [some (.ref a0), some (.int a1), some (.int a2), some (.int a3)] [.int (x1 + x0), .ref x2] τ) ∧
    (∀ (a0 : Nat) (a1 : Int32) (a2 : Int32) (a3 : Int32) (x0 : Int32) (x1 : Nat) (τ : St), Ru M_Pulls_of d Q 29 [some (.ref a0), some (.int a1), some (.int a2), some (.int a3)] [.int x0, .ref x1] τ = (isA 14 x1 ∧ vp_in x0 (len x1) ∧ Ru M_Pulls_of d Q 30 [some (.ref a0), some (.int a1), some (.int a2), some (.int a3)] [.int (τ.1 x1 x0.toNatClampNeg)] τ)) ∧
    (∀ (a0 : Nat) (a1 : Int32) (a2 : Int32) (a3 : Int32) (x0 : Int32) (τ : St), Ru M_Pulls_of d Q 30 [some (.ref a0), some (.int a1), some (.int a2), some (.int a3)] [.int x0] τ = Ru M_Pulls_of d Q 31 [some (.ref a0), some (.int a1), some (.int a2), some (.int a3)] [.ref a0, .int x0] τ) ∧
    (∀ (a0 : Nat) (a1 : Int32) (a2 : Int32) (a3 : Int32) (x0 : Nat) (x1 : Int32) (τ : St), Ru M_Pulls_of d Q 31 [some (.ref a0), some (.int a1), some (.int a2), some (.int a3)] [.ref x0, .int x1] τ = (isA 3 x0 ∧ Ru M_Pulls_of d Q 34 [some (.ref a0), some (.int a1), some (.int a2), some (.int a3)] [.int (τ.1 x0 3), .int x1] τ)) ∧
    (∀ (a0 : Nat) (a1 : Int32) (a2 : Int32) (a3 : Int32) (x0 : Int32) (x1 : Int32) (τ : St), Ru M_Pulls_of d Q 34 [some (.ref a0), some (.int a1), some (.int a2), some (.int a3)] [.int x0, .int x1] τ = Cl d m_H_pullBy [.int x1, .int x0] τ (fun v τ' => Ru M_Pulls_of d Q 37 [some (.ref a0), some (.int a1), some (.int a2), some (.int a3)] (v.toList ++ []) τ')) ∧
    (∀ (a0 : Nat) (a1 : Int32) (a2 : Int32) (a3 : Int32) (x0 : Int32) (τ : St), Ru M_Pulls_of d Q 37 [some (.ref a0), some (.int a1), some (.int a2), some (.int a3)] [.int x0] τ = Ru M_Pulls_of d Q 43 [some (.ref a0), some (.int a1), some (.int a2), some (.int a3)] [.int x0] τ) ∧
    (∀ (a0 : Nat) (a1 : Int32) (a2 : Int32) (a3 : Int32) (τ : St), Ru M_Pulls_of d Q 40 [some (.ref a0), some (.int a1), some (.int a2), some (.int a3)] [] τ = Ru M_Pulls_of d Q 43 [some (.ref a0), some (.int a1), some (.int a2), some (.int a3)] [.int 1498] τ) ∧
    (∀ (a0 : Nat) (a1 : Int32) (a2 : Int32) (a3 : Int32) (x0 : Int32) (τ : St), Ru M_Pulls_of d Q 43 [some (.ref a0), some (.int a1), some (.int a2), some (.int a3)] [.int x0] τ = Q (some (.int x0)) τ) := ⟨
  fun _ _ _ _ => (R_at ok_Pulls_of rfl).trans (e_ild rfl),
  fun _ _ _ _ _ => (R_at ok_Pulls_of rfl).trans e_push,
  fun _ _ _ _ _ _ => (R_at ok_Pulls_of rfl).trans e_bin,
  fun _ _ _ _ _ => (R_at ok_Pulls_of rfl).trans e_push,
  fun _ _ _ _ _ _ => (R_at ok_Pulls_of rfl).trans e_bin,
  fun _ _ _ _ _ => (R_at ok_Pulls_of rfl).trans (e_ild rfl),
  fun _ _ _ _ _ _ => (R_at ok_Pulls_of rfl).trans e_bin,
  fun _ _ _ _ _ => (R_at ok_Pulls_of rfl).trans e_ist,
  fun _ _ _ _ _ => (R_at ok_Pulls_of rfl).trans (e_ild rfl),
  fun _ _ _ _ _ _ => (R_at ok_Pulls_of rfl).trans e_if,
  fun _ _ _ _ _ => (R_at ok_Pulls_of rfl).trans (e_ild rfl),
  fun _ _ _ _ _ _ => (R_at ok_Pulls_of rfl).trans e_push,
  fun _ _ _ _ _ _ _ => (R_at ok_Pulls_of rfl).trans e_ic,
  fun _ _ _ _ _ => (R_at ok_Pulls_of rfl).trans (e_ald rfl),
  fun _ _ _ _ _ _ => (R_at ok_Pulls_of rfl).trans e_gR,
  fun _ _ _ _ _ _ => (R_at ok_Pulls_of rfl).trans (e_ald rfl),
  fun _ _ _ _ _ _ _ => (R_at ok_Pulls_of rfl).trans e_gI,
  fun _ _ _ _ _ _ _ => (R_at ok_Pulls_of rfl).trans (e_ild rfl),
  fun _ _ _ _ _ _ _ _ => (R_at ok_Pulls_of rfl).trans e_bin,
  fun _ _ _ _ _ _ _ => (R_at ok_Pulls_of rfl).trans e_al,
  fun _ _ _ _ _ _ => (R_at ok_Pulls_of rfl).trans (e_ald rfl),
  fun _ _ _ _ _ _ _ => (R_at ok_Pulls_of rfl).trans e_gI,
  fun _ _ _ _ x0 x1 _ => (R_at ok_Pulls_of rfl).trans (e_cs [.int x1, .int x0] rfl rfl rfl),
  fun _ _ _ _ _ _ => (R_at ok_Pulls_of rfl).trans e_goto,
  fun _ _ _ _ _ => (R_at ok_Pulls_of rfl).trans e_push,
  fun _ _ _ _ _ _ => (R_at ok_Pulls_of rfl).trans e_iret⟩
set_option maxHeartbeats 4000000 in
theorem N_Row_clear (d : Nat) (Q : Qt) : ∀ (x0 : Nat) (τ : St), Cl (d + 1) m_Row_clear [.ref x0] τ Q = Ru M_Row_clear d Q 0 [some (.ref x0)] [] τ := fun _ _ => propext ⟨fun h => h.2, fun h => ⟨Nat.le_of_ble_eq_true rfl, h⟩⟩
set_option maxHeartbeats 4000000 in
theorem E_Row_clear (d : Nat) (Q : Qt) :
    (∀ (a0 : Nat) (τ : St), Ru M_Row_clear d Q 0 [some (.ref a0)] [] τ = Ru M_Row_clear d Q 1 [some (.ref a0)] [.ref a0] τ) ∧
    (∀ (a0 : Nat) (x0 : Nat) (τ : St), Ru M_Row_clear d Q 1 [some (.ref a0)] [.ref x0] τ = Ru M_Row_clear d Q 2 [some (.ref a0)] [.int 0, .ref x0] τ) ∧
    (∀ (a0 : Nat) (x0 : Int32) (x1 : Nat) (τ : St), Ru M_Row_clear d Q 2 [some (.ref a0)] [.int x0, .ref x1] τ = (isA 4 x1 ∧ Ru M_Row_clear d Q 5 [some (.ref a0)] [] (sI τ x1 1 x0))) ∧
    (∀ (a0 : Nat) (τ : St), Ru M_Row_clear d Q 5 [some (.ref a0)] [] τ = Q none τ) := ⟨
  fun _ _ => (R_at ok_Row_clear rfl).trans (e_ald rfl),
  fun _ _ _ => (R_at ok_Row_clear rfl).trans e_push,
  fun _ _ _ _ => (R_at ok_Row_clear rfl).trans e_pI,
  fun _ _ => (R_at ok_Row_clear rfl).trans e_vret⟩
set_option maxHeartbeats 4000000 in
theorem N_Row_add (d : Nat) (Q : Qt) : ∀ (x0 : Nat) (x1 : Int64) (τ : St), Cl (d + 1) m_Row_add [.ref x0, .long x1] τ Q = Ru M_Row_add d Q 0 [some (.ref x0), some (.long x1), none] [] τ := fun _ _ _ => propext ⟨fun h => h.2, fun h => ⟨Nat.le_of_ble_eq_true rfl, h⟩⟩
set_option maxHeartbeats 4000000 in
theorem E_Row_add (d : Nat) (Q : Qt) :
    (∀ (a0 : Nat) (a1 : Int64) (τ : St), Ru M_Row_add d Q 0 [some (.ref a0), some (.long a1), none] [] τ = Ru M_Row_add d Q 1 [some (.ref a0), some (.long a1), none] [.ref a0] τ) ∧
    (∀ (a0 : Nat) (a1 : Int64) (x0 : Nat) (τ : St), Ru M_Row_add d Q 1 [some (.ref a0), some (.long a1), none] [.ref x0] τ = (isA 4 x0 ∧ Ru M_Row_add d Q 4 [some (.ref a0), some (.long a1), none] [.int (τ.1 x0 1)] τ)) ∧
    (∀ (a0 : Nat) (a1 : Int64) (x0 : Int32) (τ : St), Ru M_Row_add d Q 4 [some (.ref a0), some (.long a1), none] [.int x0] τ = ((x0 < 0 → Ru M_Row_add d Q 36 [some (.ref a0), some (.long a1), none] [] τ) ∧ (¬ x0 < 0 → Ru M_Row_add d Q 7 [some (.ref a0), some (.long a1), none] [] τ))) ∧
    (∀ (a0 : Nat) (a1 : Int64) (τ : St), Ru M_Row_add d Q 7 [some (.ref a0), some (.long a1), none] [] τ = Ru M_Row_add d Q 8 [some (.ref a0), some (.long a1), none] [.ref a0] τ) ∧
    (∀ (a0 : Nat) (a1 : Int64) (x0 : Nat) (τ : St), Ru M_Row_add d Q 8 [some (.ref a0), some (.long a1), none] [.ref x0] τ = (isA 4 x0 ∧ Ru M_Row_add d Q 11 [some (.ref a0), some (.long a1), none] [.int (τ.1 x0 1)] τ)) ∧
    (∀ (a0 : Nat) (a1 : Int64) (x0 : Int32) (τ : St), Ru M_Row_add d Q 11 [some (.ref a0), some (.long a1), none] [.int x0] τ = Ru M_Row_add d Q 13 [some (.ref a0), some (.long a1), none] [.int 36, .int x0] τ) ∧
    (∀ (a0 : Nat) (a1 : Int64) (x0 : Int32) (x1 : Int32) (τ : St), Ru M_Row_add d Q 13 [some (.ref a0), some (.long a1), none] [.int x0, .int x1] τ = ((x0 ≤ x1 → Ru M_Row_add d Q 36 [some (.ref a0), some (.long a1), none] [] τ) ∧ (¬ x0 ≤ x1 → Ru M_Row_add d Q 16 [some (.ref a0), some (.long a1), none] [] τ))) ∧
    (∀ (a0 : Nat) (a1 : Int64) (τ : St), Ru M_Row_add d Q 16 [some (.ref a0), some (.long a1), none] [] τ = Ru M_Row_add d Q 17 [some (.ref a0), some (.long a1), none] [.ref a0] τ) ∧
    (∀ (a0 : Nat) (a1 : Int64) (x0 : Nat) (τ : St), Ru M_Row_add d Q 17 [some (.ref a0), some (.long a1), none] [.ref x0] τ = (isA 4 x0 ∧ Ru M_Row_add d Q 20 [some (.ref a0), some (.long a1), none] [.ref (rtab x0 0)] τ)) ∧
    (∀ (a0 : Nat) (a1 : Int64) (x0 : Nat) (τ : St), Ru M_Row_add d Q 20 [some (.ref a0), some (.long a1), none] [.ref x0] τ = Ru M_Row_add d Q 21 [some (.ref a0), some (.long a1), none] [.ref a0, .ref x0] τ) ∧
    (∀ (a0 : Nat) (a1 : Int64) (x0 : Nat) (x1 : Nat) (τ : St), Ru M_Row_add d Q 21 [some (.ref a0), some (.long a1), none] [.ref x0, .ref x1] τ = (isA 4 x0 ∧ Ru M_Row_add d Q 24 [some (.ref a0), some (.long a1), none] [.int (τ.1 x0 1), .ref x1] τ)) ∧
    (∀ (a0 : Nat) (a1 : Int64) (x0 : Int32) (x1 : Nat) (τ : St), Ru M_Row_add d Q 24 [some (.ref a0), some (.long a1), none] [.int x0, .ref x1] τ = Ru M_Row_add d Q 25 [some (.ref a0), some (.long a1), none] [.long a1, .int x0, .ref x1] τ) ∧
    (∀ (a0 : Nat) (a1 : Int64) (x0 : Int64) (x1 : Int32) (x2 : Nat) (τ : St), Ru M_Row_add d Q 25 [some (.ref a0), some (.long a1), none] [.long x0, .int x1, .ref x2] τ = (isA 15 x2 ∧ vp_in x1 (len x2) ∧ Ru M_Row_add d Q 26 [some (.ref a0), some (.long a1), none] [] (sL τ x2 x1.toNatClampNeg x0))) ∧
    (∀ (a0 : Nat) (a1 : Int64) (τ : St), Ru M_Row_add d Q 26 [some (.ref a0), some (.long a1), none] [] τ = Ru M_Row_add d Q 27 [some (.ref a0), some (.long a1), none] [.ref a0] τ) ∧
    (∀ (a0 : Nat) (a1 : Int64) (x0 : Nat) (τ : St), Ru M_Row_add d Q 27 [some (.ref a0), some (.long a1), none] [.ref x0] τ = Ru M_Row_add d Q 28 [some (.ref a0), some (.long a1), none] [.ref x0, .ref x0] τ) ∧
    (∀ (a0 : Nat) (a1 : Int64) (x0 : Nat) (x1 : Nat) (τ : St), Ru M_Row_add d Q 28 [some (.ref a0), some (.long a1), none] [.ref x0, .ref x1] τ = (isA 4 x0 ∧ Ru M_Row_add d Q 31 [some (.ref a0), some (.long a1), none] [.int (τ.1 x0 1), .ref x1] τ)) ∧
    (∀ (a0 : Nat) (a1 : Int64) (x0 : Int32) (x1 : Nat) (τ : St), Ru M_Row_add d Q 31 [some (.ref a0), some (.long a1), none] [.int x0, .ref x1] τ = Ru M_Row_add d Q 32 [some (.ref a0), some (.long a1), none] [.int 1, .int x0, .ref x1] τ) ∧
    (∀ (a0 : Nat) (a1 : Int64) (x0 : Int32) (x1 : Int32) (x2 : Nat) (τ : St), Ru M_Row_add d Q 32 [some (.ref a0), some (.long a1), none] [.int x0, .int x1, .ref x2] τ = Ru M_Row_add d Q 33 [some (.ref a0), some (.long a1), none] [.int (x1 + x0), .ref x2] τ) ∧
    (∀ (a0 : Nat) (a1 : Int64) (x0 : Int32) (x1 : Nat) (τ : St), Ru M_Row_add d Q 33 [some (.ref a0), some (.long a1), none] [.int x0, .ref x1] τ = (isA 4 x1 ∧ Ru M_Row_add d Q 36 [some (.ref a0), some (.long a1), none] [] (sI τ x1 1 x0))) ∧
    (∀ (a0 : Nat) (a1 : Int64) (τ : St), Ru M_Row_add d Q 36 [some (.ref a0), some (.long a1), none] [] τ = Q none τ) := ⟨
  fun _ _ _ => (R_at ok_Row_add rfl).trans (e_ald rfl),
  fun _ _ _ _ => (R_at ok_Row_add rfl).trans e_gI,
  fun _ _ _ _ => (R_at ok_Row_add rfl).trans e_if,
  fun _ _ _ => (R_at ok_Row_add rfl).trans (e_ald rfl),
  fun _ _ _ _ => (R_at ok_Row_add rfl).trans e_gI,
  fun _ _ _ _ => (R_at ok_Row_add rfl).trans e_push,
  fun _ _ _ _ _ => (R_at ok_Row_add rfl).trans e_ic,
  fun _ _ _ => (R_at ok_Row_add rfl).trans (e_ald rfl),
  fun _ _ _ _ => (R_at ok_Row_add rfl).trans e_gR,
  fun _ _ _ _ => (R_at ok_Row_add rfl).trans (e_ald rfl),
  fun _ _ _ _ _ => (R_at ok_Row_add rfl).trans e_gI,
  fun _ _ _ _ _ => (R_at ok_Row_add rfl).trans (e_lld rfl),
  fun _ _ _ _ _ _ => (R_at ok_Row_add rfl).trans e_asl,
  fun _ _ _ => (R_at ok_Row_add rfl).trans (e_ald rfl),
  fun _ _ _ _ => (R_at ok_Row_add rfl).trans (e_dup rfl),
  fun _ _ _ _ _ => (R_at ok_Row_add rfl).trans e_gI,
  fun _ _ _ _ _ => (R_at ok_Row_add rfl).trans e_push,
  fun _ _ _ _ _ _ => (R_at ok_Row_add rfl).trans e_bin,
  fun _ _ _ _ _ => (R_at ok_Row_add rfl).trans e_pI,
  fun _ _ _ => (R_at ok_Row_add rfl).trans e_vret⟩
set_option maxHeartbeats 4000000 in
theorem N_Row_only (d : Nat) (Q : Qt) : ∀ (x0 : Nat) (x1 : Int64) (τ : St), Cl (d + 1) m_Row_only [.ref x0, .long x1] τ Q = Ru M_Row_only d Q 0 [some (.ref x0), some (.long x1), none] [] τ := fun _ _ _ => propext ⟨fun h => h.2, fun h => ⟨Nat.le_of_ble_eq_true rfl, h⟩⟩
set_option maxHeartbeats 4000000 in
theorem E_Row_only (d : Nat) (Q : Qt) :
    (∀ (a0 : Nat) (a1 : Int64) (τ : St), Ru M_Row_only d Q 0 [some (.ref a0), some (.long a1), none] [] τ = Ru M_Row_only d Q 1 [some (.ref a0), some (.long a1), none] [.ref a0] τ) ∧
    (∀ (a0 : Nat) (a1 : Int64) (x0 : Nat) (τ : St), Ru M_Row_only d Q 1 [some (.ref a0), some (.long a1), none] [.ref x0] τ = (isA 4 x0 ∧ Cl d m_Row_clear [.ref x0] τ (fun v τ' => Ru M_Row_only d Q 4 [some (.ref a0), some (.long a1), none] (v.toList ++ []) τ'))) ∧
    (∀ (a0 : Nat) (a1 : Int64) (τ : St), Ru M_Row_only d Q 4 [some (.ref a0), some (.long a1), none] [] τ = Ru M_Row_only d Q 5 [some (.ref a0), some (.long a1), none] [.ref a0] τ) ∧
    (∀ (a0 : Nat) (a1 : Int64) (x0 : Nat) (τ : St), Ru M_Row_only d Q 5 [some (.ref a0), some (.long a1), none] [.ref x0] τ = Ru M_Row_only d Q 6 [some (.ref a0), some (.long a1), none] [.long a1, .ref x0] τ) ∧
    (∀ (a0 : Nat) (a1 : Int64) (x0 : Int64) (x1 : Nat) (τ : St), Ru M_Row_only d Q 6 [some (.ref a0), some (.long a1), none] [.long x0, .ref x1] τ = (isA 4 x1 ∧ Cl d m_Row_add [.ref x1, .long x0] τ (fun v τ' => Ru M_Row_only d Q 9 [some (.ref a0), some (.long a1), none] (v.toList ++ []) τ'))) ∧
    (∀ (a0 : Nat) (a1 : Int64) (τ : St), Ru M_Row_only d Q 9 [some (.ref a0), some (.long a1), none] [] τ = Q none τ) := ⟨
  fun _ _ _ => (R_at ok_Row_only rfl).trans (e_ald rfl),
  fun _ _ _ _ => (R_at ok_Row_only rfl).trans (e_cv [] rfl rfl rfl),
  fun _ _ _ => (R_at ok_Row_only rfl).trans (e_ald rfl),
  fun _ _ _ _ => (R_at ok_Row_only rfl).trans (e_lld rfl),
  fun _ _ x0 _ _ => (R_at ok_Row_only rfl).trans (e_cv [.long x0] rfl rfl rfl),
  fun _ _ _ => (R_at ok_Row_only rfl).trans e_vret⟩
set_option maxHeartbeats 4000000 in
theorem N_Row_both (d : Nat) (Q : Qt) : ∀ (x0 : Nat) (x1 : Int64) (x2 : Int64) (τ : St), Cl (d + 1) m_Row_both [.ref x0, .long x1, .long x2] τ Q = Ru M_Row_both d Q 0 [some (.ref x0), some (.long x1), none, some (.long x2), none] [] τ := fun _ _ _ _ => propext ⟨fun h => h.2, fun h => ⟨Nat.le_of_ble_eq_true rfl, h⟩⟩
set_option maxHeartbeats 4000000 in
theorem E_Row_both (d : Nat) (Q : Qt) :
    (∀ (a0 : Nat) (a1 : Int64) (a3 : Int64) (τ : St), Ru M_Row_both d Q 0 [some (.ref a0), some (.long a1), none, some (.long a3), none] [] τ = Ru M_Row_both d Q 1 [some (.ref a0), some (.long a1), none, some (.long a3), none] [.ref a0] τ) ∧
    (∀ (a0 : Nat) (a1 : Int64) (a3 : Int64) (x0 : Nat) (τ : St), Ru M_Row_both d Q 1 [some (.ref a0), some (.long a1), none, some (.long a3), none] [.ref x0] τ = (isA 4 x0 ∧ Cl d m_Row_clear [.ref x0] τ (fun v τ' => Ru M_Row_both d Q 4 [some (.ref a0), some (.long a1), none, some (.long a3), none] (v.toList ++ []) τ'))) ∧
    (∀ (a0 : Nat) (a1 : Int64) (a3 : Int64) (τ : St), Ru M_Row_both d Q 4 [some (.ref a0), some (.long a1), none, some (.long a3), none] [] τ = Ru M_Row_both d Q 5 [some (.ref a0), some (.long a1), none, some (.long a3), none] [.ref a0] τ) ∧
    (∀ (a0 : Nat) (a1 : Int64) (a3 : Int64) (x0 : Nat) (τ : St), Ru M_Row_both d Q 5 [some (.ref a0), some (.long a1), none, some (.long a3), none] [.ref x0] τ = Ru M_Row_both d Q 6 [some (.ref a0), some (.long a1), none, some (.long a3), none] [.long a1, .ref x0] τ) ∧
    (∀ (a0 : Nat) (a1 : Int64) (a3 : Int64) (x0 : Int64) (x1 : Nat) (τ : St), Ru M_Row_both d Q 6 [some (.ref a0), some (.long a1), none, some (.long a3), none] [.long x0, .ref x1] τ = (isA 4 x1 ∧ Cl d m_Row_add [.ref x1, .long x0] τ (fun v τ' => Ru M_Row_both d Q 9 [some (.ref a0), some (.long a1), none, some (.long a3), none] (v.toList ++ []) τ'))) ∧
    (∀ (a0 : Nat) (a1 : Int64) (a3 : Int64) (τ : St), Ru M_Row_both d Q 9 [some (.ref a0), some (.long a1), none, some (.long a3), none] [] τ = Ru M_Row_both d Q 10 [some (.ref a0), some (.long a1), none, some (.long a3), none] [.ref a0] τ) ∧
    (∀ (a0 : Nat) (a1 : Int64) (a3 : Int64) (x0 : Nat) (τ : St), Ru M_Row_both d Q 10 [some (.ref a0), some (.long a1), none, some (.long a3), none] [.ref x0] τ = Ru M_Row_both d Q 11 [some (.ref a0), some (.long a1), none, some (.long a3), none] [.long a3, .ref x0] τ) ∧
    (∀ (a0 : Nat) (a1 : Int64) (a3 : Int64) (x0 : Int64) (x1 : Nat) (τ : St), Ru M_Row_both d Q 11 [some (.ref a0), some (.long a1), none, some (.long a3), none] [.long x0, .ref x1] τ = (isA 4 x1 ∧ Cl d m_Row_add [.ref x1, .long x0] τ (fun v τ' => Ru M_Row_both d Q 14 [some (.ref a0), some (.long a1), none, some (.long a3), none] (v.toList ++ []) τ'))) ∧
    (∀ (a0 : Nat) (a1 : Int64) (a3 : Int64) (τ : St), Ru M_Row_both d Q 14 [some (.ref a0), some (.long a1), none, some (.long a3), none] [] τ = Q none τ) := ⟨
  fun _ _ _ _ => (R_at ok_Row_both rfl).trans (e_ald rfl),
  fun _ _ _ _ _ => (R_at ok_Row_both rfl).trans (e_cv [] rfl rfl rfl),
  fun _ _ _ _ => (R_at ok_Row_both rfl).trans (e_ald rfl),
  fun _ _ _ _ _ => (R_at ok_Row_both rfl).trans (e_lld rfl),
  fun _ _ _ x0 _ _ => (R_at ok_Row_both rfl).trans (e_cv [.long x0] rfl rfl rfl),
  fun _ _ _ _ => (R_at ok_Row_both rfl).trans (e_ald rfl),
  fun _ _ _ _ _ => (R_at ok_Row_both rfl).trans (e_lld rfl),
  fun _ _ _ x0 _ _ => (R_at ok_Row_both rfl).trans (e_cv [.long x0] rfl rfl rfl),
  fun _ _ _ _ => (R_at ok_Row_both rfl).trans e_vret⟩
set_option maxHeartbeats 4000000 in
theorem N_Row_has (d : Nat) (Q : Qt) : ∀ (x0 : Nat) (x1 : Int32) (τ : St), Cl (d + 1) m_Row_has [.ref x0, .int x1] τ Q = Ru M_Row_has d Q 0 [some (.ref x0), some (.int x1)] [] τ := fun _ _ _ => propext ⟨fun h => h.2, fun h => ⟨Nat.le_of_ble_eq_true rfl, h⟩⟩
set_option maxHeartbeats 4000000 in
theorem E_Row_has (d : Nat) (Q : Qt) :
    (∀ (a0 : Nat) (a1 : Int32) (τ : St), Ru M_Row_has d Q 0 [some (.ref a0), some (.int a1)] [] τ = Ru M_Row_has d Q 1 [some (.ref a0), some (.int a1)] [.int a1] τ) ∧
    (∀ (a0 : Nat) (a1 : Int32) (x0 : Int32) (τ : St), Ru M_Row_has d Q 1 [some (.ref a0), some (.int a1)] [.int x0] τ = ((x0 < 0 → Ru M_Row_has d Q 22 [some (.ref a0), some (.int a1)] [] τ) ∧ (¬ x0 < 0 → Ru M_Row_has d Q 4 [some (.ref a0), some (.int a1)] [] τ))) ∧
    (∀ (a0 : Nat) (a1 : Int32) (τ : St), Ru M_Row_has d Q 4 [some (.ref a0), some (.int a1)] [] τ = Ru M_Row_has d Q 5 [some (.ref a0), some (.int a1)] [.int a1] τ) ∧
    (∀ (a0 : Nat) (a1 : Int32) (x0 : Int32) (τ : St), Ru M_Row_has d Q 5 [some (.ref a0), some (.int a1)] [.int x0] τ = Ru M_Row_has d Q 6 [some (.ref a0), some (.int a1)] [.ref a0, .int x0] τ) ∧
    (∀ (a0 : Nat) (a1 : Int32) (x0 : Nat) (x1 : Int32) (τ : St), Ru M_Row_has d Q 6 [some (.ref a0), some (.int a1)] [.ref x0, .int x1] τ = (isA 4 x0 ∧ Ru M_Row_has d Q 9 [some (.ref a0), some (.int a1)] [.int (τ.1 x0 1), .int x1] τ)) ∧
    (∀ (a0 : Nat) (a1 : Int32) (x0 : Int32) (x1 : Int32) (τ : St), Ru M_Row_has d Q 9 [some (.ref a0), some (.int a1)] [.int x0, .int x1] τ = ((x0 ≤ x1 → Ru M_Row_has d Q 22 [some (.ref a0), some (.int a1)] [] τ) ∧ (¬ x0 ≤ x1 → Ru M_Row_has d Q 12 [some (.ref a0), some (.int a1)] [] τ))) ∧
    (∀ (a0 : Nat) (a1 : Int32) (τ : St), Ru M_Row_has d Q 12 [some (.ref a0), some (.int a1)] [] τ = Ru M_Row_has d Q 13 [some (.ref a0), some (.int a1)] [.int a1] τ) ∧
    (∀ (a0 : Nat) (a1 : Int32) (x0 : Int32) (τ : St), Ru M_Row_has d Q 13 [some (.ref a0), some (.int a1)] [.int x0] τ = Ru M_Row_has d Q 15 [some (.ref a0), some (.int a1)] [.int 36, .int x0] τ) ∧
    (∀ (a0 : Nat) (a1 : Int32) (x0 : Int32) (x1 : Int32) (τ : St), Ru M_Row_has d Q 15 [some (.ref a0), some (.int a1)] [.int x0, .int x1] τ = ((x0 ≤ x1 → Ru M_Row_has d Q 22 [some (.ref a0), some (.int a1)] [] τ) ∧ (¬ x0 ≤ x1 → Ru M_Row_has d Q 18 [some (.ref a0), some (.int a1)] [] τ))) ∧
    (∀ (a0 : Nat) (a1 : Int32) (τ : St), Ru M_Row_has d Q 18 [some (.ref a0), some (.int a1)] [] τ = Ru M_Row_has d Q 19 [some (.ref a0), some (.int a1)] [.int 1] τ) ∧
    (∀ (a0 : Nat) (a1 : Int32) (x0 : Int32) (τ : St), Ru M_Row_has d Q 19 [some (.ref a0), some (.int a1)] [.int x0] τ = Ru M_Row_has d Q 23 [some (.ref a0), some (.int a1)] [.int x0] τ) ∧
    (∀ (a0 : Nat) (a1 : Int32) (τ : St), Ru M_Row_has d Q 22 [some (.ref a0), some (.int a1)] [] τ = Ru M_Row_has d Q 23 [some (.ref a0), some (.int a1)] [.int 0] τ) ∧
    (∀ (a0 : Nat) (a1 : Int32) (x0 : Int32) (τ : St), Ru M_Row_has d Q 23 [some (.ref a0), some (.int a1)] [.int x0] τ = ((x0 = 0 ∨ x0 = 1) ∧ Q (some (.int x0)) τ)) := ⟨
  fun _ _ _ => (R_at ok_Row_has rfl).trans (e_ild rfl),
  fun _ _ _ _ => (R_at ok_Row_has rfl).trans e_if,
  fun _ _ _ => (R_at ok_Row_has rfl).trans (e_ild rfl),
  fun _ _ _ _ => (R_at ok_Row_has rfl).trans (e_ald rfl),
  fun _ _ _ _ _ => (R_at ok_Row_has rfl).trans e_gI,
  fun _ _ _ _ _ => (R_at ok_Row_has rfl).trans e_ic,
  fun _ _ _ => (R_at ok_Row_has rfl).trans (e_ild rfl),
  fun _ _ _ _ => (R_at ok_Row_has rfl).trans e_push,
  fun _ _ _ _ _ => (R_at ok_Row_has rfl).trans e_ic,
  fun _ _ _ => (R_at ok_Row_has rfl).trans e_push,
  fun _ _ _ _ => (R_at ok_Row_has rfl).trans e_goto,
  fun _ _ _ => (R_at ok_Row_has rfl).trans e_push,
  fun _ _ _ _ => (R_at ok_Row_has rfl).trans e_zret⟩
set_option maxHeartbeats 4000000 in
theorem N_Row_at (d : Nat) (Q : Qt) : ∀ (x0 : Nat) (x1 : Int32) (τ : St), Cl (d + 1) m_Row_at [.ref x0, .int x1] τ Q = Ru M_Row_at d Q 0 [some (.ref x0), some (.int x1)] [] τ := fun _ _ _ => propext ⟨fun h => h.2, fun h => ⟨Nat.le_of_ble_eq_true rfl, h⟩⟩
set_option maxHeartbeats 4000000 in
theorem E_Row_at (d : Nat) (Q : Qt) :
    (∀ (a0 : Nat) (a1 : Int32) (τ : St), Ru M_Row_at d Q 0 [some (.ref a0), some (.int a1)] [] τ = Ru M_Row_at d Q 1 [some (.ref a0), some (.int a1)] [.ref a0] τ) ∧
    (∀ (a0 : Nat) (a1 : Int32) (x0 : Nat) (τ : St), Ru M_Row_at d Q 1 [some (.ref a0), some (.int a1)] [.ref x0] τ = Ru M_Row_at d Q 2 [some (.ref a0), some (.int a1)] [.int a1, .ref x0] τ) ∧
    (∀ (a0 : Nat) (a1 : Int32) (x0 : Int32) (x1 : Nat) (τ : St), Ru M_Row_at d Q 2 [some (.ref a0), some (.int a1)] [.int x0, .ref x1] τ = (isA 4 x1 ∧ Cl d m_Row_has [.ref x1, .int x0] τ (fun v τ' => Ru M_Row_at d Q 5 [some (.ref a0), some (.int a1)] (v.toList ++ []) τ'))) ∧
    (∀ (a0 : Nat) (a1 : Int32) (x0 : Int32) (τ : St), Ru M_Row_at d Q 5 [some (.ref a0), some (.int a1)] [.int x0] τ = ((x0 = 0 → Ru M_Row_at d Q 17 [some (.ref a0), some (.int a1)] [] τ) ∧ (¬ x0 = 0 → Ru M_Row_at d Q 8 [some (.ref a0), some (.int a1)] [] τ))) ∧
    (∀ (a0 : Nat) (a1 : Int32) (τ : St), Ru M_Row_at d Q 8 [some (.ref a0), some (.int a1)] [] τ = Ru M_Row_at d Q 9 [some (.ref a0), some (.int a1)] [.ref a0] τ) ∧
    (∀ (a0 : Nat) (a1 : Int32) (x0 : Nat) (τ : St), Ru M_Row_at d Q 9 [some (.ref a0), some (.int a1)] [.ref x0] τ = (isA 4 x0 ∧ Ru M_Row_at d Q 12 [some (.ref a0), some (.int a1)] [.ref (rtab x0 0)] τ)) ∧
    (∀ (a0 : Nat) (a1 : Int32) (x0 : Nat) (τ : St), Ru M_Row_at d Q 12 [some (.ref a0), some (.int a1)] [.ref x0] τ = Ru M_Row_at d Q 13 [some (.ref a0), some (.int a1)] [.int a1, .ref x0] τ) ∧
    (∀ (a0 : Nat) (a1 : Int32) (x0 : Int32) (x1 : Nat) (τ : St), Ru M_Row_at d Q 13 [some (.ref a0), some (.int a1)] [.int x0, .ref x1] τ = (isA 15 x1 ∧ vp_in x0 (len x1) ∧ Ru M_Row_at d Q 14 [some (.ref a0), some (.int a1)] [.long (τ.2 x1 x0.toNatClampNeg)] τ)) ∧
    (∀ (a0 : Nat) (a1 : Int32) (x0 : Int64) (τ : St), Ru M_Row_at d Q 14 [some (.ref a0), some (.int a1)] [.long x0] τ = Ru M_Row_at d Q 18 [some (.ref a0), some (.int a1)] [.long x0] τ) ∧
    (∀ (a0 : Nat) (a1 : Int32) (τ : St), Ru M_Row_at d Q 17 [some (.ref a0), some (.int a1)] [] τ = Ru M_Row_at d Q 18 [some (.ref a0), some (.int a1)] [.long 0] τ) ∧
    (∀ (a0 : Nat) (a1 : Int32) (x0 : Int64) (τ : St), Ru M_Row_at d Q 18 [some (.ref a0), some (.int a1)] [.long x0] τ = Q (some (.long x0)) τ) := ⟨
  fun _ _ _ => (R_at ok_Row_at rfl).trans (e_ald rfl),
  fun _ _ _ _ => (R_at ok_Row_at rfl).trans (e_ild rfl),
  fun _ _ x0 _ _ => (R_at ok_Row_at rfl).trans (e_cv [.int x0] rfl rfl rfl),
  fun _ _ _ _ => (R_at ok_Row_at rfl).trans e_if,
  fun _ _ _ => (R_at ok_Row_at rfl).trans (e_ald rfl),
  fun _ _ _ _ => (R_at ok_Row_at rfl).trans e_gR,
  fun _ _ _ _ => (R_at ok_Row_at rfl).trans (e_ild rfl),
  fun _ _ _ _ _ => (R_at ok_Row_at rfl).trans e_all,
  fun _ _ _ _ => (R_at ok_Row_at rfl).trans e_goto,
  fun _ _ _ => (R_at ok_Row_at rfl).trans e_push,
  fun _ _ _ _ => (R_at ok_Row_at rfl).trans e_lret⟩
set_option maxHeartbeats 4000000 in
theorem N_Rule_copy (d : Nat) (Q : Qt) : ∀ (x0 : Nat) (x1 : Nat) (τ : St), Cl (d + 1) m_Rule_copy [.ref x0, .ref x1] τ Q = Ru M_Rule_copy d Q 0 [some (.ref x0), some (.ref x1)] [] τ := fun _ _ _ => propext ⟨fun h => h.2, fun h => ⟨Nat.le_of_ble_eq_true rfl, h⟩⟩
set_option maxHeartbeats 4000000 in
theorem E_Rule_copy (d : Nat) (Q : Qt) :
    (∀ (a0 : Nat) (a1 : Nat) (τ : St), Ru M_Rule_copy d Q 0 [some (.ref a0), some (.ref a1)] [] τ = Ru M_Rule_copy d Q 1 [some (.ref a0), some (.ref a1)] [.ref a1] τ) ∧
    (∀ (a0 : Nat) (a1 : Nat) (x0 : Nat) (τ : St), Ru M_Rule_copy d Q 1 [some (.ref a0), some (.ref a1)] [.ref x0] τ = (isA 5 x0 ∧ Ru M_Rule_copy d Q 4 [some (.ref a0), some (.ref a1)] [.ref (rtab x0 0)] τ)) ∧
    (∀ (a0 : Nat) (a1 : Nat) (x0 : Nat) (τ : St), Ru M_Rule_copy d Q 4 [some (.ref a0), some (.ref a1)] [.ref x0] τ = Ru M_Rule_copy d Q 5 [some (.ref a0), some (.ref a1)] [.int 0, .ref x0] τ) ∧
    (∀ (a0 : Nat) (a1 : Nat) (x0 : Int32) (x1 : Nat) (τ : St), Ru M_Rule_copy d Q 5 [some (.ref a0), some (.ref a1)] [.int x0, .ref x1] τ = Ru M_Rule_copy d Q 6 [some (.ref a0), some (.ref a1)] [.ref a0, .int x0, .ref x1] τ) ∧
    (∀ (a0 : Nat) (a1 : Nat) (x0 : Nat) (x1 : Int32) (x2 : Nat) (τ : St), Ru M_Rule_copy d Q 6 [some (.ref a0), some (.ref a1)] [.ref x0, .int x1, .ref x2] τ = (isA 5 x0 ∧ Ru M_Rule_copy d Q 9 [some (.ref a0), some (.ref a1)] [.ref (rtab x0 0), .int x1, .ref x2] τ)) ∧
    (∀ (a0 : Nat) (a1 : Nat) (x0 : Nat) (x1 : Int32) (x2 : Nat) (τ : St), Ru M_Rule_copy d Q 9 [some (.ref a0), some (.ref a1)] [.ref x0, .int x1, .ref x2] τ = Ru M_Rule_copy d Q 10 [some (.ref a0), some (.ref a1)] [.int 0, .ref x0, .int x1, .ref x2] τ) ∧
    (∀ (a0 : Nat) (a1 : Nat) (x0 : Int32) (x1 : Nat) (x2 : Int32) (x3 : Nat) (τ : St), Ru M_Rule_copy d Q 10 [some (.ref a0), some (.ref a1)] [.int x0, .ref x1, .int x2, .ref x3] τ = Ru M_Rule_copy d Q 12 [some (.ref a0), some (.ref a1)] [.int 40, .int x0, .ref x1, .int x2, .ref x3] τ) ∧
    (∀ (a0 : Nat) (a1 : Nat) (x0 : Int32) (x1 : Int32) (x2 : Nat) (x3 : Int32) (x4 : Nat) (τ : St), Ru M_Rule_copy d Q 12 [some (.ref a0), some (.ref a1)] [.int x0, .int x1, .ref x2, .int x3, .ref x4] τ = (isA 14 x4 ∧ isA 14 x2 ∧ ¬ x3 < 0 ∧ ¬ x1 < 0 ∧ ¬ x0 < 0 ∧ x3.toNatClampNeg + x0.toNatClampNeg ≤ len x4 ∧ x1.toNatClampNeg + x0.toNatClampNeg ≤ len x2 ∧ Ru M_Rule_copy d Q 15 [some (.ref a0), some (.ref a1)] [] (sA τ x2 (va_cpy (τ.1 x4) (τ.1 x2) x3.toNatClampNeg x1.toNatClampNeg x0.toNatClampNeg)))) ∧
    (∀ (a0 : Nat) (a1 : Nat) (τ : St), Ru M_Rule_copy d Q 15 [some (.ref a0), some (.ref a1)] [] τ = Ru M_Rule_copy d Q 16 [some (.ref a0), some (.ref a1)] [.ref a0] τ) ∧
    (∀ (a0 : Nat) (a1 : Nat) (x0 : Nat) (τ : St), Ru M_Rule_copy d Q 16 [some (.ref a0), some (.ref a1)] [.ref x0] τ = Ru M_Rule_copy d Q 17 [some (.ref a0), some (.ref a1)] [.ref a1, .ref x0] τ) ∧
    (∀ (a0 : Nat) (a1 : Nat) (x0 : Nat) (x1 : Nat) (τ : St), Ru M_Rule_copy d Q 17 [some (.ref a0), some (.ref a1)] [.ref x0, .ref x1] τ = (isA 5 x0 ∧ Ru M_Rule_copy d Q 20 [some (.ref a0), some (.ref a1)] [.int (τ.1 x0 1), .ref x1] τ)) ∧
    (∀ (a0 : Nat) (a1 : Nat) (x0 : Int32) (x1 : Nat) (τ : St), Ru M_Rule_copy d Q 20 [some (.ref a0), some (.ref a1)] [.int x0, .ref x1] τ = (isA 5 x1 ∧ Ru M_Rule_copy d Q 23 [some (.ref a0), some (.ref a1)] [] (sI τ x1 1 x0))) ∧
    (∀ (a0 : Nat) (a1 : Nat) (τ : St), Ru M_Rule_copy d Q 23 [some (.ref a0), some (.ref a1)] [] τ = Q none τ) := ⟨
  fun _ _ _ => (R_at ok_Rule_copy rfl).trans (e_ald rfl),
  fun _ _ _ _ => (R_at ok_Rule_copy rfl).trans e_gR,
  fun _ _ _ _ => (R_at ok_Rule_copy rfl).trans e_push,
  fun _ _ _ _ _ => (R_at ok_Rule_copy rfl).trans (e_ald rfl),
  fun _ _ _ _ _ _ => (R_at ok_Rule_copy rfl).trans e_gR,
  fun _ _ _ _ _ _ => (R_at ok_Rule_copy rfl).trans e_push,
  fun _ _ _ _ _ _ _ => (R_at ok_Rule_copy rfl).trans e_push,
  fun _ _ _ _ _ _ _ _ => (R_at ok_Rule_copy rfl).trans (e_cpy rfl),
  fun _ _ _ => (R_at ok_Rule_copy rfl).trans (e_ald rfl),
  fun _ _ _ _ => (R_at ok_Rule_copy rfl).trans (e_ald rfl),
  fun _ _ _ _ _ => (R_at ok_Rule_copy rfl).trans e_gI,
  fun _ _ _ _ _ => (R_at ok_Rule_copy rfl).trans e_pI,
  fun _ _ _ => (R_at ok_Rule_copy rfl).trans e_vret⟩
set_option maxHeartbeats 4000000 in
theorem N_Rule_read (d : Nat) (Q : Qt) : ∀ (x0 : Nat) (x1 : Nat) (τ : St), Cl (d + 1) m_Rule_read [.ref x0, .ref x1] τ Q = Ru M_Rule_read d Q 0 [some (.ref x0), some (.ref x1)] [] τ := fun _ _ _ => propext ⟨fun h => h.2, fun h => ⟨Nat.le_of_ble_eq_true rfl, h⟩⟩
set_option maxHeartbeats 4000000 in
theorem E_Rule_read (d : Nat) (Q : Qt) :
    (∀ (a0 : Nat) (a1 : Nat) (τ : St), Ru M_Rule_read d Q 0 [some (.ref a0), some (.ref a1)] [] τ = Ru M_Rule_read d Q 1 [some (.ref a0), some (.ref a1)] [.ref a0] τ) ∧
    (∀ (a0 : Nat) (a1 : Nat) (x0 : Nat) (τ : St), Ru M_Rule_read d Q 1 [some (.ref a0), some (.ref a1)] [.ref x0] τ = Ru M_Rule_read d Q 2 [some (.ref a0), some (.ref a1)] [.int 0, .ref x0] τ) ∧
    (∀ (a0 : Nat) (a1 : Nat) (x0 : Int32) (x1 : Nat) (τ : St), Ru M_Rule_read d Q 2 [some (.ref a0), some (.ref a1)] [.int x0, .ref x1] τ = (isA 5 x1 ∧ Ru M_Rule_read d Q 5 [some (.ref a0), some (.ref a1)] [] (sI τ x1 1 x0))) ∧
    (∀ (a0 : Nat) (a1 : Nat) (τ : St), Ru M_Rule_read d Q 5 [some (.ref a0), some (.ref a1)] [] τ = Ru M_Rule_read d Q 6 [some (.ref a0), some (.ref a1)] [.ref a1] τ) ∧
    (∀ (a0 : Nat) (a1 : Nat) (x0 : Nat) (τ : St), Ru M_Rule_read d Q 6 [some (.ref a0), some (.ref a1)] [.ref x0] τ = Ru M_Rule_read d Q 8 [some (.ref a0), some (.ref a1)] [.int 40, .ref x0] τ) ∧
    (∀ (a0 : Nat) (a1 : Nat) (x0 : Int32) (x1 : Nat) (τ : St), Ru M_Rule_read d Q 8 [some (.ref a0), some (.ref a1)] [.int x0, .ref x1] τ = (isA 6 x1 ∧ Cl d m_Text_open [.ref x1, .int x0] τ (fun v τ' => Ru M_Rule_read d Q 11 [some (.ref a0), some (.ref a1)] (v.toList ++ []) τ'))) ∧
    (∀ (a0 : Nat) (a1 : Nat) (τ : St), Ru M_Rule_read d Q 11 [some (.ref a0), some (.ref a1)] [] τ = Ru M_Rule_read d Q 12 [some (.ref a0), some (.ref a1)] [.ref a1] τ) ∧
    (∀ (a0 : Nat) (a1 : Nat) (x0 : Nat) (τ : St), Ru M_Rule_read d Q 12 [some (.ref a0), some (.ref a1)] [.ref x0] τ = (isA 6 x0 ∧ Cl d m_Text_finished [.ref x0] τ (fun v τ' => Ru M_Rule_read d Q 15 [some (.ref a0), some (.ref a1)] (v.toList ++ []) τ'))) ∧
    (∀ (a0 : Nat) (a1 : Nat) (x0 : Int32) (τ : St), Ru M_Rule_read d Q 15 [some (.ref a0), some (.ref a1)] [.int x0] τ = ((¬ x0 = 0 → Ru M_Rule_read d Q 35 [some (.ref a0), some (.ref a1)] [] τ) ∧ (x0 = 0 → Ru M_Rule_read d Q 18 [some (.ref a0), some (.ref a1)] [] τ))) ∧
    (∀ (a0 : Nat) (a1 : Nat) (τ : St), Ru M_Rule_read d Q 18 [some (.ref a0), some (.ref a1)] [] τ = Ru M_Rule_read d Q 19 [some (.ref a0), some (.ref a1)] [.ref a0] τ) ∧
    (∀ (a0 : Nat) (a1 : Nat) (x0 : Nat) (τ : St), Ru M_Rule_read d Q 19 [some (.ref a0), some (.ref a1)] [.ref x0] τ = Ru M_Rule_read d Q 20 [some (.ref a0), some (.ref a1)] [.ref a1, .ref x0] τ) ∧
    (∀ (a0 : Nat) (a1 : Nat) (x0 : Nat) (x1 : Nat) (τ : St), Ru M_Rule_read d Q 20 [some (.ref a0), some (.ref a1)] [.ref x0, .ref x1] τ = Ru M_Rule_read d Q 21 [some (.ref a0), some (.ref a1)] [.int 0, .ref x0, .ref x1] τ) ∧
    (∀ (a0 : Nat) (a1 : Nat) (x0 : Int32) (x1 : Nat) (x2 : Nat) (τ : St), Ru M_Rule_read d Q 21 [some (.ref a0), some (.ref a1)] [.int x0, .ref x1, .ref x2] τ = Ru M_Rule_read d Q 22 [some (.ref a0), some (.ref a1)] [.int 0, .int x0, .ref x1, .ref x2] τ) ∧
    (∀ (a0 : Nat) (a1 : Nat) (x0 : Int32) (x1 : Int32) (x2 : Nat) (x3 : Nat) (τ : St), Ru M_Rule_read d Q 22 [some (.ref a0), some (.ref a1)] [.int x0, .int x1, .ref x2, .ref x3] τ = (isA 5 x3 ∧ Cl d m_Rule_readJoined [.ref x3, .ref x2, .int x1, .int x0] τ (fun v τ' => Ru M_Rule_read d Q 25 [some (.ref a0), some (.ref a1)] (v.toList ++ []) τ'))) ∧
    (∀ (a0 : Nat) (a1 : Nat) (x0 : Int32) (τ : St), Ru M_Rule_read d Q 25 [some (.ref a0), some (.ref a1)] [.int x0] τ = ((x0 = 0 → Ru M_Rule_read d Q 39 [some (.ref a0), some (.ref a1)] [] τ) ∧ (¬ x0 = 0 → Ru M_Rule_read d Q 28 [some (.ref a0), some (.ref a1)] [] τ))) ∧
    (∀ (a0 : Nat) (a1 : Nat) (τ : St), Ru M_Rule_read d Q 28 [some (.ref a0), some (.ref a1)] [] τ = Ru M_Rule_read d Q 29 [some (.ref a0), some (.ref a1)] [.ref a1] τ) ∧
    (∀ (a0 : Nat) (a1 : Nat) (x0 : Nat) (τ : St), Ru M_Rule_read d Q 29 [some (.ref a0), some (.ref a1)] [.ref x0] τ = (isA 6 x0 ∧ Cl d m_Text_finished [.ref x0] τ (fun v τ' => Ru M_Rule_read d Q 32 [some (.ref a0), some (.ref a1)] (v.toList ++ []) τ'))) ∧
    (∀ (a0 : Nat) (a1 : Nat) (x0 : Int32) (τ : St), Ru M_Rule_read d Q 32 [some (.ref a0), some (.ref a1)] [.int x0] τ = ((x0 = 0 → Ru M_Rule_read d Q 39 [some (.ref a0), some (.ref a1)] [] τ) ∧ (¬ x0 = 0 → Ru M_Rule_read d Q 35 [some (.ref a0), some (.ref a1)] [] τ))) ∧
    (∀ (a0 : Nat) (a1 : Nat) (τ : St), Ru M_Rule_read d Q 35 [some (.ref a0), some (.ref a1)] [] τ = Ru M_Rule_read d Q 36 [some (.ref a0), some (.ref a1)] [.int 1] τ) ∧
    (∀ (a0 : Nat) (a1 : Nat) (x0 : Int32) (τ : St), Ru M_Rule_read d Q 36 [some (.ref a0), some (.ref a1)] [.int x0] τ = Ru M_Rule_read d Q 40 [some (.ref a0), some (.ref a1)] [.int x0] τ) ∧
    (∀ (a0 : Nat) (a1 : Nat) (τ : St), Ru M_Rule_read d Q 39 [some (.ref a0), some (.ref a1)] [] τ = Ru M_Rule_read d Q 40 [some (.ref a0), some (.ref a1)] [.int 0] τ) ∧
    (∀ (a0 : Nat) (a1 : Nat) (x0 : Int32) (τ : St), Ru M_Rule_read d Q 40 [some (.ref a0), some (.ref a1)] [.int x0] τ = ((x0 = 0 ∨ x0 = 1) ∧ Q (some (.int x0)) τ)) := ⟨
  fun _ _ _ => (R_at ok_Rule_read rfl).trans (e_ald rfl),
  fun _ _ _ _ => (R_at ok_Rule_read rfl).trans e_push,
  fun _ _ _ _ _ => (R_at ok_Rule_read rfl).trans e_pI,
  fun _ _ _ => (R_at ok_Rule_read rfl).trans (e_ald rfl),
  fun _ _ _ _ => (R_at ok_Rule_read rfl).trans e_push,
  fun _ _ x0 _ _ => (R_at ok_Rule_read rfl).trans (e_cv [.int x0] rfl rfl rfl),
  fun _ _ _ => (R_at ok_Rule_read rfl).trans (e_ald rfl),
  fun _ _ _ _ => (R_at ok_Rule_read rfl).trans (e_cv [] rfl rfl rfl),
  fun _ _ _ _ => (R_at ok_Rule_read rfl).trans e_ifn,
  fun _ _ _ => (R_at ok_Rule_read rfl).trans (e_ald rfl),
  fun _ _ _ _ => (R_at ok_Rule_read rfl).trans (e_ald rfl),
  fun _ _ _ _ _ => (R_at ok_Rule_read rfl).trans e_push,
  fun _ _ _ _ _ _ => (R_at ok_Rule_read rfl).trans e_push,
  fun _ _ x0 x1 x2 _ _ => (R_at ok_Rule_read rfl).trans (e_cv [.ref x2, .int x1, .int x0] rfl rfl rfl),
  fun _ _ _ _ => (R_at ok_Rule_read rfl).trans e_if,
  fun _ _ _ => (R_at ok_Rule_read rfl).trans (e_ald rfl),
  fun _ _ _ _ => (R_at ok_Rule_read rfl).trans (e_cv [] rfl rfl rfl),
  fun _ _ _ _ => (R_at ok_Rule_read rfl).trans e_if,
  fun _ _ _ => (R_at ok_Rule_read rfl).trans e_push,
  fun _ _ _ _ => (R_at ok_Rule_read rfl).trans e_goto,
  fun _ _ _ => (R_at ok_Rule_read rfl).trans e_push,
  fun _ _ _ _ => (R_at ok_Rule_read rfl).trans e_zret⟩
set_option maxHeartbeats 4000000 in
theorem N_Rule_readJoined (d : Nat) (Q : Qt) : ∀ (x0 : Nat) (x1 : Nat) (x2 : Int32) (x3 : Int32) (τ : St), Cl (d + 1) m_Rule_readJoined [.ref x0, .ref x1, .int x2, .int x3] τ Q = Ru M_Rule_readJoined d Q 0 [some (.ref x0), some (.ref x1), some (.int x2), some (.int x3), none, none, none] [] τ := fun _ _ _ _ _ => propext ⟨fun h => h.2, fun h => ⟨Nat.le_of_ble_eq_true rfl, h⟩⟩
set_option maxHeartbeats 4000000 in
theorem E_Rule_readJoined (d : Nat) (Q : Qt) :
    (∀ (a0 : Nat) (a1 : Nat) (a2 : Int32) (a3 : Int32) (τ : St), Ru M_Rule_readJoined d Q 0 [some (.ref a0), some (.ref a1), some (.int a2), some (.int a3), none, none, none] [] τ = Ru M_Rule_readJoined d Q 1 [some (.ref a0), some (.ref a1), some (.int a2), some (.int a3), none, none, none] [.int a2] τ) ∧
    (∀ (a0 : Nat) (a1 : Nat) (a2 : Int32) (a3 : Int32) (x0 : Int32) (τ : St), Ru M_Rule_readJoined d Q 1 [some (.ref a0), some (.ref a1), some (.int a2), some (.int a3), none, none, none] [.int x0] τ = Ru M_Rule_readJoined d Q 2 [some (.ref a0), some (.ref a1), some (.int a2), some (.int a3), none, none, none] [.int 2, .int x0] τ) ∧
    (∀ (a0 : Nat) (a1 : Nat) (a2 : Int32) (a3 : Int32) (x0 : Int32) (x1 : Int32) (τ : St), Ru M_Rule_readJoined d Q 2 [some (.ref a0), some (.ref a1), some (.int a2), some (.int a3), none, none, none] [.int x0, .int x1] τ = ((x1 ≤ x0 → Ru M_Rule_readJoined d Q 12 [some (.ref a0), some (.ref a1), some (.int a2), some (.int a3), none, none, none] [] τ) ∧ (¬ x1 ≤ x0 → Ru M_Rule_readJoined d Q 5 [some (.ref a0), some (.ref a1), some (.int a2), some (.int a3), none, none, none] [] τ))) ∧
    (∀ (a0 : Nat) (a1 : Nat) (a2 : Int32) (a3 : Int32) (τ : St), Ru M_Rule_readJoined d Q 5 [some (.ref a0), some (.ref a1), some (.int a2), some (.int a3), none, none, none] [] τ = Ru M_Rule_readJoined d Q 6 [some (.ref a0), some (.ref a1), some (.int a2), some (.int a3), none, none, none] [.ref a0] τ) ∧
    (∀ (a0 : Nat) (a1 : Nat) (a2 : Int32) (a3 : Int32) (x0 : Nat) (τ : St), Ru M_Rule_readJoined d Q 6 [some (.ref a0), some (.ref a1), some (.int a2), some (.int a3), none, none, none] [.ref x0] τ = Ru M_Rule_readJoined d Q 7 [some (.ref a0), some (.ref a1), some (.int a2), some (.int a3), none, none, none] [.ref a1, .ref x0] τ) ∧
    (∀ (a0 : Nat) (a1 : Nat) (a2 : Int32) (a3 : Int32) (x0 : Nat) (x1 : Nat) (τ : St), Ru M_Rule_readJoined d Q 7 [some (.ref a0), some (.ref a1), some (.int a2), some (.int a3), none, none, none] [.ref x0, .ref x1] τ = Ru M_Rule_readJoined d Q 8 [some (.ref a0), some (.ref a1), some (.int a2), some (.int a3), none, none, none] [.int a3, .ref x0, .ref x1] τ) ∧
    (∀ (a0 : Nat) (a1 : Nat) (a2 : Int32) (a3 : Int32) (x0 : Int32) (x1 : Nat) (x2 : Nat) (τ : St), Ru M_Rule_readJoined d Q 8 [some (.ref a0), some (.ref a1), some (.int a2), some (.int a3), none, none, none] [.int x0, .ref x1, .ref x2] τ = (isA 5 x2 ∧ Cl d m_Rule_readFactor [.ref x2, .ref x1, .int x0] τ (fun v τ' => Ru M_Rule_readJoined d Q 11 [some (.ref a0), some (.ref a1), some (.int a2), some (.int a3), none, none, none] (v.toList ++ []) τ'))) ∧
    (∀ (a0 : Nat) (a1 : Nat) (a2 : Int32) (a3 : Int32) (x0 : Int32) (τ : St), Ru M_Rule_readJoined d Q 11 [some (.ref a0), some (.ref a1), some (.int a2), some (.int a3), none, none, none] [.int x0] τ = ((x0 = 0 ∨ x0 = 1) ∧ Q (some (.int x0)) τ)) ∧
    (∀ (a0 : Nat) (a1 : Nat) (a2 : Int32) (a3 : Int32) (τ : St), Ru M_Rule_readJoined d Q 12 [some (.ref a0), some (.ref a1), some (.int a2), some (.int a3), none, none, none] [] τ = Ru M_Rule_readJoined d Q 13 [some (.ref a0), some (.ref a1), some (.int a2), some (.int a3), none, none, none] [.ref a0] τ) ∧
    (∀ (a0 : Nat) (a1 : Nat) (a2 : Int32) (a3 : Int32) (x0 : Nat) (τ : St), Ru M_Rule_readJoined d Q 13 [some (.ref a0), some (.ref a1), some (.int a2), some (.int a3), none, none, none] [.ref x0] τ = Ru M_Rule_readJoined d Q 14 [some (.ref a0), some (.ref a1), some (.int a2), some (.int a3), none, none, none] [.ref a1, .ref x0] τ) ∧
    (∀ (a0 : Nat) (a1 : Nat) (a2 : Int32) (a3 : Int32) (x0 : Nat) (x1 : Nat) (τ : St), Ru M_Rule_readJoined d Q 14 [some (.ref a0), some (.ref a1), some (.int a2), some (.int a3), none, none, none] [.ref x0, .ref x1] τ = Ru M_Rule_readJoined d Q 15 [some (.ref a0), some (.ref a1), some (.int a2), some (.int a3), none, none, none] [.int a2, .ref x0, .ref x1] τ) ∧
    (∀ (a0 : Nat) (a1 : Nat) (a2 : Int32) (a3 : Int32) (x0 : Int32) (x1 : Nat) (x2 : Nat) (τ : St), Ru M_Rule_readJoined d Q 15 [some (.ref a0), some (.ref a1), some (.int a2), some (.int a3), none, none, none] [.int x0, .ref x1, .ref x2] τ = Ru M_Rule_readJoined d Q 16 [some (.ref a0), some (.ref a1), some (.int a2), some (.int a3), none, none, none] [.int 1, .int x0, .ref x1, .ref x2] τ) ∧
    (∀ (a0 : Nat) (a1 : Nat) (a2 : Int32) (a3 : Int32) (x0 : Int32) (x1 : Int32) (x2 : Nat) (x3 : Nat) (τ : St), Ru M_Rule_readJoined d Q 16 [some (.ref a0), some (.ref a1), some (.int a2), some (.int a3), none, none, none] [.int x0, .int x1, .ref x2, .ref x3] τ = Ru M_Rule_readJoined d Q 17 [some (.ref a0), some (.ref a1), some (.int a2), some (.int a3), none, none, none] [.int (x1 + x0), .ref x2, .ref x3] τ) ∧
    (∀ (a0 : Nat) (a1 : Nat) (a2 : Int32) (a3 : Int32) (x0 : Int32) (x1 : Nat) (x2 : Nat) (τ : St), Ru M_Rule_readJoined d Q 17 [some (.ref a0), some (.ref a1), some (.int a2), some (.int a3), none, none, none] [.int x0, .ref x1, .ref x2] τ = Ru M_Rule_readJoined d Q 18 [some (.ref a0), some (.ref a1), some (.int a2), some (.int a3), none, none, none] [.int a3, .int x0, .ref x1, .ref x2] τ) ∧
    (∀ (a0 : Nat) (a1 : Nat) (a2 : Int32) (a3 : Int32) (x0 : Int32) (x1 : Int32) (x2 : Nat) (x3 : Nat) (τ : St), Ru M_Rule_readJoined d Q 18 [some (.ref a0), some (.ref a1), some (.int a2), some (.int a3), none, none, none] [.int x0, .int x1, .ref x2, .ref x3] τ = (isA 5 x3 ∧ Cl d m_Rule_readJoined [.ref x3, .ref x2, .int x1, .int x0] τ (fun v τ' => Ru M_Rule_readJoined d Q 21 [some (.ref a0), some (.ref a1), some (.int a2), some (.int a3), none, none, none] (v.toList ++ []) τ'))) ∧
    (∀ (a0 : Nat) (a1 : Nat) (a2 : Int32) (a3 : Int32) (x0 : Int32) (τ : St), Ru M_Rule_readJoined d Q 21 [some (.ref a0), some (.ref a1), some (.int a2), some (.int a3), none, none, none] [.int x0] τ = ((¬ x0 = 0 → Ru M_Rule_readJoined d Q 26 [some (.ref a0), some (.ref a1), some (.int a2), some (.int a3), none, none, none] [] τ) ∧ (x0 = 0 → Ru M_Rule_readJoined d Q 24 [some (.ref a0), some (.ref a1), some (.int a2), some (.int a3), none, none, none] [] τ))) ∧
    (∀ (a0 : Nat) (a1 : Nat) (a2 : Int32) (a3 : Int32) (τ : St), Ru M_Rule_readJoined d Q 24 [some (.ref a0), some (.ref a1), some (.int a2), some (.int a3), none, none, none] [] τ = Ru M_Rule_readJoined d Q 25 [some (.ref a0), some (.ref a1), some (.int a2), some (.int a3), none, none, none] [.int 0] τ) ∧
    (∀ (a0 : Nat) (a1 : Nat) (a2 : Int32) (a3 : Int32) (x0 : Int32) (τ : St), Ru M_Rule_readJoined d Q 25 [some (.ref a0), some (.ref a1), some (.int a2), some (.int a3), none, none, none] [.int x0] τ = ((x0 = 0 ∨ x0 = 1) ∧ Q (some (.int x0)) τ)) ∧
    (∀ (a0 : Nat) (a1 : Nat) (a2 : Int32) (a3 : Int32) (τ : St), Ru M_Rule_readJoined d Q 26 [some (.ref a0), some (.ref a1), some (.int a2), some (.int a3), none, none, none] [] τ = Ru M_Rule_readJoined d Q 27 [some (.ref a0), some (.ref a1), some (.int a2), some (.int a3), none, none, none] [.int a2] τ) ∧
    (∀ (a0 : Nat) (a1 : Nat) (a2 : Int32) (a3 : Int32) (x0 : Int32) (τ : St), Ru M_Rule_readJoined d Q 27 [some (.ref a0), some (.ref a1), some (.int a2), some (.int a3), none, none, none] [.int x0] τ = ((¬ x0 = 0 → Ru M_Rule_readJoined d Q 34 [some (.ref a0), some (.ref a1), some (.int a2), some (.int a3), none, none, none] [] τ) ∧ (x0 = 0 → Ru M_Rule_readJoined d Q 30 [some (.ref a0), some (.ref a1), some (.int a2), some (.int a3), none, none, none] [] τ))) ∧
    (∀ (a0 : Nat) (a1 : Nat) (a2 : Int32) (a3 : Int32) (τ : St), Ru M_Rule_readJoined d Q 30 [some (.ref a0), some (.ref a1), some (.int a2), some (.int a3), none, none, none] [] τ = Ru M_Rule_readJoined d Q 31 [some (.ref a0), some (.ref a1), some (.int a2), some (.int a3), none, none, none] [.int 1] τ) ∧
    (∀ (a0 : Nat) (a1 : Nat) (a2 : Int32) (a3 : Int32) (x0 : Int32) (τ : St), Ru M_Rule_readJoined d Q 31 [some (.ref a0), some (.ref a1), some (.int a2), some (.int a3), none, none, none] [.int x0] τ = Ru M_Rule_readJoined d Q 36 [some (.ref a0), some (.ref a1), some (.int a2), some (.int a3), none, none, none] [.int x0] τ) ∧
    (∀ (a0 : Nat) (a1 : Nat) (a2 : Int32) (a3 : Int32) (τ : St), Ru M_Rule_readJoined d Q 34 [some (.ref a0), some (.ref a1), some (.int a2), some (.int a3), none, none, none] [] τ = Ru M_Rule_readJoined d Q 36 [some (.ref a0), some (.ref a1), some (.int a2), some (.int a3), none, none, none] [.int 40] τ) ∧
    (∀ (a0 : Nat) (a1 : Nat) (a2 : Int32) (a3 : Int32) (x0 : Int32) (τ : St), Ru M_Rule_readJoined d Q 36 [some (.ref a0), some (.ref a1), some (.int a2), some (.int a3), none, none, none] [.int x0] τ = Ru M_Rule_readJoined d Q 38 [some (.ref a0), some (.ref a1), some (.int a2), some (.int a3), some (.int x0), none, none] [] τ) ∧
    (∀ (a0 : Nat) (a1 : Nat) (a2 : Int32) (a3 : Int32) (a4 : Int32) (τ : St), Ru M_Rule_readJoined d Q 38 [some (.ref a0), some (.ref a1), some (.int a2), some (.int a3), some (.int a4), none, none] [] τ = Ru M_Rule_readJoined d Q 39 [some (.ref a0), some (.ref a1), some (.int a2), some (.int a3), some (.int a4), none, none] [.int 0] τ) ∧
    (∀ (a0 : Nat) (a1 : Nat) (a2 : Int32) (a3 : Int32) (a4 : Int32) (x0 : Int32) (τ : St), Ru M_Rule_readJoined d Q 39 [some (.ref a0), some (.ref a1), some (.int a2), some (.int a3), some (.int a4), none, none] [.int x0] τ = Rs M_Rule_readJoined d Q 41 [some (.ref a0), some (.ref a1), some (.int a2), some (.int a3), some (.int a4), some (.int x0), none] [] τ) ∧
    (∀ (a0 : Nat) (a1 : Nat) (a2 : Int32) (a3 : Int32) (a4 : Int32) (a5 : Int32) (a6 : Option Value) (τ : St), Ru M_Rule_readJoined d Q 41 [some (.ref a0), some (.ref a1), some (.int a2), some (.int a3), some (.int a4), some (.int a5), a6] [] τ = Ru M_Rule_readJoined d Q 43 [some (.ref a0), some (.ref a1), some (.int a2), some (.int a3), some (.int a4), some (.int a5), a6] [.int a5] τ) ∧
    (∀ (a0 : Nat) (a1 : Nat) (a2 : Int32) (a3 : Int32) (a4 : Int32) (a5 : Int32) (a6 : Option Value) (x0 : Int32) (τ : St), Ru M_Rule_readJoined d Q 43 [some (.ref a0), some (.ref a1), some (.int a2), some (.int a3), some (.int a4), some (.int a5), a6] [.int x0] τ = Ru M_Rule_readJoined d Q 45 [some (.ref a0), some (.ref a1), some (.int a2), some (.int a3), some (.int a4), some (.int a5), a6] [.int a4, .int x0] τ) ∧
    (∀ (a0 : Nat) (a1 : Nat) (a2 : Int32) (a3 : Int32) (a4 : Int32) (a5 : Int32) (a6 : Option Value) (x0 : Int32) (x1 : Int32) (τ : St), Ru M_Rule_readJoined d Q 45 [some (.ref a0), some (.ref a1), some (.int a2), some (.int a3), some (.int a4), some (.int a5), a6] [.int x0, .int x1] τ = ((x0 ≤ x1 → Ru M_Rule_readJoined d Q 102 [some (.ref a0), some (.ref a1), some (.int a2), some (.int a3), some (.int a4), some (.int a5), a6] [] τ) ∧ (¬ x0 ≤ x1 → Ru M_Rule_readJoined d Q 48 [some (.ref a0), some (.ref a1), some (.int a2), some (.int a3), some (.int a4), some (.int a5), a6] [] τ))) ∧
    (∀ (a0 : Nat) (a1 : Nat) (a2 : Int32) (a3 : Int32) (a4 : Int32) (a5 : Int32) (a6 : Option Value) (τ : St), Ru M_Rule_readJoined d Q 48 [some (.ref a0), some (.ref a1), some (.int a2), some (.int a3), some (.int a4), some (.int a5), a6] [] τ = Ru M_Rule_readJoined d Q 49 [some (.ref a0), some (.ref a1), some (.int a2), some (.int a3), some (.int a4), some (.int a5), a6] [.ref a1] τ) ∧
    (∀ (a0 : Nat) (a1 : Nat) (a2 : Int32) (a3 : Int32) (a4 : Int32) (a5 : Int32) (a6 : Option Value) (x0 : Nat) (τ : St), Ru M_Rule_readJoined d Q 49 [some (.ref a0), some (.ref a1), some (.int a2), some (.int a3), some (.int a4), some (.int a5), a6] [.ref x0] τ = (isA 6 x0 ∧ Cl d m_Text_peek [.ref x0] τ (fun v τ' => Ru M_Rule_readJoined d Q 52 [some (.ref a0), some (.ref a1), some (.int a2), some (.int a3), some (.int a4), some (.int a5), a6] (v.toList ++ []) τ'))) ∧
    (∀ (a0 : Nat) (a1 : Nat) (a2 : Int32) (a3 : Int32) (a4 : Int32) (a5 : Int32) (a6 : Option Value) (x0 : Int32) (τ : St), Ru M_Rule_readJoined d Q 52 [some (.ref a0), some (.ref a1), some (.int a2), some (.int a3), some (.int a4), some (.int a5), a6] [.int x0] τ = Cl d m_Rule_levelOf [.int x0] τ (fun v τ' => Ru M_Rule_readJoined d Q 55 [some (.ref a0), some (.ref a1), some (.int a2), some (.int a3), some (.int a4), some (.int a5), a6] (v.toList ++ []) τ')) ∧
    (∀ (a0 : Nat) (a1 : Nat) (a2 : Int32) (a3 : Int32) (a4 : Int32) (a5 : Int32) (a6 : Option Value) (x0 : Int32) (τ : St), Ru M_Rule_readJoined d Q 55 [some (.ref a0), some (.ref a1), some (.int a2), some (.int a3), some (.int a4), some (.int a5), a6] [.int x0] τ = Ru M_Rule_readJoined d Q 56 [some (.ref a0), some (.ref a1), some (.int a2), some (.int a3), some (.int a4), some (.int a5), a6] [.int a2, .int x0] τ) ∧
    (∀ (a0 : Nat) (a1 : Nat) (a2 : Int32) (a3 : Int32) (a4 : Int32) (a5 : Int32) (a6 : Option Value) (x0 : Int32) (x1 : Int32) (τ : St), Ru M_Rule_readJoined d Q 56 [some (.ref a0), some (.ref a1), some (.int a2), some (.int a3), some (.int a4), some (.int a5), a6] [.int x0, .int x1] τ = ((¬ x1 = x0 → Ru M_Rule_readJoined d Q 102 [some (.ref a0), some (.ref a1), some (.int a2), some (.int a3), some (.int a4), some (.int a5), a6] [] τ) ∧ (x1 = x0 → Ru M_Rule_readJoined d Q 59 [some (.ref a0), some (.ref a1), some (.int a2), some (.int a3), some (.int a4), some (.int a5), a6] [] τ))) ∧
    (∀ (a0 : Nat) (a1 : Nat) (a2 : Int32) (a3 : Int32) (a4 : Int32) (a5 : Int32) (a6 : Option Value) (τ : St), Ru M_Rule_readJoined d Q 59 [some (.ref a0), some (.ref a1), some (.int a2), some (.int a3), some (.int a4), some (.int a5), a6] [] τ = Ru M_Rule_readJoined d Q 60 [some (.ref a0), some (.ref a1), some (.int a2), some (.int a3), some (.int a4), some (.int a5), a6] [.ref a1] τ) ∧
    (∀ (a0 : Nat) (a1 : Nat) (a2 : Int32) (a3 : Int32) (a4 : Int32) (a5 : Int32) (a6 : Option Value) (x0 : Nat) (τ : St), Ru M_Rule_readJoined d Q 60 [some (.ref a0), some (.ref a1), some (.int a2), some (.int a3), some (.int a4), some (.int a5), a6] [.ref x0] τ = (isA 6 x0 ∧ Cl d m_Text_peek [.ref x0] τ (fun v τ' => Ru M_Rule_readJoined d Q 63 [some (.ref a0), some (.ref a1), some (.int a2), some (.int a3), some (.int a4), some (.int a5), a6] (v.toList ++ []) τ'))) ∧
    (∀ (a0 : Nat) (a1 : Nat) (a2 : Int32) (a3 : Int32) (a4 : Int32) (a5 : Int32) (a6 : Option Value) (x0 : Int32) (τ : St), Ru M_Rule_readJoined d Q 63 [some (.ref a0), some (.ref a1), some (.int a2), some (.int a3), some (.int a4), some (.int a5), a6] [.int x0] τ = Ru M_Rule_readJoined d Q 65 [some (.ref a0), some (.ref a1), some (.int a2), some (.int a3), some (.int a4), some (.int a5), some (.int x0)] [] τ) ∧
    (∀ (a0 : Nat) (a1 : Nat) (a2 : Int32) (a3 : Int32) (a4 : Int32) (a5 : Int32) (a6 : Int32) (τ : St), Ru M_Rule_readJoined d Q 65 [some (.ref a0), some (.ref a1), some (.int a2), some (.int a3), some (.int a4), some (.int a5), some (.int a6)] [] τ = Ru M_Rule_readJoined d Q 66 [some (.ref a0), some (.ref a1), some (.int a2), some (.int a3), some (.int a4), some (.int a5), some (.int a6)] [.ref a1] τ) ∧
    (∀ (a0 : Nat) (a1 : Nat) (a2 : Int32) (a3 : Int32) (a4 : Int32) (a5 : Int32) (a6 : Int32) (x0 : Nat) (τ : St), Ru M_Rule_readJoined d Q 66 [some (.ref a0), some (.ref a1), some (.int a2), some (.int a3), some (.int a4), some (.int a5), some (.int a6)] [.ref x0] τ = (isA 6 x0 ∧ Cl d m_Text_step [.ref x0] τ (fun v τ' => Ru M_Rule_readJoined d Q 69 [some (.ref a0), some (.ref a1), some (.int a2), some (.int a3), some (.int a4), some (.int a5), some (.int a6)] (v.toList ++ []) τ'))) ∧
    (∀ (a0 : Nat) (a1 : Nat) (a2 : Int32) (a3 : Int32) (a4 : Int32) (a5 : Int32) (a6 : Int32) (τ : St), Ru M_Rule_readJoined d Q 69 [some (.ref a0), some (.ref a1), some (.int a2), some (.int a3), some (.int a4), some (.int a5), some (.int a6)] [] τ = Ru M_Rule_readJoined d Q 70 [some (.ref a0), some (.ref a1), some (.int a2), some (.int a3), some (.int a4), some (.int a5), some (.int a6)] [.ref a0] τ) ∧
    (∀ (a0 : Nat) (a1 : Nat) (a2 : Int32) (a3 : Int32) (a4 : Int32) (a5 : Int32) (a6 : Int32) (x0 : Nat) (τ : St), Ru M_Rule_readJoined d Q 70 [some (.ref a0), some (.ref a1), some (.int a2), some (.int a3), some (.int a4), some (.int a5), some (.int a6)] [.ref x0] τ = Ru M_Rule_readJoined d Q 71 [some (.ref a0), some (.ref a1), some (.int a2), some (.int a3), some (.int a4), some (.int a5), some (.int a6)] [.ref a1, .ref x0] τ) ∧
    (∀ (a0 : Nat) (a1 : Nat) (a2 : Int32) (a3 : Int32) (a4 : Int32) (a5 : Int32) (a6 : Int32) (x0 : Nat) (x1 : Nat) (τ : St), Ru M_Rule_readJoined d Q 71 [some (.ref a0), some (.ref a1), some (.int a2), some (.int a3), some (.int a4), some (.int a5), some (.int a6)] [.ref x0, .ref x1] τ = Ru M_Rule_readJoined d Q 72 [some (.ref a0), some (.ref a1), some (.int a2), some (.int a3), some (.int a4), some (.int a5), some (.int a6)] [.int a2, .ref x0, .ref x1] τ) ∧
    (∀ (a0 : Nat) (a1 : Nat) (a2 : Int32) (a3 : Int32) (a4 : Int32) (a5 : Int32) (a6 : Int32) (x0 : Int32) (x1 : Nat) (x2 : Nat) (τ : St), Ru M_Rule_readJoined d Q 72 [some (.ref a0), some (.ref a1), some (.int a2), some (.int a3), some (.int a4), some (.int a5), some (.int a6)] [.int x0, .ref x1, .ref x2] τ = Ru M_Rule_readJoined d Q 73 [some (.ref a0), some (.ref a1), some (.int a2), some (.int a3), some (.int a4), some (.int a5), some (.int a6)] [.int 1, .int x0, .ref x1, .ref x2] τ) ∧
    (∀ (a0 : Nat) (a1 : Nat) (a2 : Int32) (a3 : Int32) (a4 : Int32) (a5 : Int32) (a6 : Int32) (x0 : Int32) (x1 : Int32) (x2 : Nat) (x3 : Nat) (τ : St), Ru M_Rule_readJoined d Q 73 [some (.ref a0), some (.ref a1), some (.int a2), some (.int a3), some (.int a4), some (.int a5), some (.int a6)] [.int x0, .int x1, .ref x2, .ref x3] τ = Ru M_Rule_readJoined d Q 74 [some (.ref a0), some (.ref a1), some (.int a2), some (.int a3), some (.int a4), some (.int a5), some (.int a6)] [.int (x1 + x0), .ref x2, .ref x3] τ) ∧
    (∀ (a0 : Nat) (a1 : Nat) (a2 : Int32) (a3 : Int32) (a4 : Int32) (a5 : Int32) (a6 : Int32) (x0 : Int32) (x1 : Nat) (x2 : Nat) (τ : St), Ru M_Rule_readJoined d Q 74 [some (.ref a0), some (.ref a1), some (.int a2), some (.int a3), some (.int a4), some (.int a5), some (.int a6)] [.int x0, .ref x1, .ref x2] τ = Ru M_Rule_readJoined d Q 75 [some (.ref a0), some (.ref a1), some (.int a2), some (.int a3), some (.int a4), some (.int a5), some (.int a6)] [.int a3, .int x0, .ref x1, .ref x2] τ) ∧
    (∀ (a0 : Nat) (a1 : Nat) (a2 : Int32) (a3 : Int32) (a4 : Int32) (a5 : Int32) (a6 : Int32) (x0 : Int32) (x1 : Int32) (x2 : Nat) (x3 : Nat) (τ : St), Ru M_Rule_readJoined d Q 75 [some (.ref a0), some (.ref a1), some (.int a2), some (.int a3), some (.int a4), some (.int a5), some (.int a6)] [.int x0, .int x1, .ref x2, .ref x3] τ = (isA 5 x3 ∧ Cl d m_Rule_readJoined [.ref x3, .ref x2, .int x1, .int x0] τ (fun v τ' => Ru M_Rule_readJoined d Q 78 [some (.ref a0), some (.ref a1), some (.int a2), some (.int a3), some (.int a4), some (.int a5), some (.int a6)] (v.toList ++ []) τ'))) ∧
    (∀ (a0 : Nat) (a1 : Nat) (a2 : Int32) (a3 : Int32) (a4 : Int32) (a5 : Int32) (a6 : Int32) (x0 : Int32) (τ : St), Ru M_Rule_readJoined d Q 78 [some (.ref a0), some (.ref a1), some (.int a2), some (.int a3), some (.int a4), some (.int a5), some (.int a6)] [.int x0] τ = ((x0 = 0 → Ru M_Rule_readJoined d Q 94 [some (.ref a0), some (.ref a1), some (.int a2), some (.int a3), some (.int a4), some (.int a5), some (.int a6)] [] τ) ∧ (¬ x0 = 0 → Ru M_Rule_readJoined d Q 81 [some (.ref a0), some (.ref a1), some (.int a2), some (.int a3), some (.int a4), some (.int a5), some (.int a6)] [] τ))) ∧
    (∀ (a0 : Nat) (a1 : Nat) (a2 : Int32) (a3 : Int32) (a4 : Int32) (a5 : Int32) (a6 : Int32) (τ : St), Ru M_Rule_readJoined d Q 81 [some (.ref a0), some (.ref a1), some (.int a2), some (.int a3), some (.int a4), some (.int a5), some (.int a6)] [] τ = Ru M_Rule_readJoined d Q 82 [some (.ref a0), some (.ref a1), some (.int a2), some (.int a3), some (.int a4), some (.int a5), some (.int a6)] [.ref a0] τ) ∧
    (∀ (a0 : Nat) (a1 : Nat) (a2 : Int32) (a3 : Int32) (a4 : Int32) (a5 : Int32) (a6 : Int32) (x0 : Nat) (τ : St), Ru M_Rule_readJoined d Q 82 [some (.ref a0), some (.ref a1), some (.int a2), some (.int a3), some (.int a4), some (.int a5), some (.int a6)] [.ref x0] τ = Ru M_Rule_readJoined d Q 85 [some (.ref a0), some (.ref a1), some (.int a2), some (.int a3), some (.int a4), some (.int a5), some (.int a6)] [.int 1000, .ref x0] τ) ∧
    (∀ (a0 : Nat) (a1 : Nat) (a2 : Int32) (a3 : Int32) (a4 : Int32) (a5 : Int32) (a6 : Int32) (x0 : Int32) (x1 : Nat) (τ : St), Ru M_Rule_readJoined d Q 85 [some (.ref a0), some (.ref a1), some (.int a2), some (.int a3), some (.int a4), some (.int a5), some (.int a6)] [.int x0, .ref x1] τ = Ru M_Rule_readJoined d Q 87 [some (.ref a0), some (.ref a1), some (.int a2), some (.int a3), some (.int a4), some (.int a5), some (.int a6)] [.int a6, .int x0, .ref x1] τ) ∧
    (∀ (a0 : Nat) (a1 : Nat) (a2 : Int32) (a3 : Int32) (a4 : Int32) (a5 : Int32) (a6 : Int32) (x0 : Int32) (x1 : Int32) (x2 : Nat) (τ : St), Ru M_Rule_readJoined d Q 87 [some (.ref a0), some (.ref a1), some (.int a2), some (.int a3), some (.int a4), some (.int a5), some (.int a6)] [.int x0, .int x1, .ref x2] τ = Ru M_Rule_readJoined d Q 88 [some (.ref a0), some (.ref a1), some (.int a2), some (.int a3), some (.int a4), some (.int a5), some (.int a6)] [.int (x1 + x0), .ref x2] τ) ∧
    (∀ (a0 : Nat) (a1 : Nat) (a2 : Int32) (a3 : Int32) (a4 : Int32) (a5 : Int32) (a6 : Int32) (x0 : Int32) (x1 : Nat) (τ : St), Ru M_Rule_readJoined d Q 88 [some (.ref a0), some (.ref a1), some (.int a2), some (.int a3), some (.int a4), some (.int a5), some (.int a6)] [.int x0, .ref x1] τ = (isA 5 x1 ∧ Cl d m_Rule_addStep [.ref x1, .int x0] τ (fun v τ' => Ru M_Rule_readJoined d Q 91 [some (.ref a0), some (.ref a1), some (.int a2), some (.int a3), some (.int a4), some (.int a5), some (.int a6)] (v.toList ++ []) τ'))) ∧
    (∀ (a0 : Nat) (a1 : Nat) (a2 : Int32) (a3 : Int32) (a4 : Int32) (a5 : Int32) (a6 : Int32) (x0 : Int32) (τ : St), Ru M_Rule_readJoined d Q 91 [some (.ref a0), some (.ref a1), some (.int a2), some (.int a3), some (.int a4), some (.int a5), some (.int a6)] [.int x0] τ = ((¬ x0 = 0 → Ru M_Rule_readJoined d Q 96 [some (.ref a0), some (.ref a1), some (.int a2), some (.int a3), some (.int a4), some (.int a5), some (.int a6)] [] τ) ∧ (x0 = 0 → Ru M_Rule_readJoined d Q 94 [some (.ref a0), some (.ref a1), some (.int a2), some (.int a3), some (.int a4), some (.int a5), some (.int a6)] [] τ))) ∧
    (∀ (a0 : Nat) (a1 : Nat) (a2 : Int32) (a3 : Int32) (a4 : Int32) (a5 : Int32) (a6 : Int32) (τ : St), Ru M_Rule_readJoined d Q 94 [some (.ref a0), some (.ref a1), some (.int a2), some (.int a3), some (.int a4), some (.int a5), some (.int a6)] [] τ = Ru M_Rule_readJoined d Q 95 [some (.ref a0), some (.ref a1), some (.int a2), some (.int a3), some (.int a4), some (.int a5), some (.int a6)] [.int 0] τ) ∧
    (∀ (a0 : Nat) (a1 : Nat) (a2 : Int32) (a3 : Int32) (a4 : Int32) (a5 : Int32) (a6 : Int32) (x0 : Int32) (τ : St), Ru M_Rule_readJoined d Q 95 [some (.ref a0), some (.ref a1), some (.int a2), some (.int a3), some (.int a4), some (.int a5), some (.int a6)] [.int x0] τ = ((x0 = 0 ∨ x0 = 1) ∧ Q (some (.int x0)) τ)) ∧
    (∀ (a0 : Nat) (a1 : Nat) (a2 : Int32) (a3 : Int32) (a4 : Int32) (a5 : Int32) (a6 : Int32) (τ : St), Ru M_Rule_readJoined d Q 96 [some (.ref a0), some (.ref a1), some (.int a2), some (.int a3), some (.int a4), some (.int a5), some (.int a6)] [] τ = Ru M_Rule_readJoined d Q 99 [some (.ref a0), some (.ref a1), some (.int a2), some (.int a3), some (.int a4), some (.int (a5 + 1)), some (.int a6)] [] τ) ∧
    (∀ (a0 : Nat) (a1 : Nat) (a2 : Int32) (a3 : Int32) (a4 : Int32) (a5 : Int32) (a6 : Int32) (τ : St), Ru M_Rule_readJoined d Q 99 [some (.ref a0), some (.ref a1), some (.int a2), some (.int a3), some (.int a4), some (.int a5), some (.int a6)] [] τ = Rs M_Rule_readJoined d Q 41 [some (.ref a0), some (.ref a1), some (.int a2), some (.int a3), some (.int a4), some (.int a5), some (.int a6)] [] τ) ∧
    (∀ (a0 : Nat) (a1 : Nat) (a2 : Int32) (a3 : Int32) (a4 : Int32) (a5 : Int32) (a6 : Option Value) (τ : St), Ru M_Rule_readJoined d Q 102 [some (.ref a0), some (.ref a1), some (.int a2), some (.int a3), some (.int a4), some (.int a5), a6] [] τ = Ru M_Rule_readJoined d Q 103 [some (.ref a0), some (.ref a1), some (.int a2), some (.int a3), some (.int a4), some (.int a5), a6] [.int 1] τ) ∧
    (∀ (a0 : Nat) (a1 : Nat) (a2 : Int32) (a3 : Int32) (a4 : Int32) (a5 : Int32) (a6 : Option Value) (x0 : Int32) (τ : St), Ru M_Rule_readJoined d Q 103 [some (.ref a0), some (.ref a1), some (.int a2), some (.int a3), some (.int a4), some (.int a5), a6] [.int x0] τ = ((x0 = 0 ∨ x0 = 1) ∧ Q (some (.int x0)) τ)) := ⟨
  fun _ _ _ _ _ => (R_at ok_Rule_readJoined rfl).trans (e_ild rfl),
  fun _ _ _ _ _ _ => (R_at ok_Rule_readJoined rfl).trans e_push,
  fun _ _ _ _ _ _ _ => (R_at ok_Rule_readJoined rfl).trans e_ic,
  fun _ _ _ _ _ => (R_at ok_Rule_readJoined rfl).trans (e_ald rfl),
  fun _ _ _ _ _ _ => (R_at ok_Rule_readJoined rfl).trans (e_ald rfl),
  fun _ _ _ _ _ _ _ => (R_at ok_Rule_readJoined rfl).trans (e_ild rfl),
  fun _ _ _ _ x0 x1 _ _ => (R_at ok_Rule_readJoined rfl).trans (e_cv [.ref x1, .int x0] rfl rfl rfl),
  fun _ _ _ _ _ _ => (R_at ok_Rule_readJoined rfl).trans e_zret,
  fun _ _ _ _ _ => (R_at ok_Rule_readJoined rfl).trans (e_ald rfl),
  fun _ _ _ _ _ _ => (R_at ok_Rule_readJoined rfl).trans (e_ald rfl),
  fun _ _ _ _ _ _ _ => (R_at ok_Rule_readJoined rfl).trans (e_ild rfl),
  fun _ _ _ _ _ _ _ _ => (R_at ok_Rule_readJoined rfl).trans e_push,
  fun _ _ _ _ _ _ _ _ _ => (R_at ok_Rule_readJoined rfl).trans e_bin,
  fun _ _ _ _ _ _ _ _ => (R_at ok_Rule_readJoined rfl).trans (e_ild rfl),
  fun _ _ _ _ x0 x1 x2 _ _ => (R_at ok_Rule_readJoined rfl).trans (e_cv [.ref x2, .int x1, .int x0] rfl rfl rfl),
  fun _ _ _ _ _ _ => (R_at ok_Rule_readJoined rfl).trans e_ifn,
  fun _ _ _ _ _ => (R_at ok_Rule_readJoined rfl).trans e_push,
  fun _ _ _ _ _ _ => (R_at ok_Rule_readJoined rfl).trans e_zret,
  fun _ _ _ _ _ => (R_at ok_Rule_readJoined rfl).trans (e_ild rfl),
  fun _ _ _ _ _ _ => (R_at ok_Rule_readJoined rfl).trans e_ifn,
  fun _ _ _ _ _ => (R_at ok_Rule_readJoined rfl).trans e_push,
  fun _ _ _ _ _ _ => (R_at ok_Rule_readJoined rfl).trans e_goto,
  fun _ _ _ _ _ => (R_at ok_Rule_readJoined rfl).trans e_push,
  fun _ _ _ _ _ _ => (R_at ok_Rule_readJoined rfl).trans e_ist,
  fun _ _ _ _ _ _ => (R_at ok_Rule_readJoined rfl).trans e_push,
  fun _ _ _ _ _ _ _ => (R_at ok_Rule_readJoined rfl).trans e_ist,
  fun _ _ _ _ _ _ _ _ => (R_at ok_Rule_readJoined rfl).trans (e_ild rfl),
  fun _ _ _ _ _ _ _ _ _ => (R_at ok_Rule_readJoined rfl).trans (e_ild rfl),
  fun _ _ _ _ _ _ _ _ _ _ => (R_at ok_Rule_readJoined rfl).trans e_ic,
  fun _ _ _ _ _ _ _ _ => (R_at ok_Rule_readJoined rfl).trans (e_ald rfl),
  fun _ _ _ _ _ _ _ _ _ => (R_at ok_Rule_readJoined rfl).trans (e_cv [] rfl rfl rfl),
  fun _ _ _ _ _ _ _ x0 _ => (R_at ok_Rule_readJoined rfl).trans (e_cs [.int x0] rfl rfl rfl),
  fun _ _ _ _ _ _ _ _ _ => (R_at ok_Rule_readJoined rfl).trans (e_ild rfl),
  fun _ _ _ _ _ _ _ _ _ _ => (R_at ok_Rule_readJoined rfl).trans e_icn,
  fun _ _ _ _ _ _ _ _ => (R_at ok_Rule_readJoined rfl).trans (e_ald rfl),
  fun _ _ _ _ _ _ _ _ _ => (R_at ok_Rule_readJoined rfl).trans (e_cv [] rfl rfl rfl),
  fun _ _ _ _ _ _ _ _ _ => (R_at ok_Rule_readJoined rfl).trans e_ist,
  fun _ _ _ _ _ _ _ _ => (R_at ok_Rule_readJoined rfl).trans (e_ald rfl),
  fun _ _ _ _ _ _ _ _ _ => (R_at ok_Rule_readJoined rfl).trans (e_cv [] rfl rfl rfl),
  fun _ _ _ _ _ _ _ _ => (R_at ok_Rule_readJoined rfl).trans (e_ald rfl),
  fun _ _ _ _ _ _ _ _ _ => (R_at ok_Rule_readJoined rfl).trans (e_ald rfl),
  fun _ _ _ _ _ _ _ _ _ _ => (R_at ok_Rule_readJoined rfl).trans (e_ild rfl),
  fun _ _ _ _ _ _ _ _ _ _ _ => (R_at ok_Rule_readJoined rfl).trans e_push,
  fun _ _ _ _ _ _ _ _ _ _ _ _ => (R_at ok_Rule_readJoined rfl).trans e_bin,
  fun _ _ _ _ _ _ _ _ _ _ _ => (R_at ok_Rule_readJoined rfl).trans (e_ild rfl),
  fun _ _ _ _ _ _ _ x0 x1 x2 _ _ => (R_at ok_Rule_readJoined rfl).trans (e_cv [.ref x2, .int x1, .int x0] rfl rfl rfl),
  fun _ _ _ _ _ _ _ _ _ => (R_at ok_Rule_readJoined rfl).trans e_if,
  fun _ _ _ _ _ _ _ _ => (R_at ok_Rule_readJoined rfl).trans (e_ald rfl),
  fun _ _ _ _ _ _ _ _ _ => (R_at ok_Rule_readJoined rfl).trans e_push,
  fun _ _ _ _ _ _ _ _ _ _ => (R_at ok_Rule_readJoined rfl).trans (e_ild rfl),
  fun _ _ _ _ _ _ _ _ _ _ _ => (R_at ok_Rule_readJoined rfl).trans e_bin,
  fun _ _ _ _ _ _ _ x0 _ _ => (R_at ok_Rule_readJoined rfl).trans (e_cv [.int x0] rfl rfl rfl),
  fun _ _ _ _ _ _ _ _ _ => (R_at ok_Rule_readJoined rfl).trans e_ifn,
  fun _ _ _ _ _ _ _ _ => (R_at ok_Rule_readJoined rfl).trans e_push,
  fun _ _ _ _ _ _ _ _ _ => (R_at ok_Rule_readJoined rfl).trans e_zret,
  fun _ _ _ _ _ _ _ _ => (R_at ok_Rule_readJoined rfl).trans (e_iinc rfl),
  fun _ _ _ _ _ _ _ _ => (R_at ok_Rule_readJoined rfl).trans e_goto,
  fun _ _ _ _ _ _ _ _ => (R_at ok_Rule_readJoined rfl).trans e_push,
  fun _ _ _ _ _ _ _ _ _ => (R_at ok_Rule_readJoined rfl).trans e_zret⟩
set_option maxHeartbeats 4000000 in
theorem N_Rule_levelOf (d : Nat) (Q : Qt) : ∀ (x0 : Int32) (τ : St), Cl (d + 1) m_Rule_levelOf [.int x0] τ Q = Ru M_Rule_levelOf d Q 0 [some (.int x0)] [] τ := fun _ _ => propext ⟨fun h => h.2, fun h => ⟨Nat.le_of_ble_eq_true rfl, h⟩⟩
set_option maxHeartbeats 4000000 in
theorem E_Rule_levelOf (d : Nat) (Q : Qt) :
    (∀ (a0 : Int32) (τ : St), Ru M_Rule_levelOf d Q 0 [some (.int a0)] [] τ = Ru M_Rule_levelOf d Q 1 [some (.int a0)] [.int a0] τ) ∧
    (∀ (a0 : Int32) (x0 : Int32) (τ : St), Ru M_Rule_levelOf d Q 1 [some (.int a0)] [.int x0] τ = ((∀ q ∈ ([(42, 104), (43, 102), (44, 106), (45, 102), (46, 106), (47, 104), (48, 106), (49, 106), (50, 106), (51, 106), (52, 106), (53, 106), (54, 106), (55, 106), (56, 106), (57, 106), (58, 106), (59, 106), (60, 100), (61, 100), (62, 100)] : List (Int32 × Nat)), x0 = q.1 → Ru M_Rule_levelOf d Q q.2 [some (.int a0)] [] τ) ∧ ((∀ q ∈ ([(42, 104), (43, 102), (44, 106), (45, 102), (46, 106), (47, 104), (48, 106), (49, 106), (50, 106), (51, 106), (52, 106), (53, 106), (54, 106), (55, 106), (56, 106), (57, 106), (58, 106), (59, 106), (60, 100), (61, 100), (62, 100)] : List (Int32 × Nat)), ¬ x0 = q.1) → Ru M_Rule_levelOf d Q 106 [some (.int a0)] [] τ))) ∧
    (∀ (a0 : Int32) (τ : St), Ru M_Rule_levelOf d Q 100 [some (.int a0)] [] τ = Ru M_Rule_levelOf d Q 101 [some (.int a0)] [.int 0] τ) ∧
    (∀ (a0 : Int32) (x0 : Int32) (τ : St), Ru M_Rule_levelOf d Q 101 [some (.int a0)] [.int x0] τ = Q (some (.int x0)) τ) ∧
    (∀ (a0 : Int32) (τ : St), Ru M_Rule_levelOf d Q 102 [some (.int a0)] [] τ = Ru M_Rule_levelOf d Q 103 [some (.int a0)] [.int 1] τ) ∧
    (∀ (a0 : Int32) (x0 : Int32) (τ : St), Ru M_Rule_levelOf d Q 103 [some (.int a0)] [.int x0] τ = Q (some (.int x0)) τ) ∧
    (∀ (a0 : Int32) (τ : St), Ru M_Rule_levelOf d Q 104 [some (.int a0)] [] τ = Ru M_Rule_levelOf d Q 105 [some (.int a0)] [.int 2] τ) ∧
    (∀ (a0 : Int32) (x0 : Int32) (τ : St), Ru M_Rule_levelOf d Q 105 [some (.int a0)] [.int x0] τ = Q (some (.int x0)) τ) ∧
    (∀ (a0 : Int32) (τ : St), Ru M_Rule_levelOf d Q 106 [some (.int a0)] [] τ = Ru M_Rule_levelOf d Q 107 [some (.int a0)] [.int (-1)] τ) ∧
    (∀ (a0 : Int32) (x0 : Int32) (τ : St), Ru M_Rule_levelOf d Q 107 [some (.int a0)] [.int x0] τ = Q (some (.int x0)) τ) := ⟨
  fun _ _ => (R_at ok_Rule_levelOf rfl).trans (e_ild rfl),
  fun _ _ _ => (R_at ok_Rule_levelOf rfl).trans e_sw,
  fun _ _ => (R_at ok_Rule_levelOf rfl).trans e_push,
  fun _ _ _ => (R_at ok_Rule_levelOf rfl).trans e_iret,
  fun _ _ => (R_at ok_Rule_levelOf rfl).trans e_push,
  fun _ _ _ => (R_at ok_Rule_levelOf rfl).trans e_iret,
  fun _ _ => (R_at ok_Rule_levelOf rfl).trans e_push,
  fun _ _ _ => (R_at ok_Rule_levelOf rfl).trans e_iret,
  fun _ _ => (R_at ok_Rule_levelOf rfl).trans e_push,
  fun _ _ _ => (R_at ok_Rule_levelOf rfl).trans e_iret⟩
set_option maxHeartbeats 4000000 in
theorem N_Rule_readFactor (d : Nat) (Q : Qt) : ∀ (x0 : Nat) (x1 : Nat) (x2 : Int32) (τ : St), Cl (d + 1) m_Rule_readFactor [.ref x0, .ref x1, .int x2] τ Q = Ru M_Rule_readFactor d Q 0 [some (.ref x0), some (.ref x1), some (.int x2), none, none] [] τ := fun _ _ _ _ => propext ⟨fun h => h.2, fun h => ⟨Nat.le_of_ble_eq_true rfl, h⟩⟩
set_option maxHeartbeats 4000000 in
theorem E_Rule_readFactor (d : Nat) (Q : Qt) :
    (∀ (a0 : Nat) (a1 : Nat) (a2 : Int32) (τ : St), Ru M_Rule_readFactor d Q 0 [some (.ref a0), some (.ref a1), some (.int a2), none, none] [] τ = Ru M_Rule_readFactor d Q 1 [some (.ref a0), some (.ref a1), some (.int a2), none, none] [.int 0] τ) ∧
    (∀ (a0 : Nat) (a1 : Nat) (a2 : Int32) (x0 : Int32) (τ : St), Ru M_Rule_readFactor d Q 1 [some (.ref a0), some (.ref a1), some (.int a2), none, none] [.int x0] τ = Ru M_Rule_readFactor d Q 2 [some (.ref a0), some (.ref a1), some (.int a2), some (.int x0), none] [] τ) ∧
    (∀ (a0 : Nat) (a1 : Nat) (a2 : Int32) (a3 : Int32) (τ : St), Ru M_Rule_readFactor d Q 2 [some (.ref a0), some (.ref a1), some (.int a2), some (.int a3), none] [] τ = Ru M_Rule_readFactor d Q 3 [some (.ref a0), some (.ref a1), some (.int a2), some (.int a3), none] [.int 0] τ) ∧
    (∀ (a0 : Nat) (a1 : Nat) (a2 : Int32) (a3 : Int32) (x0 : Int32) (τ : St), Ru M_Rule_readFactor d Q 3 [some (.ref a0), some (.ref a1), some (.int a2), some (.int a3), none] [.int x0] τ = Rs M_Rule_readFactor d Q 5 [some (.ref a0), some (.ref a1), some (.int a2), some (.int a3), some (.int x0)] [] τ) ∧
    (∀ (a0 : Nat) (a1 : Nat) (a2 : Int32) (a3 : Int32) (a4 : Int32) (τ : St), Ru M_Rule_readFactor d Q 5 [some (.ref a0), some (.ref a1), some (.int a2), some (.int a3), some (.int a4)] [] τ = Ru M_Rule_readFactor d Q 7 [some (.ref a0), some (.ref a1), some (.int a2), some (.int a3), some (.int a4)] [.int a4] τ) ∧
    (∀ (a0 : Nat) (a1 : Nat) (a2 : Int32) (a3 : Int32) (a4 : Int32) (x0 : Int32) (τ : St), Ru M_Rule_readFactor d Q 7 [some (.ref a0), some (.ref a1), some (.int a2), some (.int a3), some (.int a4)] [.int x0] τ = Ru M_Rule_readFactor d Q 9 [some (.ref a0), some (.ref a1), some (.int a2), some (.int a3), some (.int a4)] [.int 40, .int x0] τ) ∧
    (∀ (a0 : Nat) (a1 : Nat) (a2 : Int32) (a3 : Int32) (a4 : Int32) (x0 : Int32) (x1 : Int32) (τ : St), Ru M_Rule_readFactor d Q 9 [some (.ref a0), some (.ref a1), some (.int a2), some (.int a3), some (.int a4)] [.int x0, .int x1] τ = ((x0 ≤ x1 → Ru M_Rule_readFactor d Q 37 [some (.ref a0), some (.ref a1), some (.int a2), some (.int a3), some (.int a4)] [] τ) ∧ (¬ x0 ≤ x1 → Ru M_Rule_readFactor d Q 12 [some (.ref a0), some (.ref a1), some (.int a2), some (.int a3), some (.int a4)] [] τ))) ∧
    (∀ (a0 : Nat) (a1 : Nat) (a2 : Int32) (a3 : Int32) (a4 : Int32) (τ : St), Ru M_Rule_readFactor d Q 12 [some (.ref a0), some (.ref a1), some (.int a2), some (.int a3), some (.int a4)] [] τ = Ru M_Rule_readFactor d Q 13 [some (.ref a0), some (.ref a1), some (.int a2), some (.int a3), some (.int a4)] [.ref a1] τ) ∧
    (∀ (a0 : Nat) (a1 : Nat) (a2 : Int32) (a3 : Int32) (a4 : Int32) (x0 : Nat) (τ : St), Ru M_Rule_readFactor d Q 13 [some (.ref a0), some (.ref a1), some (.int a2), some (.int a3), some (.int a4)] [.ref x0] τ = Ru M_Rule_readFactor d Q 15 [some (.ref a0), some (.ref a1), some (.int a2), some (.int a3), some (.int a4)] [.int 45, .ref x0] τ) ∧
    (∀ (a0 : Nat) (a1 : Nat) (a2 : Int32) (a3 : Int32) (a4 : Int32) (x0 : Int32) (x1 : Nat) (τ : St), Ru M_Rule_readFactor d Q 15 [some (.ref a0), some (.ref a1), some (.int a2), some (.int a3), some (.int a4)] [.int x0, .ref x1] τ = (isA 6 x1 ∧ Cl d m_Text_takeSign [.ref x1, .int x0] τ (fun v τ' => Ru M_Rule_readFactor d Q 18 [some (.ref a0), some (.ref a1), some (.int a2), some (.int a3), some (.int a4)] (v.toList ++ []) τ'))) ∧
    (∀ (a0 : Nat) (a1 : Nat) (a2 : Int32) (a3 : Int32) (a4 : Int32) (x0 : Int32) (τ : St), Ru M_Rule_readFactor d Q 18 [some (.ref a0), some (.ref a1), some (.int a2), some (.int a3), some (.int a4)] [.int x0] τ = ((x0 = 0 → Ru M_Rule_readFactor d Q 37 [some (.ref a0), some (.ref a1), some (.int a2), some (.int a3), some (.int a4)] [] τ) ∧ (¬ x0 = 0 → Ru M_Rule_readFactor d Q 21 [some (.ref a0), some (.ref a1), some (.int a2), some (.int a3), some (.int a4)] [] τ))) ∧
    (∀ (a0 : Nat) (a1 : Nat) (a2 : Int32) (a3 : Int32) (a4 : Int32) (τ : St), Ru M_Rule_readFactor d Q 21 [some (.ref a0), some (.ref a1), some (.int a2), some (.int a3), some (.int a4)] [] τ = Ru M_Rule_readFactor d Q 22 [some (.ref a0), some (.ref a1), some (.int a2), some (.int a3), some (.int a4)] [.int a3] τ) ∧
    (∀ (a0 : Nat) (a1 : Nat) (a2 : Int32) (a3 : Int32) (a4 : Int32) (x0 : Int32) (τ : St), Ru M_Rule_readFactor d Q 22 [some (.ref a0), some (.ref a1), some (.int a2), some (.int a3), some (.int a4)] [.int x0] τ = ((¬ x0 = 0 → Ru M_Rule_readFactor d Q 29 [some (.ref a0), some (.ref a1), some (.int a2), some (.int a3), some (.int a4)] [] τ) ∧ (x0 = 0 → Ru M_Rule_readFactor d Q 25 [some (.ref a0), some (.ref a1), some (.int a2), some (.int a3), some (.int a4)] [] τ))) ∧
    (∀ (a0 : Nat) (a1 : Nat) (a2 : Int32) (a3 : Int32) (a4 : Int32) (τ : St), Ru M_Rule_readFactor d Q 25 [some (.ref a0), some (.ref a1), some (.int a2), some (.int a3), some (.int a4)] [] τ = Ru M_Rule_readFactor d Q 26 [some (.ref a0), some (.ref a1), some (.int a2), some (.int a3), some (.int a4)] [.int 1] τ) ∧
    (∀ (a0 : Nat) (a1 : Nat) (a2 : Int32) (a3 : Int32) (a4 : Int32) (x0 : Int32) (τ : St), Ru M_Rule_readFactor d Q 26 [some (.ref a0), some (.ref a1), some (.int a2), some (.int a3), some (.int a4)] [.int x0] τ = Ru M_Rule_readFactor d Q 30 [some (.ref a0), some (.ref a1), some (.int a2), some (.int a3), some (.int a4)] [.int x0] τ) ∧
    (∀ (a0 : Nat) (a1 : Nat) (a2 : Int32) (a3 : Int32) (a4 : Int32) (τ : St), Ru M_Rule_readFactor d Q 29 [some (.ref a0), some (.ref a1), some (.int a2), some (.int a3), some (.int a4)] [] τ = Ru M_Rule_readFactor d Q 30 [some (.ref a0), some (.ref a1), some (.int a2), some (.int a3), some (.int a4)] [.int 0] τ) ∧
    (∀ (a0 : Nat) (a1 : Nat) (a2 : Int32) (a3 : Int32) (a4 : Int32) (x0 : Int32) (τ : St), Ru M_Rule_readFactor d Q 30 [some (.ref a0), some (.ref a1), some (.int a2), some (.int a3), some (.int a4)] [.int x0] τ = Ru M_Rule_readFactor d Q 31 [some (.ref a0), some (.ref a1), some (.int a2), some (.int x0), some (.int a4)] [] τ) ∧
    (∀ (a0 : Nat) (a1 : Nat) (a2 : Int32) (a3 : Int32) (a4 : Int32) (τ : St), Ru M_Rule_readFactor d Q 31 [some (.ref a0), some (.ref a1), some (.int a2), some (.int a3), some (.int a4)] [] τ = Ru M_Rule_readFactor d Q 34 [some (.ref a0), some (.ref a1), some (.int a2), some (.int a3), some (.int (a4 + 1))] [] τ) ∧
    (∀ (a0 : Nat) (a1 : Nat) (a2 : Int32) (a3 : Int32) (a4 : Int32) (τ : St), Ru M_Rule_readFactor d Q 34 [some (.ref a0), some (.ref a1), some (.int a2), some (.int a3), some (.int a4)] [] τ = Rs M_Rule_readFactor d Q 5 [some (.ref a0), some (.ref a1), some (.int a2), some (.int a3), some (.int a4)] [] τ) ∧
    (∀ (a0 : Nat) (a1 : Nat) (a2 : Int32) (a3 : Int32) (a4 : Int32) (τ : St), Ru M_Rule_readFactor d Q 37 [some (.ref a0), some (.ref a1), some (.int a2), some (.int a3), some (.int a4)] [] τ = Ru M_Rule_readFactor d Q 38 [some (.ref a0), some (.ref a1), some (.int a2), some (.int a3), some (.int a4)] [.ref a0] τ) ∧
    (∀ (a0 : Nat) (a1 : Nat) (a2 : Int32) (a3 : Int32) (a4 : Int32) (x0 : Nat) (τ : St), Ru M_Rule_readFactor d Q 38 [some (.ref a0), some (.ref a1), some (.int a2), some (.int a3), some (.int a4)] [.ref x0] τ = Ru M_Rule_readFactor d Q 39 [some (.ref a0), some (.ref a1), some (.int a2), some (.int a3), some (.int a4)] [.ref a1, .ref x0] τ) ∧
    (∀ (a0 : Nat) (a1 : Nat) (a2 : Int32) (a3 : Int32) (a4 : Int32) (x0 : Nat) (x1 : Nat) (τ : St), Ru M_Rule_readFactor d Q 39 [some (.ref a0), some (.ref a1), some (.int a2), some (.int a3), some (.int a4)] [.ref x0, .ref x1] τ = Ru M_Rule_readFactor d Q 40 [some (.ref a0), some (.ref a1), some (.int a2), some (.int a3), some (.int a4)] [.int a2, .ref x0, .ref x1] τ) ∧
    (∀ (a0 : Nat) (a1 : Nat) (a2 : Int32) (a3 : Int32) (a4 : Int32) (x0 : Int32) (x1 : Nat) (x2 : Nat) (τ : St), Ru M_Rule_readFactor d Q 40 [some (.ref a0), some (.ref a1), some (.int a2), some (.int a3), some (.int a4)] [.int x0, .ref x1, .ref x2] τ = (isA 5 x2 ∧ Cl d m_Rule_readThing [.ref x2, .ref x1, .int x0] τ (fun v τ' => Ru M_Rule_readFactor d Q 43 [some (.ref a0), some (.ref a1), some (.int a2), some (.int a3), some (.int a4)] (v.toList ++ []) τ'))) ∧
    (∀ (a0 : Nat) (a1 : Nat) (a2 : Int32) (a3 : Int32) (a4 : Int32) (x0 : Int32) (τ : St), Ru M_Rule_readFactor d Q 43 [some (.ref a0), some (.ref a1), some (.int a2), some (.int a3), some (.int a4)] [.int x0] τ = ((x0 = 0 → Ru M_Rule_readFactor d Q 64 [some (.ref a0), some (.ref a1), some (.int a2), some (.int a3), some (.int a4)] [] τ) ∧ (¬ x0 = 0 → Ru M_Rule_readFactor d Q 46 [some (.ref a0), some (.ref a1), some (.int a2), some (.int a3), some (.int a4)] [] τ))) ∧
    (∀ (a0 : Nat) (a1 : Nat) (a2 : Int32) (a3 : Int32) (a4 : Int32) (τ : St), Ru M_Rule_readFactor d Q 46 [some (.ref a0), some (.ref a1), some (.int a2), some (.int a3), some (.int a4)] [] τ = Ru M_Rule_readFactor d Q 47 [some (.ref a0), some (.ref a1), some (.int a2), some (.int a3), some (.int a4)] [.int a3] τ) ∧
    (∀ (a0 : Nat) (a1 : Nat) (a2 : Int32) (a3 : Int32) (a4 : Int32) (x0 : Int32) (τ : St), Ru M_Rule_readFactor d Q 47 [some (.ref a0), some (.ref a1), some (.int a2), some (.int a3), some (.int a4)] [.int x0] τ = ((x0 = 0 → Ru M_Rule_readFactor d Q 60 [some (.ref a0), some (.ref a1), some (.int a2), some (.int a3), some (.int a4)] [] τ) ∧ (¬ x0 = 0 → Ru M_Rule_readFactor d Q 50 [some (.ref a0), some (.ref a1), some (.int a2), some (.int a3), some (.int a4)] [] τ))) ∧
    (∀ (a0 : Nat) (a1 : Nat) (a2 : Int32) (a3 : Int32) (a4 : Int32) (τ : St), Ru M_Rule_readFactor d Q 50 [some (.ref a0), some (.ref a1), some (.int a2), some (.int a3), some (.int a4)] [] τ = Ru M_Rule_readFactor d Q 51 [some (.ref a0), some (.ref a1), some (.int a2), some (.int a3), some (.int a4)] [.ref a0] τ) ∧
    (∀ (a0 : Nat) (a1 : Nat) (a2 : Int32) (a3 : Int32) (a4 : Int32) (x0 : Nat) (τ : St), Ru M_Rule_readFactor d Q 51 [some (.ref a0), some (.ref a1), some (.int a2), some (.int a3), some (.int a4)] [.ref x0] τ = Ru M_Rule_readFactor d Q 54 [some (.ref a0), some (.ref a1), some (.int a2), some (.int a3), some (.int a4)] [.int 1126, .ref x0] τ) ∧
    (∀ (a0 : Nat) (a1 : Nat) (a2 : Int32) (a3 : Int32) (a4 : Int32) (x0 : Int32) (x1 : Nat) (τ : St), Ru M_Rule_readFactor d Q 54 [some (.ref a0), some (.ref a1), some (.int a2), some (.int a3), some (.int a4)] [.int x0, .ref x1] τ = (isA 5 x1 ∧ Cl d m_Rule_addStep [.ref x1, .int x0] τ (fun v τ' => Ru M_Rule_readFactor d Q 57 [some (.ref a0), some (.ref a1), some (.int a2), some (.int a3), some (.int a4)] (v.toList ++ []) τ'))) ∧
    (∀ (a0 : Nat) (a1 : Nat) (a2 : Int32) (a3 : Int32) (a4 : Int32) (x0 : Int32) (τ : St), Ru M_Rule_readFactor d Q 57 [some (.ref a0), some (.ref a1), some (.int a2), some (.int a3), some (.int a4)] [.int x0] τ = ((x0 = 0 → Ru M_Rule_readFactor d Q 64 [some (.ref a0), some (.ref a1), some (.int a2), some (.int a3), some (.int a4)] [] τ) ∧ (¬ x0 = 0 → Ru M_Rule_readFactor d Q 60 [some (.ref a0), some (.ref a1), some (.int a2), some (.int a3), some (.int a4)] [] τ))) ∧
    (∀ (a0 : Nat) (a1 : Nat) (a2 : Int32) (a3 : Int32) (a4 : Int32) (τ : St), Ru M_Rule_readFactor d Q 60 [some (.ref a0), some (.ref a1), some (.int a2), some (.int a3), some (.int a4)] [] τ = Ru M_Rule_readFactor d Q 61 [some (.ref a0), some (.ref a1), some (.int a2), some (.int a3), some (.int a4)] [.int 1] τ) ∧
    (∀ (a0 : Nat) (a1 : Nat) (a2 : Int32) (a3 : Int32) (a4 : Int32) (x0 : Int32) (τ : St), Ru M_Rule_readFactor d Q 61 [some (.ref a0), some (.ref a1), some (.int a2), some (.int a3), some (.int a4)] [.int x0] τ = Ru M_Rule_readFactor d Q 65 [some (.ref a0), some (.ref a1), some (.int a2), some (.int a3), some (.int a4)] [.int x0] τ) ∧
    (∀ (a0 : Nat) (a1 : Nat) (a2 : Int32) (a3 : Int32) (a4 : Int32) (τ : St), Ru M_Rule_readFactor d Q 64 [some (.ref a0), some (.ref a1), some (.int a2), some (.int a3), some (.int a4)] [] τ = Ru M_Rule_readFactor d Q 65 [some (.ref a0), some (.ref a1), some (.int a2), some (.int a3), some (.int a4)] [.int 0] τ) ∧
    (∀ (a0 : Nat) (a1 : Nat) (a2 : Int32) (a3 : Int32) (a4 : Int32) (x0 : Int32) (τ : St), Ru M_Rule_readFactor d Q 65 [some (.ref a0), some (.ref a1), some (.int a2), some (.int a3), some (.int a4)] [.int x0] τ = ((x0 = 0 ∨ x0 = 1) ∧ Q (some (.int x0)) τ)) := ⟨
  fun _ _ _ _ => (R_at ok_Rule_readFactor rfl).trans e_push,
  fun _ _ _ _ _ => (R_at ok_Rule_readFactor rfl).trans e_ist,
  fun _ _ _ _ _ => (R_at ok_Rule_readFactor rfl).trans e_push,
  fun _ _ _ _ _ _ => (R_at ok_Rule_readFactor rfl).trans e_ist,
  fun _ _ _ _ _ _ => (R_at ok_Rule_readFactor rfl).trans (e_ild rfl),
  fun _ _ _ _ _ _ _ => (R_at ok_Rule_readFactor rfl).trans e_push,
  fun _ _ _ _ _ _ _ _ => (R_at ok_Rule_readFactor rfl).trans e_ic,
  fun _ _ _ _ _ _ => (R_at ok_Rule_readFactor rfl).trans (e_ald rfl),
  fun _ _ _ _ _ _ _ => (R_at ok_Rule_readFactor rfl).trans e_push,
  fun _ _ _ _ _ x0 _ _ => (R_at ok_Rule_readFactor rfl).trans (e_cv [.int x0] rfl rfl rfl),
  fun _ _ _ _ _ _ _ => (R_at ok_Rule_readFactor rfl).trans e_if,
  fun _ _ _ _ _ _ => (R_at ok_Rule_readFactor rfl).trans (e_ild rfl),
  fun _ _ _ _ _ _ _ => (R_at ok_Rule_readFactor rfl).trans e_ifn,
  fun _ _ _ _ _ _ => (R_at ok_Rule_readFactor rfl).trans e_push,
  fun _ _ _ _ _ _ _ => (R_at ok_Rule_readFactor rfl).trans e_goto,
  fun _ _ _ _ _ _ => (R_at ok_Rule_readFactor rfl).trans e_push,
  fun _ _ _ _ _ _ _ => (R_at ok_Rule_readFactor rfl).trans e_ist,
  fun _ _ _ _ _ _ => (R_at ok_Rule_readFactor rfl).trans (e_iinc rfl),
  fun _ _ _ _ _ _ => (R_at ok_Rule_readFactor rfl).trans e_goto,
  fun _ _ _ _ _ _ => (R_at ok_Rule_readFactor rfl).trans (e_ald rfl),
  fun _ _ _ _ _ _ _ => (R_at ok_Rule_readFactor rfl).trans (e_ald rfl),
  fun _ _ _ _ _ _ _ _ => (R_at ok_Rule_readFactor rfl).trans (e_ild rfl),
  fun _ _ _ _ _ x0 x1 _ _ => (R_at ok_Rule_readFactor rfl).trans (e_cv [.ref x1, .int x0] rfl rfl rfl),
  fun _ _ _ _ _ _ _ => (R_at ok_Rule_readFactor rfl).trans e_if,
  fun _ _ _ _ _ _ => (R_at ok_Rule_readFactor rfl).trans (e_ild rfl),
  fun _ _ _ _ _ _ _ => (R_at ok_Rule_readFactor rfl).trans e_if,
  fun _ _ _ _ _ _ => (R_at ok_Rule_readFactor rfl).trans (e_ald rfl),
  fun _ _ _ _ _ _ _ => (R_at ok_Rule_readFactor rfl).trans e_push,
  fun _ _ _ _ _ x0 _ _ => (R_at ok_Rule_readFactor rfl).trans (e_cv [.int x0] rfl rfl rfl),
  fun _ _ _ _ _ _ _ => (R_at ok_Rule_readFactor rfl).trans e_if,
  fun _ _ _ _ _ _ => (R_at ok_Rule_readFactor rfl).trans e_push,
  fun _ _ _ _ _ _ _ => (R_at ok_Rule_readFactor rfl).trans e_goto,
  fun _ _ _ _ _ _ => (R_at ok_Rule_readFactor rfl).trans e_push,
  fun _ _ _ _ _ _ _ => (R_at ok_Rule_readFactor rfl).trans e_zret⟩
set_option maxHeartbeats 4000000 in
theorem N_Rule_readThing (d : Nat) (Q : Qt) : ∀ (x0 : Nat) (x1 : Nat) (x2 : Int32) (τ : St), Cl (d + 1) m_Rule_readThing [.ref x0, .ref x1, .int x2] τ Q = Ru M_Rule_readThing d Q 0 [some (.ref x0), some (.ref x1), some (.int x2), none, none] [] τ := fun _ _ _ _ => propext ⟨fun h => h.2, fun h => ⟨Nat.le_of_ble_eq_true rfl, h⟩⟩
set_option maxHeartbeats 4000000 in
theorem E_Rule_readThing (d : Nat) (Q : Qt) :
    (∀ (a0 : Nat) (a1 : Nat) (a2 : Int32) (τ : St), Ru M_Rule_readThing d Q 0 [some (.ref a0), some (.ref a1), some (.int a2), none, none] [] τ = Ru M_Rule_readThing d Q 1 [some (.ref a0), some (.ref a1), some (.int a2), none, none] [.ref a1] τ) ∧
    (∀ (a0 : Nat) (a1 : Nat) (a2 : Int32) (x0 : Nat) (τ : St), Ru M_Rule_readThing d Q 1 [some (.ref a0), some (.ref a1), some (.int a2), none, none] [.ref x0] τ = (isA 6 x0 ∧ Cl d m_Text_peek [.ref x0] τ (fun v τ' => Ru M_Rule_readThing d Q 4 [some (.ref a0), some (.ref a1), some (.int a2), none, none] (v.toList ++ []) τ'))) ∧
    (∀ (a0 : Nat) (a1 : Nat) (a2 : Int32) (x0 : Int32) (τ : St), Ru M_Rule_readThing d Q 4 [some (.ref a0), some (.ref a1), some (.int a2), none, none] [.int x0] τ = Ru M_Rule_readThing d Q 5 [some (.ref a0), some (.ref a1), some (.int a2), some (.int x0), none] [] τ) ∧
    (∀ (a0 : Nat) (a1 : Nat) (a2 : Int32) (a3 : Int32) (τ : St), Ru M_Rule_readThing d Q 5 [some (.ref a0), some (.ref a1), some (.int a2), some (.int a3), none] [] τ = Ru M_Rule_readThing d Q 6 [some (.ref a0), some (.ref a1), some (.int a2), some (.int a3), none] [.int a3] τ) ∧
    (∀ (a0 : Nat) (a1 : Nat) (a2 : Int32) (a3 : Int32) (x0 : Int32) (τ : St), Ru M_Rule_readThing d Q 6 [some (.ref a0), some (.ref a1), some (.int a2), some (.int a3), none] [.int x0] τ = Ru M_Rule_readThing d Q 8 [some (.ref a0), some (.ref a1), some (.int a2), some (.int a3), none] [.int 40, .int x0] τ) ∧
    (∀ (a0 : Nat) (a1 : Nat) (a2 : Int32) (a3 : Int32) (x0 : Int32) (x1 : Int32) (τ : St), Ru M_Rule_readThing d Q 8 [some (.ref a0), some (.ref a1), some (.int a2), some (.int a3), none] [.int x0, .int x1] τ = ((¬ x1 = x0 → Ru M_Rule_readThing d Q 49 [some (.ref a0), some (.ref a1), some (.int a2), some (.int a3), none] [] τ) ∧ (x1 = x0 → Ru M_Rule_readThing d Q 11 [some (.ref a0), some (.ref a1), some (.int a2), some (.int a3), none] [] τ))) ∧
    (∀ (a0 : Nat) (a1 : Nat) (a2 : Int32) (a3 : Int32) (τ : St), Ru M_Rule_readThing d Q 11 [some (.ref a0), some (.ref a1), some (.int a2), some (.int a3), none] [] τ = Ru M_Rule_readThing d Q 12 [some (.ref a0), some (.ref a1), some (.int a2), some (.int a3), none] [.int a2] τ) ∧
    (∀ (a0 : Nat) (a1 : Nat) (a2 : Int32) (a3 : Int32) (x0 : Int32) (τ : St), Ru M_Rule_readThing d Q 12 [some (.ref a0), some (.ref a1), some (.int a2), some (.int a3), none] [.int x0] τ = Ru M_Rule_readThing d Q 13 [some (.ref a0), some (.ref a1), some (.int a2), some (.int a3), none] [.int 4, .int x0] τ) ∧
    (∀ (a0 : Nat) (a1 : Nat) (a2 : Int32) (a3 : Int32) (x0 : Int32) (x1 : Int32) (τ : St), Ru M_Rule_readThing d Q 13 [some (.ref a0), some (.ref a1), some (.int a2), some (.int a3), none] [.int x0, .int x1] τ = ((x1 < x0 → Ru M_Rule_readThing d Q 18 [some (.ref a0), some (.ref a1), some (.int a2), some (.int a3), none] [] τ) ∧ (¬ x1 < x0 → Ru M_Rule_readThing d Q 16 [some (.ref a0), some (.ref a1), some (.int a2), some (.int a3), none] [] τ))) ∧
    (∀ (a0 : Nat) (a1 : Nat) (a2 : Int32) (a3 : Int32) (τ : St), Ru M_Rule_readThing d Q 16 [some (.ref a0), some (.ref a1), some (.int a2), some (.int a3), none] [] τ = Ru M_Rule_readThing d Q 17 [some (.ref a0), some (.ref a1), some (.int a2), some (.int a3), none] [.int 0] τ) ∧
    (∀ (a0 : Nat) (a1 : Nat) (a2 : Int32) (a3 : Int32) (x0 : Int32) (τ : St), Ru M_Rule_readThing d Q 17 [some (.ref a0), some (.ref a1), some (.int a2), some (.int a3), none] [.int x0] τ = ((x0 = 0 ∨ x0 = 1) ∧ Q (some (.int x0)) τ)) ∧
    (∀ (a0 : Nat) (a1 : Nat) (a2 : Int32) (a3 : Int32) (τ : St), Ru M_Rule_readThing d Q 18 [some (.ref a0), some (.ref a1), some (.int a2), some (.int a3), none] [] τ = Ru M_Rule_readThing d Q 19 [some (.ref a0), some (.ref a1), some (.int a2), some (.int a3), none] [.ref a1] τ) ∧
    (∀ (a0 : Nat) (a1 : Nat) (a2 : Int32) (a3 : Int32) (x0 : Nat) (τ : St), Ru M_Rule_readThing d Q 19 [some (.ref a0), some (.ref a1), some (.int a2), some (.int a3), none] [.ref x0] τ = (isA 6 x0 ∧ Cl d m_Text_step [.ref x0] τ (fun v τ' => Ru M_Rule_readThing d Q 22 [some (.ref a0), some (.ref a1), some (.int a2), some (.int a3), none] (v.toList ++ []) τ'))) ∧
    (∀ (a0 : Nat) (a1 : Nat) (a2 : Int32) (a3 : Int32) (τ : St), Ru M_Rule_readThing d Q 22 [some (.ref a0), some (.ref a1), some (.int a2), some (.int a3), none] [] τ = Ru M_Rule_readThing d Q 23 [some (.ref a0), some (.ref a1), some (.int a2), some (.int a3), none] [.ref a0] τ) ∧
    (∀ (a0 : Nat) (a1 : Nat) (a2 : Int32) (a3 : Int32) (x0 : Nat) (τ : St), Ru M_Rule_readThing d Q 23 [some (.ref a0), some (.ref a1), some (.int a2), some (.int a3), none] [.ref x0] τ = Ru M_Rule_readThing d Q 24 [some (.ref a0), some (.ref a1), some (.int a2), some (.int a3), none] [.ref a1, .ref x0] τ) ∧
    (∀ (a0 : Nat) (a1 : Nat) (a2 : Int32) (a3 : Int32) (x0 : Nat) (x1 : Nat) (τ : St), Ru M_Rule_readThing d Q 24 [some (.ref a0), some (.ref a1), some (.int a2), some (.int a3), none] [.ref x0, .ref x1] τ = Ru M_Rule_readThing d Q 25 [some (.ref a0), some (.ref a1), some (.int a2), some (.int a3), none] [.int 0, .ref x0, .ref x1] τ) ∧
    (∀ (a0 : Nat) (a1 : Nat) (a2 : Int32) (a3 : Int32) (x0 : Int32) (x1 : Nat) (x2 : Nat) (τ : St), Ru M_Rule_readThing d Q 25 [some (.ref a0), some (.ref a1), some (.int a2), some (.int a3), none] [.int x0, .ref x1, .ref x2] τ = Ru M_Rule_readThing d Q 26 [some (.ref a0), some (.ref a1), some (.int a2), some (.int a3), none] [.int a2, .int x0, .ref x1, .ref x2] τ) ∧
    (∀ (a0 : Nat) (a1 : Nat) (a2 : Int32) (a3 : Int32) (x0 : Int32) (x1 : Int32) (x2 : Nat) (x3 : Nat) (τ : St), Ru M_Rule_readThing d Q 26 [some (.ref a0), some (.ref a1), some (.int a2), some (.int a3), none] [.int x0, .int x1, .ref x2, .ref x3] τ = Ru M_Rule_readThing d Q 27 [some (.ref a0), some (.ref a1), some (.int a2), some (.int a3), none] [.int 1, .int x0, .int x1, .ref x2, .ref x3] τ) ∧
    (∀ (a0 : Nat) (a1 : Nat) (a2 : Int32) (a3 : Int32) (x0 : Int32) (x1 : Int32) (x2 : Int32) (x3 : Nat) (x4 : Nat) (τ : St), Ru M_Rule_readThing d Q 27 [some (.ref a0), some (.ref a1), some (.int a2), some (.int a3), none] [.int x0, .int x1, .int x2, .ref x3, .ref x4] τ = Ru M_Rule_readThing d Q 28 [some (.ref a0), some (.ref a1), some (.int a2), some (.int a3), none] [.int (x1 + x0), .int x2, .ref x3, .ref x4] τ) ∧
    (∀ (a0 : Nat) (a1 : Nat) (a2 : Int32) (a3 : Int32) (x0 : Int32) (x1 : Int32) (x2 : Nat) (x3 : Nat) (τ : St), Ru M_Rule_readThing d Q 28 [some (.ref a0), some (.ref a1), some (.int a2), some (.int a3), none] [.int x0, .int x1, .ref x2, .ref x3] τ = (isA 5 x3 ∧ Cl d m_Rule_readJoined [.ref x3, .ref x2, .int x1, .int x0] τ (fun v τ' => Ru M_Rule_readThing d Q 31 [some (.ref a0), some (.ref a1), some (.int a2), some (.int a3), none] (v.toList ++ []) τ'))) ∧
    (∀ (a0 : Nat) (a1 : Nat) (a2 : Int32) (a3 : Int32) (x0 : Int32) (τ : St), Ru M_Rule_readThing d Q 31 [some (.ref a0), some (.ref a1), some (.int a2), some (.int a3), none] [.int x0] τ = ((x0 = 0 → Ru M_Rule_readThing d Q 47 [some (.ref a0), some (.ref a1), some (.int a2), some (.int a3), none] [] τ) ∧ (¬ x0 = 0 → Ru M_Rule_readThing d Q 34 [some (.ref a0), some (.ref a1), some (.int a2), some (.int a3), none] [] τ))) ∧
    (∀ (a0 : Nat) (a1 : Nat) (a2 : Int32) (a3 : Int32) (τ : St), Ru M_Rule_readThing d Q 34 [some (.ref a0), some (.ref a1), some (.int a2), some (.int a3), none] [] τ = Ru M_Rule_readThing d Q 35 [some (.ref a0), some (.ref a1), some (.int a2), some (.int a3), none] [.ref a1] τ) ∧
    (∀ (a0 : Nat) (a1 : Nat) (a2 : Int32) (a3 : Int32) (x0 : Nat) (τ : St), Ru M_Rule_readThing d Q 35 [some (.ref a0), some (.ref a1), some (.int a2), some (.int a3), none] [.ref x0] τ = Ru M_Rule_readThing d Q 37 [some (.ref a0), some (.ref a1), some (.int a2), some (.int a3), none] [.int 41, .ref x0] τ) ∧
    (∀ (a0 : Nat) (a1 : Nat) (a2 : Int32) (a3 : Int32) (x0 : Int32) (x1 : Nat) (τ : St), Ru M_Rule_readThing d Q 37 [some (.ref a0), some (.ref a1), some (.int a2), some (.int a3), none] [.int x0, .ref x1] τ = (isA 6 x1 ∧ Cl d m_Text_takeSign [.ref x1, .int x0] τ (fun v τ' => Ru M_Rule_readThing d Q 40 [some (.ref a0), some (.ref a1), some (.int a2), some (.int a3), none] (v.toList ++ []) τ'))) ∧
    (∀ (a0 : Nat) (a1 : Nat) (a2 : Int32) (a3 : Int32) (x0 : Int32) (τ : St), Ru M_Rule_readThing d Q 40 [some (.ref a0), some (.ref a1), some (.int a2), some (.int a3), none] [.int x0] τ = ((x0 = 0 → Ru M_Rule_readThing d Q 47 [some (.ref a0), some (.ref a1), some (.int a2), some (.int a3), none] [] τ) ∧ (¬ x0 = 0 → Ru M_Rule_readThing d Q 43 [some (.ref a0), some (.ref a1), some (.int a2), some (.int a3), none] [] τ))) ∧
    (∀ (a0 : Nat) (a1 : Nat) (a2 : Int32) (a3 : Int32) (τ : St), Ru M_Rule_readThing d Q 43 [some (.ref a0), some (.ref a1), some (.int a2), some (.int a3), none] [] τ = Ru M_Rule_readThing d Q 44 [some (.ref a0), some (.ref a1), some (.int a2), some (.int a3), none] [.int 1] τ) ∧
    (∀ (a0 : Nat) (a1 : Nat) (a2 : Int32) (a3 : Int32) (x0 : Int32) (τ : St), Ru M_Rule_readThing d Q 44 [some (.ref a0), some (.ref a1), some (.int a2), some (.int a3), none] [.int x0] τ = Ru M_Rule_readThing d Q 48 [some (.ref a0), some (.ref a1), some (.int a2), some (.int a3), none] [.int x0] τ) ∧
    (∀ (a0 : Nat) (a1 : Nat) (a2 : Int32) (a3 : Int32) (τ : St), Ru M_Rule_readThing d Q 47 [some (.ref a0), some (.ref a1), some (.int a2), some (.int a3), none] [] τ = Ru M_Rule_readThing d Q 48 [some (.ref a0), some (.ref a1), some (.int a2), some (.int a3), none] [.int 0] τ) ∧
    (∀ (a0 : Nat) (a1 : Nat) (a2 : Int32) (a3 : Int32) (x0 : Int32) (τ : St), Ru M_Rule_readThing d Q 48 [some (.ref a0), some (.ref a1), some (.int a2), some (.int a3), none] [.int x0] τ = ((x0 = 0 ∨ x0 = 1) ∧ Q (some (.int x0)) τ)) ∧
    (∀ (a0 : Nat) (a1 : Nat) (a2 : Int32) (a3 : Int32) (τ : St), Ru M_Rule_readThing d Q 49 [some (.ref a0), some (.ref a1), some (.int a2), some (.int a3), none] [] τ = Ru M_Rule_readThing d Q 50 [some (.ref a0), some (.ref a1), some (.int a2), some (.int a3), none] [.int a3] τ) ∧
    (∀ (a0 : Nat) (a1 : Nat) (a2 : Int32) (a3 : Int32) (x0 : Int32) (τ : St), Ru M_Rule_readThing d Q 50 [some (.ref a0), some (.ref a1), some (.int a2), some (.int a3), none] [.int x0] τ = Ru M_Rule_readThing d Q 52 [some (.ref a0), some (.ref a1), some (.int a2), some (.int a3), none] [.int 119, .int x0] τ) ∧
    (∀ (a0 : Nat) (a1 : Nat) (a2 : Int32) (a3 : Int32) (x0 : Int32) (x1 : Int32) (τ : St), Ru M_Rule_readThing d Q 52 [some (.ref a0), some (.ref a1), some (.int a2), some (.int a3), none] [.int x0, .int x1] τ = ((x1 = x0 → Ru M_Rule_readThing d Q 79 [some (.ref a0), some (.ref a1), some (.int a2), some (.int a3), none] [] τ) ∧ (¬ x1 = x0 → Ru M_Rule_readThing d Q 55 [some (.ref a0), some (.ref a1), some (.int a2), some (.int a3), none] [] τ))) ∧
    (∀ (a0 : Nat) (a1 : Nat) (a2 : Int32) (a3 : Int32) (τ : St), Ru M_Rule_readThing d Q 55 [some (.ref a0), some (.ref a1), some (.int a2), some (.int a3), none] [] τ = Ru M_Rule_readThing d Q 56 [some (.ref a0), some (.ref a1), some (.int a2), some (.int a3), none] [.int a3] τ) ∧
    (∀ (a0 : Nat) (a1 : Nat) (a2 : Int32) (a3 : Int32) (x0 : Int32) (τ : St), Ru M_Rule_readThing d Q 56 [some (.ref a0), some (.ref a1), some (.int a2), some (.int a3), none] [.int x0] τ = Ru M_Rule_readThing d Q 58 [some (.ref a0), some (.ref a1), some (.int a2), some (.int a3), none] [.int 117, .int x0] τ) ∧
    (∀ (a0 : Nat) (a1 : Nat) (a2 : Int32) (a3 : Int32) (x0 : Int32) (x1 : Int32) (τ : St), Ru M_Rule_readThing d Q 58 [some (.ref a0), some (.ref a1), some (.int a2), some (.int a3), none] [.int x0, .int x1] τ = ((x1 = x0 → Ru M_Rule_readThing d Q 79 [some (.ref a0), some (.ref a1), some (.int a2), some (.int a3), none] [] τ) ∧ (¬ x1 = x0 → Ru M_Rule_readThing d Q 61 [some (.ref a0), some (.ref a1), some (.int a2), some (.int a3), none] [] τ))) ∧
    (∀ (a0 : Nat) (a1 : Nat) (a2 : Int32) (a3 : Int32) (τ : St), Ru M_Rule_readThing d Q 61 [some (.ref a0), some (.ref a1), some (.int a2), some (.int a3), none] [] τ = Ru M_Rule_readThing d Q 62 [some (.ref a0), some (.ref a1), some (.int a2), some (.int a3), none] [.int a3] τ) ∧
    (∀ (a0 : Nat) (a1 : Nat) (a2 : Int32) (a3 : Int32) (x0 : Int32) (τ : St), Ru M_Rule_readThing d Q 62 [some (.ref a0), some (.ref a1), some (.int a2), some (.int a3), none] [.int x0] τ = Ru M_Rule_readThing d Q 64 [some (.ref a0), some (.ref a1), some (.int a2), some (.int a3), none] [.int 118, .int x0] τ) ∧
    (∀ (a0 : Nat) (a1 : Nat) (a2 : Int32) (a3 : Int32) (x0 : Int32) (x1 : Int32) (τ : St), Ru M_Rule_readThing d Q 64 [some (.ref a0), some (.ref a1), some (.int a2), some (.int a3), none] [.int x0, .int x1] τ = ((x1 = x0 → Ru M_Rule_readThing d Q 79 [some (.ref a0), some (.ref a1), some (.int a2), some (.int a3), none] [] τ) ∧ (¬ x1 = x0 → Ru M_Rule_readThing d Q 67 [some (.ref a0), some (.ref a1), some (.int a2), some (.int a3), none] [] τ))) ∧
    (∀ (a0 : Nat) (a1 : Nat) (a2 : Int32) (a3 : Int32) (τ : St), Ru M_Rule_readThing d Q 67 [some (.ref a0), some (.ref a1), some (.int a2), some (.int a3), none] [] τ = Ru M_Rule_readThing d Q 68 [some (.ref a0), some (.ref a1), some (.int a2), some (.int a3), none] [.int a3] τ) ∧
    (∀ (a0 : Nat) (a1 : Nat) (a2 : Int32) (a3 : Int32) (x0 : Int32) (τ : St), Ru M_Rule_readThing d Q 68 [some (.ref a0), some (.ref a1), some (.int a2), some (.int a3), none] [.int x0] τ = Ru M_Rule_readThing d Q 70 [some (.ref a0), some (.ref a1), some (.int a2), some (.int a3), none] [.int 103, .int x0] τ) ∧
    (∀ (a0 : Nat) (a1 : Nat) (a2 : Int32) (a3 : Int32) (x0 : Int32) (x1 : Int32) (τ : St), Ru M_Rule_readThing d Q 70 [some (.ref a0), some (.ref a1), some (.int a2), some (.int a3), none] [.int x0, .int x1] τ = ((x1 = x0 → Ru M_Rule_readThing d Q 79 [some (.ref a0), some (.ref a1), some (.int a2), some (.int a3), none] [] τ) ∧ (¬ x1 = x0 → Ru M_Rule_readThing d Q 73 [some (.ref a0), some (.ref a1), some (.int a2), some (.int a3), none] [] τ))) ∧
    (∀ (a0 : Nat) (a1 : Nat) (a2 : Int32) (a3 : Int32) (τ : St), Ru M_Rule_readThing d Q 73 [some (.ref a0), some (.ref a1), some (.int a2), some (.int a3), none] [] τ = Ru M_Rule_readThing d Q 74 [some (.ref a0), some (.ref a1), some (.int a2), some (.int a3), none] [.int a3] τ) ∧
    (∀ (a0 : Nat) (a1 : Nat) (a2 : Int32) (a3 : Int32) (x0 : Int32) (τ : St), Ru M_Rule_readThing d Q 74 [some (.ref a0), some (.ref a1), some (.int a2), some (.int a3), none] [.int x0] τ = Ru M_Rule_readThing d Q 76 [some (.ref a0), some (.ref a1), some (.int a2), some (.int a3), none] [.int 104, .int x0] τ) ∧
    (∀ (a0 : Nat) (a1 : Nat) (a2 : Int32) (a3 : Int32) (x0 : Int32) (x1 : Int32) (τ : St), Ru M_Rule_readThing d Q 76 [some (.ref a0), some (.ref a1), some (.int a2), some (.int a3), none] [.int x0, .int x1] τ = ((¬ x1 = x0 → Ru M_Rule_readThing d Q 93 [some (.ref a0), some (.ref a1), some (.int a2), some (.int a3), none] [] τ) ∧ (x1 = x0 → Ru M_Rule_readThing d Q 79 [some (.ref a0), some (.ref a1), some (.int a2), some (.int a3), none] [] τ))) ∧
    (∀ (a0 : Nat) (a1 : Nat) (a2 : Int32) (a3 : Int32) (τ : St), Ru M_Rule_readThing d Q 79 [some (.ref a0), some (.ref a1), some (.int a2), some (.int a3), none] [] τ = Ru M_Rule_readThing d Q 80 [some (.ref a0), some (.ref a1), some (.int a2), some (.int a3), none] [.ref a1] τ) ∧
    (∀ (a0 : Nat) (a1 : Nat) (a2 : Int32) (a3 : Int32) (x0 : Nat) (τ : St), Ru M_Rule_readThing d Q 80 [some (.ref a0), some (.ref a1), some (.int a2), some (.int a3), none] [.ref x0] τ = (isA 6 x0 ∧ Cl d m_Text_step [.ref x0] τ (fun v τ' => Ru M_Rule_readThing d Q 83 [some (.ref a0), some (.ref a1), some (.int a2), some (.int a3), none] (v.toList ++ []) τ'))) ∧
    (∀ (a0 : Nat) (a1 : Nat) (a2 : Int32) (a3 : Int32) (τ : St), Ru M_Rule_readThing d Q 83 [some (.ref a0), some (.ref a1), some (.int a2), some (.int a3), none] [] τ = Ru M_Rule_readThing d Q 84 [some (.ref a0), some (.ref a1), some (.int a2), some (.int a3), none] [.ref a0] τ) ∧
    (∀ (a0 : Nat) (a1 : Nat) (a2 : Int32) (a3 : Int32) (x0 : Nat) (τ : St), Ru M_Rule_readThing d Q 84 [some (.ref a0), some (.ref a1), some (.int a2), some (.int a3), none] [.ref x0] τ = Ru M_Rule_readThing d Q 87 [some (.ref a0), some (.ref a1), some (.int a2), some (.int a3), none] [.int 1000, .ref x0] τ) ∧
    (∀ (a0 : Nat) (a1 : Nat) (a2 : Int32) (a3 : Int32) (x0 : Int32) (x1 : Nat) (τ : St), Ru M_Rule_readThing d Q 87 [some (.ref a0), some (.ref a1), some (.int a2), some (.int a3), none] [.int x0, .ref x1] τ = Ru M_Rule_readThing d Q 88 [some (.ref a0), some (.ref a1), some (.int a2), some (.int a3), none] [.int a3, .int x0, .ref x1] τ) ∧
    (∀ (a0 : Nat) (a1 : Nat) (a2 : Int32) (a3 : Int32) (x0 : Int32) (x1 : Int32) (x2 : Nat) (τ : St), Ru M_Rule_readThing d Q 88 [some (.ref a0), some (.ref a1), some (.int a2), some (.int a3), none] [.int x0, .int x1, .ref x2] τ = Ru M_Rule_readThing d Q 89 [some (.ref a0), some (.ref a1), some (.int a2), some (.int a3), none] [.int (x1 + x0), .ref x2] τ) ∧
    (∀ (a0 : Nat) (a1 : Nat) (a2 : Int32) (a3 : Int32) (x0 : Int32) (x1 : Nat) (τ : St), Ru M_Rule_readThing d Q 89 [some (.ref a0), some (.ref a1), some (.int a2), some (.int a3), none] [.int x0, .ref x1] τ = (isA 5 x1 ∧ Cl d m_Rule_addStep [.ref x1, .int x0] τ (fun v τ' => Ru M_Rule_readThing d Q 92 [some (.ref a0), some (.ref a1), some (.int a2), some (.int a3), none] (v.toList ++ []) τ'))) ∧
    (∀ (a0 : Nat) (a1 : Nat) (a2 : Int32) (a3 : Int32) (x0 : Int32) (τ : St), Ru M_Rule_readThing d Q 92 [some (.ref a0), some (.ref a1), some (.int a2), some (.int a3), none] [.int x0] τ = ((x0 = 0 ∨ x0 = 1) ∧ Q (some (.int x0)) τ)) ∧
    (∀ (a0 : Nat) (a1 : Nat) (a2 : Int32) (a3 : Int32) (τ : St), Ru M_Rule_readThing d Q 93 [some (.ref a0), some (.ref a1), some (.int a2), some (.int a3), none] [] τ = Ru M_Rule_readThing d Q 94 [some (.ref a0), some (.ref a1), some (.int a2), some (.int a3), none] [.ref a1] τ) ∧
    (∀ (a0 : Nat) (a1 : Nat) (a2 : Int32) (a3 : Int32) (x0 : Nat) (τ : St), Ru M_Rule_readThing d Q 94 [some (.ref a0), some (.ref a1), some (.int a2), some (.int a3), none] [.ref x0] τ = Ru M_Rule_readThing d Q 95 [some (.ref a0), some (.ref a1), some (.int a2), some (.int a3), none] [.int 3, .ref x0] τ) ∧
    (∀ (a0 : Nat) (a1 : Nat) (a2 : Int32) (a3 : Int32) (x0 : Int32) (x1 : Nat) (τ : St), Ru M_Rule_readThing d Q 95 [some (.ref a0), some (.ref a1), some (.int a2), some (.int a3), none] [.int x0, .ref x1] τ = (isA 6 x1 ∧ Cl d m_Text_takeNumber [.ref x1, .int x0] τ (fun v τ' => Ru M_Rule_readThing d Q 98 [some (.ref a0), some (.ref a1), some (.int a2), some (.int a3), none] (v.toList ++ []) τ'))) ∧
    (∀ (a0 : Nat) (a1 : Nat) (a2 : Int32) (a3 : Int32) (x0 : Int32) (τ : St), Ru M_Rule_readThing d Q 98 [some (.ref a0), some (.ref a1), some (.int a2), some (.int a3), none] [.int x0] τ = Ru M_Rule_readThing d Q 100 [some (.ref a0), some (.ref a1), some (.int a2), some (.int a3), some (.int x0)] [] τ) ∧
    (∀ (a0 : Nat) (a1 : Nat) (a2 : Int32) (a3 : Int32) (a4 : Int32) (τ : St), Ru M_Rule_readThing d Q 100 [some (.ref a0), some (.ref a1), some (.int a2), some (.int a3), some (.int a4)] [] τ = Ru M_Rule_readThing d Q 102 [some (.ref a0), some (.ref a1), some (.int a2), some (.int a3), some (.int a4)] [.int a4] τ) ∧
    (∀ (a0 : Nat) (a1 : Nat) (a2 : Int32) (a3 : Int32) (a4 : Int32) (x0 : Int32) (τ : St), Ru M_Rule_readThing d Q 102 [some (.ref a0), some (.ref a1), some (.int a2), some (.int a3), some (.int a4)] [.int x0] τ = Ru M_Rule_readThing d Q 103 [some (.ref a0), some (.ref a1), some (.int a2), some (.int a3), some (.int a4)] [.int (-1), .int x0] τ) ∧
    (∀ (a0 : Nat) (a1 : Nat) (a2 : Int32) (a3 : Int32) (a4 : Int32) (x0 : Int32) (x1 : Int32) (τ : St), Ru M_Rule_readThing d Q 103 [some (.ref a0), some (.ref a1), some (.int a2), some (.int a3), some (.int a4)] [.int x0, .int x1] τ = ((x1 = x0 → Ru M_Rule_readThing d Q 119 [some (.ref a0), some (.ref a1), some (.int a2), some (.int a3), some (.int a4)] [] τ) ∧ (¬ x1 = x0 → Ru M_Rule_readThing d Q 106 [some (.ref a0), some (.ref a1), some (.int a2), some (.int a3), some (.int a4)] [] τ))) ∧
    (∀ (a0 : Nat) (a1 : Nat) (a2 : Int32) (a3 : Int32) (a4 : Int32) (τ : St), Ru M_Rule_readThing d Q 106 [some (.ref a0), some (.ref a1), some (.int a2), some (.int a3), some (.int a4)] [] τ = Ru M_Rule_readThing d Q 107 [some (.ref a0), some (.ref a1), some (.int a2), some (.int a3), some (.int a4)] [.ref a0] τ) ∧
    (∀ (a0 : Nat) (a1 : Nat) (a2 : Int32) (a3 : Int32) (a4 : Int32) (x0 : Nat) (τ : St), Ru M_Rule_readThing d Q 107 [some (.ref a0), some (.ref a1), some (.int a2), some (.int a3), some (.int a4)] [.ref x0] τ = Ru M_Rule_readThing d Q 109 [some (.ref a0), some (.ref a1), some (.int a2), some (.int a3), some (.int a4)] [.int a4, .ref x0] τ) ∧
    (∀ (a0 : Nat) (a1 : Nat) (a2 : Int32) (a3 : Int32) (a4 : Int32) (x0 : Int32) (x1 : Nat) (τ : St), Ru M_Rule_readThing d Q 109 [some (.ref a0), some (.ref a1), some (.int a2), some (.int a3), some (.int a4)] [.int x0, .ref x1] τ = (isA 5 x1 ∧ Cl d m_Rule_addStep [.ref x1, .int x0] τ (fun v τ' => Ru M_Rule_readThing d Q 112 [some (.ref a0), some (.ref a1), some (.int a2), some (.int a3), some (.int a4)] (v.toList ++ []) τ'))) ∧
    (∀ (a0 : Nat) (a1 : Nat) (a2 : Int32) (a3 : Int32) (a4 : Int32) (x0 : Int32) (τ : St), Ru M_Rule_readThing d Q 112 [some (.ref a0), some (.ref a1), some (.int a2), some (.int a3), some (.int a4)] [.int x0] τ = ((x0 = 0 → Ru M_Rule_readThing d Q 119 [some (.ref a0), some (.ref a1), some (.int a2), some (.int a3), some (.int a4)] [] τ) ∧ (¬ x0 = 0 → Ru M_Rule_readThing d Q 115 [some (.ref a0), some (.ref a1), some (.int a2), some (.int a3), some (.int a4)] [] τ))) ∧
    (∀ (a0 : Nat) (a1 : Nat) (a2 : Int32) (a3 : Int32) (a4 : Int32) (τ : St), Ru M_Rule_readThing d Q 115 [some (.ref a0), some (.ref a1), some (.int a2), some (.int a3), some (.int a4)] [] τ = Ru M_Rule_readThing d Q 116 [some (.ref a0), some (.ref a1), some (.int a2), some (.int a3), some (.int a4)] [.int 1] τ) ∧
    (∀ (a0 : Nat) (a1 : Nat) (a2 : Int32) (a3 : Int32) (a4 : Int32) (x0 : Int32) (τ : St), Ru M_Rule_readThing d Q 116 [some (.ref a0), some (.ref a1), some (.int a2), some (.int a3), some (.int a4)] [.int x0] τ = Ru M_Rule_readThing d Q 120 [some (.ref a0), some (.ref a1), some (.int a2), some (.int a3), some (.int a4)] [.int x0] τ) ∧
    (∀ (a0 : Nat) (a1 : Nat) (a2 : Int32) (a3 : Int32) (a4 : Int32) (τ : St), Ru M_Rule_readThing d Q 119 [some (.ref a0), some (.ref a1), some (.int a2), some (.int a3), some (.int a4)] [] τ = Ru M_Rule_readThing d Q 120 [some (.ref a0), some (.ref a1), some (.int a2), some (.int a3), some (.int a4)] [.int 0] τ) ∧
    (∀ (a0 : Nat) (a1 : Nat) (a2 : Int32) (a3 : Int32) (a4 : Int32) (x0 : Int32) (τ : St), Ru M_Rule_readThing d Q 120 [some (.ref a0), some (.ref a1), some (.int a2), some (.int a3), some (.int a4)] [.int x0] τ = ((x0 = 0 ∨ x0 = 1) ∧ Q (some (.int x0)) τ)) := ⟨
  fun _ _ _ _ => (R_at ok_Rule_readThing rfl).trans (e_ald rfl),
  fun _ _ _ _ _ => (R_at ok_Rule_readThing rfl).trans (e_cv [] rfl rfl rfl),
  fun _ _ _ _ _ => (R_at ok_Rule_readThing rfl).trans e_ist,
  fun _ _ _ _ _ => (R_at ok_Rule_readThing rfl).trans (e_ild rfl),
  fun _ _ _ _ _ _ => (R_at ok_Rule_readThing rfl).trans e_push,
  fun _ _ _ _ _ _ _ => (R_at ok_Rule_readThing rfl).trans e_icn,
  fun _ _ _ _ _ => (R_at ok_Rule_readThing rfl).trans (e_ild rfl),
  fun _ _ _ _ _ _ => (R_at ok_Rule_readThing rfl).trans e_push,
  fun _ _ _ _ _ _ _ => (R_at ok_Rule_readThing rfl).trans e_ic,
  fun _ _ _ _ _ => (R_at ok_Rule_readThing rfl).trans e_push,
  fun _ _ _ _ _ _ => (R_at ok_Rule_readThing rfl).trans e_zret,
  fun _ _ _ _ _ => (R_at ok_Rule_readThing rfl).trans (e_ald rfl),
  fun _ _ _ _ _ _ => (R_at ok_Rule_readThing rfl).trans (e_cv [] rfl rfl rfl),
  fun _ _ _ _ _ => (R_at ok_Rule_readThing rfl).trans (e_ald rfl),
  fun _ _ _ _ _ _ => (R_at ok_Rule_readThing rfl).trans (e_ald rfl),
  fun _ _ _ _ _ _ _ => (R_at ok_Rule_readThing rfl).trans e_push,
  fun _ _ _ _ _ _ _ _ => (R_at ok_Rule_readThing rfl).trans (e_ild rfl),
  fun _ _ _ _ _ _ _ _ _ => (R_at ok_Rule_readThing rfl).trans e_push,
  fun _ _ _ _ _ _ _ _ _ _ => (R_at ok_Rule_readThing rfl).trans e_bin,
  fun _ _ _ _ x0 x1 x2 _ _ => (R_at ok_Rule_readThing rfl).trans (e_cv [.ref x2, .int x1, .int x0] rfl rfl rfl),
  fun _ _ _ _ _ _ => (R_at ok_Rule_readThing rfl).trans e_if,
  fun _ _ _ _ _ => (R_at ok_Rule_readThing rfl).trans (e_ald rfl),
  fun _ _ _ _ _ _ => (R_at ok_Rule_readThing rfl).trans e_push,
  fun _ _ _ _ x0 _ _ => (R_at ok_Rule_readThing rfl).trans (e_cv [.int x0] rfl rfl rfl),
  fun _ _ _ _ _ _ => (R_at ok_Rule_readThing rfl).trans e_if,
  fun _ _ _ _ _ => (R_at ok_Rule_readThing rfl).trans e_push,
  fun _ _ _ _ _ _ => (R_at ok_Rule_readThing rfl).trans e_goto,
  fun _ _ _ _ _ => (R_at ok_Rule_readThing rfl).trans e_push,
  fun _ _ _ _ _ _ => (R_at ok_Rule_readThing rfl).trans e_zret,
  fun _ _ _ _ _ => (R_at ok_Rule_readThing rfl).trans (e_ild rfl),
  fun _ _ _ _ _ _ => (R_at ok_Rule_readThing rfl).trans e_push,
  fun _ _ _ _ _ _ _ => (R_at ok_Rule_readThing rfl).trans e_ic,
  fun _ _ _ _ _ => (R_at ok_Rule_readThing rfl).trans (e_ild rfl),
  fun _ _ _ _ _ _ => (R_at ok_Rule_readThing rfl).trans e_push,
  fun _ _ _ _ _ _ _ => (R_at ok_Rule_readThing rfl).trans e_ic,
  fun _ _ _ _ _ => (R_at ok_Rule_readThing rfl).trans (e_ild rfl),
  fun _ _ _ _ _ _ => (R_at ok_Rule_readThing rfl).trans e_push,
  fun _ _ _ _ _ _ _ => (R_at ok_Rule_readThing rfl).trans e_ic,
  fun _ _ _ _ _ => (R_at ok_Rule_readThing rfl).trans (e_ild rfl),
  fun _ _ _ _ _ _ => (R_at ok_Rule_readThing rfl).trans e_push,
  fun _ _ _ _ _ _ _ => (R_at ok_Rule_readThing rfl).trans e_ic,
  fun _ _ _ _ _ => (R_at ok_Rule_readThing rfl).trans (e_ild rfl),
  fun _ _ _ _ _ _ => (R_at ok_Rule_readThing rfl).trans e_push,
  fun _ _ _ _ _ _ _ => (R_at ok_Rule_readThing rfl).trans e_icn,
  fun _ _ _ _ _ => (R_at ok_Rule_readThing rfl).trans (e_ald rfl),
  fun _ _ _ _ _ _ => (R_at ok_Rule_readThing rfl).trans (e_cv [] rfl rfl rfl),
  fun _ _ _ _ _ => (R_at ok_Rule_readThing rfl).trans (e_ald rfl),
  fun _ _ _ _ _ _ => (R_at ok_Rule_readThing rfl).trans e_push,
  fun _ _ _ _ _ _ _ => (R_at ok_Rule_readThing rfl).trans (e_ild rfl),
  fun _ _ _ _ _ _ _ _ => (R_at ok_Rule_readThing rfl).trans e_bin,
  fun _ _ _ _ x0 _ _ => (R_at ok_Rule_readThing rfl).trans (e_cv [.int x0] rfl rfl rfl),
  fun _ _ _ _ _ _ => (R_at ok_Rule_readThing rfl).trans e_zret,
  fun _ _ _ _ _ => (R_at ok_Rule_readThing rfl).trans (e_ald rfl),
  fun _ _ _ _ _ _ => (R_at ok_Rule_readThing rfl).trans e_push,
  fun _ _ _ _ x0 _ _ => (R_at ok_Rule_readThing rfl).trans (e_cv [.int x0] rfl rfl rfl),
  fun _ _ _ _ _ _ => (R_at ok_Rule_readThing rfl).trans e_ist,
  fun _ _ _ _ _ _ => (R_at ok_Rule_readThing rfl).trans (e_ild rfl),
  fun _ _ _ _ _ _ _ => (R_at ok_Rule_readThing rfl).trans e_push,
  fun _ _ _ _ _ _ _ _ => (R_at ok_Rule_readThing rfl).trans e_ic,
  fun _ _ _ _ _ _ => (R_at ok_Rule_readThing rfl).trans (e_ald rfl),
  fun _ _ _ _ _ _ _ => (R_at ok_Rule_readThing rfl).trans (e_ild rfl),
  fun _ _ _ _ _ x0 _ _ => (R_at ok_Rule_readThing rfl).trans (e_cv [.int x0] rfl rfl rfl),
  fun _ _ _ _ _ _ _ => (R_at ok_Rule_readThing rfl).trans e_if,
  fun _ _ _ _ _ _ => (R_at ok_Rule_readThing rfl).trans e_push,
  fun _ _ _ _ _ _ _ => (R_at ok_Rule_readThing rfl).trans e_goto,
  fun _ _ _ _ _ _ => (R_at ok_Rule_readThing rfl).trans e_push,
  fun _ _ _ _ _ _ _ => (R_at ok_Rule_readThing rfl).trans e_zret⟩
set_option maxHeartbeats 4000000 in
theorem N_Rule_addStep (d : Nat) (Q : Qt) : ∀ (x0 : Nat) (x1 : Int32) (τ : St), Cl (d + 1) m_Rule_addStep [.ref x0, .int x1] τ Q = Ru M_Rule_addStep d Q 0 [some (.ref x0), some (.int x1)] [] τ := fun _ _ _ => propext ⟨fun h => h.2, fun h => ⟨Nat.le_of_ble_eq_true rfl, h⟩⟩
set_option maxHeartbeats 4000000 in
theorem E_Rule_addStep (d : Nat) (Q : Qt) :
    (∀ (a0 : Nat) (a1 : Int32) (τ : St), Ru M_Rule_addStep d Q 0 [some (.ref a0), some (.int a1)] [] τ = Ru M_Rule_addStep d Q 1 [some (.ref a0), some (.int a1)] [.ref a0] τ) ∧
    (∀ (a0 : Nat) (a1 : Int32) (x0 : Nat) (τ : St), Ru M_Rule_addStep d Q 1 [some (.ref a0), some (.int a1)] [.ref x0] τ = (isA 5 x0 ∧ Ru M_Rule_addStep d Q 4 [some (.ref a0), some (.int a1)] [.int (τ.1 x0 1)] τ)) ∧
    (∀ (a0 : Nat) (a1 : Int32) (x0 : Int32) (τ : St), Ru M_Rule_addStep d Q 4 [some (.ref a0), some (.int a1)] [.int x0] τ = ((x0 < 0 → Ru M_Rule_addStep d Q 16 [some (.ref a0), some (.int a1)] [] τ) ∧ (¬ x0 < 0 → Ru M_Rule_addStep d Q 7 [some (.ref a0), some (.int a1)] [] τ))) ∧
    (∀ (a0 : Nat) (a1 : Int32) (τ : St), Ru M_Rule_addStep d Q 7 [some (.ref a0), some (.int a1)] [] τ = Ru M_Rule_addStep d Q 8 [some (.ref a0), some (.int a1)] [.ref a0] τ) ∧
    (∀ (a0 : Nat) (a1 : Int32) (x0 : Nat) (τ : St), Ru M_Rule_addStep d Q 8 [some (.ref a0), some (.int a1)] [.ref x0] τ = (isA 5 x0 ∧ Ru M_Rule_addStep d Q 11 [some (.ref a0), some (.int a1)] [.int (τ.1 x0 1)] τ)) ∧
    (∀ (a0 : Nat) (a1 : Int32) (x0 : Int32) (τ : St), Ru M_Rule_addStep d Q 11 [some (.ref a0), some (.int a1)] [.int x0] τ = Ru M_Rule_addStep d Q 13 [some (.ref a0), some (.int a1)] [.int 40, .int x0] τ) ∧
    (∀ (a0 : Nat) (a1 : Int32) (x0 : Int32) (x1 : Int32) (τ : St), Ru M_Rule_addStep d Q 13 [some (.ref a0), some (.int a1)] [.int x0, .int x1] τ = ((x1 < x0 → Ru M_Rule_addStep d Q 18 [some (.ref a0), some (.int a1)] [] τ) ∧ (¬ x1 < x0 → Ru M_Rule_addStep d Q 16 [some (.ref a0), some (.int a1)] [] τ))) ∧
    (∀ (a0 : Nat) (a1 : Int32) (τ : St), Ru M_Rule_addStep d Q 16 [some (.ref a0), some (.int a1)] [] τ = Ru M_Rule_addStep d Q 17 [some (.ref a0), some (.int a1)] [.int 0] τ) ∧
    (∀ (a0 : Nat) (a1 : Int32) (x0 : Int32) (τ : St), Ru M_Rule_addStep d Q 17 [some (.ref a0), some (.int a1)] [.int x0] τ = ((x0 = 0 ∨ x0 = 1) ∧ Q (some (.int x0)) τ)) ∧
    (∀ (a0 : Nat) (a1 : Int32) (τ : St), Ru M_Rule_addStep d Q 18 [some (.ref a0), some (.int a1)] [] τ = Ru M_Rule_addStep d Q 19 [some (.ref a0), some (.int a1)] [.ref a0] τ) ∧
    (∀ (a0 : Nat) (a1 : Int32) (x0 : Nat) (τ : St), Ru M_Rule_addStep d Q 19 [some (.ref a0), some (.int a1)] [.ref x0] τ = (isA 5 x0 ∧ Ru M_Rule_addStep d Q 22 [some (.ref a0), some (.int a1)] [.ref (rtab x0 0)] τ)) ∧
    (∀ (a0 : Nat) (a1 : Int32) (x0 : Nat) (τ : St), Ru M_Rule_addStep d Q 22 [some (.ref a0), some (.int a1)] [.ref x0] τ = Ru M_Rule_addStep d Q 23 [some (.ref a0), some (.int a1)] [.ref a0, .ref x0] τ) ∧
    (∀ (a0 : Nat) (a1 : Int32) (x0 : Nat) (x1 : Nat) (τ : St), Ru M_Rule_addStep d Q 23 [some (.ref a0), some (.int a1)] [.ref x0, .ref x1] τ = (isA 5 x0 ∧ Ru M_Rule_addStep d Q 26 [some (.ref a0), some (.int a1)] [.int (τ.1 x0 1), .ref x1] τ)) ∧
    (∀ (a0 : Nat) (a1 : Int32) (x0 : Int32) (x1 : Nat) (τ : St), Ru M_Rule_addStep d Q 26 [some (.ref a0), some (.int a1)] [.int x0, .ref x1] τ = Ru M_Rule_addStep d Q 27 [some (.ref a0), some (.int a1)] [.int a1, .int x0, .ref x1] τ) ∧
    (∀ (a0 : Nat) (a1 : Int32) (x0 : Int32) (x1 : Int32) (x2 : Nat) (τ : St), Ru M_Rule_addStep d Q 27 [some (.ref a0), some (.int a1)] [.int x0, .int x1, .ref x2] τ = (isA 14 x2 ∧ vp_in x1 (len x2) ∧ Ru M_Rule_addStep d Q 28 [some (.ref a0), some (.int a1)] [] (sI τ x2 x1.toNatClampNeg (x0)))) ∧
    (∀ (a0 : Nat) (a1 : Int32) (τ : St), Ru M_Rule_addStep d Q 28 [some (.ref a0), some (.int a1)] [] τ = Ru M_Rule_addStep d Q 29 [some (.ref a0), some (.int a1)] [.ref a0] τ) ∧
    (∀ (a0 : Nat) (a1 : Int32) (x0 : Nat) (τ : St), Ru M_Rule_addStep d Q 29 [some (.ref a0), some (.int a1)] [.ref x0] τ = Ru M_Rule_addStep d Q 30 [some (.ref a0), some (.int a1)] [.ref x0, .ref x0] τ) ∧
    (∀ (a0 : Nat) (a1 : Int32) (x0 : Nat) (x1 : Nat) (τ : St), Ru M_Rule_addStep d Q 30 [some (.ref a0), some (.int a1)] [.ref x0, .ref x1] τ = (isA 5 x0 ∧ Ru M_Rule_addStep d Q 33 [some (.ref a0), some (.int a1)] [.int (τ.1 x0 1), .ref x1] τ)) ∧
    (∀ (a0 : Nat) (a1 : Int32) (x0 : Int32) (x1 : Nat) (τ : St), Ru M_Rule_addStep d Q 33 [some (.ref a0), some (.int a1)] [.int x0, .ref x1] τ = Ru M_Rule_addStep d Q 34 [some (.ref a0), some (.int a1)] [.int 1, .int x0, .ref x1] τ) ∧
    (∀ (a0 : Nat) (a1 : Int32) (x0 : Int32) (x1 : Int32) (x2 : Nat) (τ : St), Ru M_Rule_addStep d Q 34 [some (.ref a0), some (.int a1)] [.int x0, .int x1, .ref x2] τ = Ru M_Rule_addStep d Q 35 [some (.ref a0), some (.int a1)] [.int (x1 + x0), .ref x2] τ) ∧
    (∀ (a0 : Nat) (a1 : Int32) (x0 : Int32) (x1 : Nat) (τ : St), Ru M_Rule_addStep d Q 35 [some (.ref a0), some (.int a1)] [.int x0, .ref x1] τ = (isA 5 x1 ∧ Ru M_Rule_addStep d Q 38 [some (.ref a0), some (.int a1)] [] (sI τ x1 1 x0))) ∧
    (∀ (a0 : Nat) (a1 : Int32) (τ : St), Ru M_Rule_addStep d Q 38 [some (.ref a0), some (.int a1)] [] τ = Ru M_Rule_addStep d Q 39 [some (.ref a0), some (.int a1)] [.int 1] τ) ∧
    (∀ (a0 : Nat) (a1 : Int32) (x0 : Int32) (τ : St), Ru M_Rule_addStep d Q 39 [some (.ref a0), some (.int a1)] [.int x0] τ = ((x0 = 0 ∨ x0 = 1) ∧ Q (some (.int x0)) τ)) := ⟨
  fun _ _ _ => (R_at ok_Rule_addStep rfl).trans (e_ald rfl),
  fun _ _ _ _ => (R_at ok_Rule_addStep rfl).trans e_gI,
  fun _ _ _ _ => (R_at ok_Rule_addStep rfl).trans e_if,
  fun _ _ _ => (R_at ok_Rule_addStep rfl).trans (e_ald rfl),
  fun _ _ _ _ => (R_at ok_Rule_addStep rfl).trans e_gI,
  fun _ _ _ _ => (R_at ok_Rule_addStep rfl).trans e_push,
  fun _ _ _ _ _ => (R_at ok_Rule_addStep rfl).trans e_ic,
  fun _ _ _ => (R_at ok_Rule_addStep rfl).trans e_push,
  fun _ _ _ _ => (R_at ok_Rule_addStep rfl).trans e_zret,
  fun _ _ _ => (R_at ok_Rule_addStep rfl).trans (e_ald rfl),
  fun _ _ _ _ => (R_at ok_Rule_addStep rfl).trans e_gR,
  fun _ _ _ _ => (R_at ok_Rule_addStep rfl).trans (e_ald rfl),
  fun _ _ _ _ _ => (R_at ok_Rule_addStep rfl).trans e_gI,
  fun _ _ _ _ _ => (R_at ok_Rule_addStep rfl).trans (e_ild rfl),
  fun _ _ _ _ _ _ => (R_at ok_Rule_addStep rfl).trans e_as,
  fun _ _ _ => (R_at ok_Rule_addStep rfl).trans (e_ald rfl),
  fun _ _ _ _ => (R_at ok_Rule_addStep rfl).trans (e_dup rfl),
  fun _ _ _ _ _ => (R_at ok_Rule_addStep rfl).trans e_gI,
  fun _ _ _ _ _ => (R_at ok_Rule_addStep rfl).trans e_push,
  fun _ _ _ _ _ _ => (R_at ok_Rule_addStep rfl).trans e_bin,
  fun _ _ _ _ _ => (R_at ok_Rule_addStep rfl).trans e_pI,
  fun _ _ _ => (R_at ok_Rule_addStep rfl).trans e_push,
  fun _ _ _ _ => (R_at ok_Rule_addStep rfl).trans e_zret⟩
set_option maxHeartbeats 4000000 in
theorem N_Rule_dragOf (d : Nat) (Q : Qt) : ∀ (x0 : Nat) (x1 : Int32) (x2 : Int32) (x3 : Int32) (x4 : Int32) (τ : St), Cl (d + 1) m_Rule_dragOf [.ref x0, .int x1, .int x2, .int x3, .int x4] τ Q = Ru M_Rule_dragOf d Q 0 [some (.ref x0), some (.int x1), some (.int x2), some (.int x3), some (.int x4), none, none] [] τ := fun _ _ _ _ _ _ => propext ⟨fun h => h.2, fun h => ⟨Nat.le_of_ble_eq_true rfl, h⟩⟩
set_option maxHeartbeats 4000000 in
theorem E_Rule_dragOf (d : Nat) (Q : Qt) :
    (∀ (a0 : Nat) (a1 : Int32) (a2 : Int32) (a3 : Int32) (a4 : Int32) (τ : St), Ru M_Rule_dragOf d Q 0 [some (.ref a0), some (.int a1), some (.int a2), some (.int a3), some (.int a4), none, none] [] τ = Ru M_Rule_dragOf d Q 1 [some (.ref a0), some (.int a1), some (.int a2), some (.int a3), some (.int a4), none, none] [.int 0] τ) ∧
    (∀ (a0 : Nat) (a1 : Int32) (a2 : Int32) (a3 : Int32) (a4 : Int32) (x0 : Int32) (τ : St), Ru M_Rule_dragOf d Q 1 [some (.ref a0), some (.int a1), some (.int a2), some (.int a3), some (.int a4), none, none] [.int x0] τ = Ru M_Rule_dragOf d Q 2 [some (.ref a0), some (.int a1), some (.int a2), some (.int a3), some (.int a4), none, none] [.int a2, .int x0] τ) ∧
    (∀ (a0 : Nat) (a1 : Int32) (a2 : Int32) (a3 : Int32) (a4 : Int32) (x0 : Int32) (x1 : Int32) (τ : St), Ru M_Rule_dragOf d Q 2 [some (.ref a0), some (.int a1), some (.int a2), some (.int a3), some (.int a4), none, none] [.int x0, .int x1] τ = Ru M_Rule_dragOf d Q 5 [some (.ref a0), some (.int a1), some (.int a2), some (.int a3), some (.int a4), none, none] [.int (if x1 < x0 then x0 else x1)] τ) ∧
    (∀ (a0 : Nat) (a1 : Int32) (a2 : Int32) (a3 : Int32) (a4 : Int32) (x0 : Int32) (τ : St), Ru M_Rule_dragOf d Q 5 [some (.ref a0), some (.int a1), some (.int a2), some (.int a3), some (.int a4), none, none] [.int x0] τ = Ru M_Rule_dragOf d Q 7 [some (.ref a0), some (.int a1), some (.int a2), some (.int a3), some (.int a4), some (.int x0), none] [] τ) ∧
    (∀ (a0 : Nat) (a1 : Int32) (a2 : Int32) (a3 : Int32) (a4 : Int32) (a5 : Int32) (τ : St), Ru M_Rule_dragOf d Q 7 [some (.ref a0), some (.int a1), some (.int a2), some (.int a3), some (.int a4), some (.int a5), none] [] τ = Ru M_Rule_dragOf d Q 8 [some (.ref a0), some (.int a1), some (.int a2), some (.int a3), some (.int a4), some (.int a5), none] [.ref a0] τ) ∧
    (∀ (a0 : Nat) (a1 : Int32) (a2 : Int32) (a3 : Int32) (a4 : Int32) (a5 : Int32) (x0 : Nat) (τ : St), Ru M_Rule_dragOf d Q 8 [some (.ref a0), some (.int a1), some (.int a2), some (.int a3), some (.int a4), some (.int a5), none] [.ref x0] τ = (isA 5 x0 ∧ Ru M_Rule_dragOf d Q 11 [some (.ref a0), some (.int a1), some (.int a2), some (.int a3), some (.int a4), some (.int a5), none] [.int (τ.1 x0 1)] τ)) ∧
    (∀ (a0 : Nat) (a1 : Int32) (a2 : Int32) (a3 : Int32) (a4 : Int32) (a5 : Int32) (x0 : Int32) (τ : St), Ru M_Rule_dragOf d Q 11 [some (.ref a0), some (.int a1), some (.int a2), some (.int a3), some (.int a4), some (.int a5), none] [.int x0] τ = ((¬ x0 = 0 → Ru M_Rule_dragOf d Q 36 [some (.ref a0), some (.int a1), some (.int a2), some (.int a3), some (.int a4), some (.int a5), none] [] τ) ∧ (x0 = 0 → Ru M_Rule_dragOf d Q 14 [some (.ref a0), some (.int a1), some (.int a2), some (.int a3), some (.int a4), some (.int a5), none] [] τ))) ∧
    (∀ (a0 : Nat) (a1 : Int32) (a2 : Int32) (a3 : Int32) (a4 : Int32) (a5 : Int32) (τ : St), Ru M_Rule_dragOf d Q 14 [some (.ref a0), some (.int a1), some (.int a2), some (.int a3), some (.int a4), some (.int a5), none] [] τ = Ru M_Rule_dragOf d Q 15 [some (.ref a0), some (.int a1), some (.int a2), some (.int a3), some (.int a4), some (.int a5), none] [.int a1] τ) ∧
    (∀ (a0 : Nat) (a1 : Int32) (a2 : Int32) (a3 : Int32) (a4 : Int32) (a5 : Int32) (x0 : Int32) (τ : St), Ru M_Rule_dragOf d Q 15 [some (.ref a0), some (.int a1), some (.int a2), some (.int a3), some (.int a4), some (.int a5), none] [.int x0] τ = Ru M_Rule_dragOf d Q 16 [some (.ref a0), some (.int a1), some (.int a2), some (.int a3), some (.int a4), some (.int a5), none] [.int 1, .int x0] τ) ∧
    (∀ (a0 : Nat) (a1 : Int32) (a2 : Int32) (a3 : Int32) (a4 : Int32) (a5 : Int32) (x0 : Int32) (x1 : Int32) (τ : St), Ru M_Rule_dragOf d Q 16 [some (.ref a0), some (.int a1), some (.int a2), some (.int a3), some (.int a4), some (.int a5), none] [.int x0, .int x1] τ = Ru M_Rule_dragOf d Q 18 [some (.ref a0), some (.int a1), some (.int a2), some (.int a3), some (.int a4), some (.int a5), none] [.int a5, .int x0, .int x1] τ) ∧
    (∀ (a0 : Nat) (a1 : Int32) (a2 : Int32) (a3 : Int32) (a4 : Int32) (a5 : Int32) (x0 : Int32) (x1 : Int32) (x2 : Int32) (τ : St), Ru M_Rule_dragOf d Q 18 [some (.ref a0), some (.int a1), some (.int a2), some (.int a3), some (.int a4), some (.int a5), none] [.int x0, .int x1, .int x2] τ = Ru M_Rule_dragOf d Q 19 [some (.ref a0), some (.int a1), some (.int a2), some (.int a3), some (.int a4), some (.int a5), none] [.int (x1 + x0), .int x2] τ) ∧
    (∀ (a0 : Nat) (a1 : Int32) (a2 : Int32) (a3 : Int32) (a4 : Int32) (a5 : Int32) (x0 : Int32) (x1 : Int32) (τ : St), Ru M_Rule_dragOf d Q 19 [some (.ref a0), some (.int a1), some (.int a2), some (.int a3), some (.int a4), some (.int a5), none] [.int x0, .int x1] τ = Ru M_Rule_dragOf d Q 20 [some (.ref a0), some (.int a1), some (.int a2), some (.int a3), some (.int a4), some (.int a5), none] [.int (x1 * x0)] τ) ∧
    (∀ (a0 : Nat) (a1 : Int32) (a2 : Int32) (a3 : Int32) (a4 : Int32) (a5 : Int32) (x0 : Int32) (τ : St), Ru M_Rule_dragOf d Q 20 [some (.ref a0), some (.int a1), some (.int a2), some (.int a3), some (.int a4), some (.int a5), none] [.int x0] τ = Ru M_Rule_dragOf d Q 21 [some (.ref a0), some (.int a1), some (.int a2), some (.int a3), some (.int a4), some (.int a5), none] [.int a3, .int x0] τ) ∧
    (∀ (a0 : Nat) (a1 : Int32) (a2 : Int32) (a3 : Int32) (a4 : Int32) (a5 : Int32) (x0 : Int32) (x1 : Int32) (τ : St), Ru M_Rule_dragOf d Q 21 [some (.ref a0), some (.int a1), some (.int a2), some (.int a3), some (.int a4), some (.int a5), none] [.int x0, .int x1] τ = Ru M_Rule_dragOf d Q 22 [some (.ref a0), some (.int a1), some (.int a2), some (.int a3), some (.int a4), some (.int a5), none] [.int 1, .int x0, .int x1] τ) ∧
    (∀ (a0 : Nat) (a1 : Int32) (a2 : Int32) (a3 : Int32) (a4 : Int32) (a5 : Int32) (x0 : Int32) (x1 : Int32) (x2 : Int32) (τ : St), Ru M_Rule_dragOf d Q 22 [some (.ref a0), some (.int a1), some (.int a2), some (.int a3), some (.int a4), some (.int a5), none] [.int x0, .int x1, .int x2] τ = ((¬ x1 = x0 → Ru M_Rule_dragOf d Q 29 [some (.ref a0), some (.int a1), some (.int a2), some (.int a3), some (.int a4), some (.int a5), none] [.int x2] τ) ∧ (x1 = x0 → Ru M_Rule_dragOf d Q 25 [some (.ref a0), some (.int a1), some (.int a2), some (.int a3), some (.int a4), some (.int a5), none] [.int x2] τ))) ∧
    (∀ (a0 : Nat) (a1 : Int32) (a2 : Int32) (a3 : Int32) (a4 : Int32) (a5 : Int32) (x0 : Int32) (τ : St), Ru M_Rule_dragOf d Q 25 [some (.ref a0), some (.int a1), some (.int a2), some (.int a3), some (.int a4), some (.int a5), none] [.int x0] τ = Ru M_Rule_dragOf d Q 26 [some (.ref a0), some (.int a1), some (.int a2), some (.int a3), some (.int a4), some (.int a5), none] [.int 3, .int x0] τ) ∧
    (∀ (a0 : Nat) (a1 : Int32) (a2 : Int32) (a3 : Int32) (a4 : Int32) (a5 : Int32) (x0 : Int32) (x1 : Int32) (τ : St), Ru M_Rule_dragOf d Q 26 [some (.ref a0), some (.int a1), some (.int a2), some (.int a3), some (.int a4), some (.int a5), none] [.int x0, .int x1] τ = Ru M_Rule_dragOf d Q 30 [some (.ref a0), some (.int a1), some (.int a2), some (.int a3), some (.int a4), some (.int a5), none] [.int x0, .int x1] τ) ∧
    (∀ (a0 : Nat) (a1 : Int32) (a2 : Int32) (a3 : Int32) (a4 : Int32) (a5 : Int32) (x0 : Int32) (τ : St), Ru M_Rule_dragOf d Q 29 [some (.ref a0), some (.int a1), some (.int a2), some (.int a3), some (.int a4), some (.int a5), none] [.int x0] τ = Ru M_Rule_dragOf d Q 30 [some (.ref a0), some (.int a1), some (.int a2), some (.int a3), some (.int a4), some (.int a5), none] [.int 1, .int x0] τ) ∧
    (∀ (a0 : Nat) (a1 : Int32) (a2 : Int32) (a3 : Int32) (a4 : Int32) (a5 : Int32) (x0 : Int32) (x1 : Int32) (τ : St), Ru M_Rule_dragOf d Q 30 [some (.ref a0), some (.int a1), some (.int a2), some (.int a3), some (.int a4), some (.int a5), none] [.int x0, .int x1] τ = (¬ x0 = 0 ∧ Ru M_Rule_dragOf d Q 31 [some (.ref a0), some (.int a1), some (.int a2), some (.int a3), some (.int a4), some (.int a5), none] [.int (x1 / x0)] τ)) ∧
    (∀ (a0 : Nat) (a1 : Int32) (a2 : Int32) (a3 : Int32) (a4 : Int32) (a5 : Int32) (x0 : Int32) (τ : St), Ru M_Rule_dragOf d Q 31 [some (.ref a0), some (.int a1), some (.int a2), some (.int a3), some (.int a4), some (.int a5), none] [.int x0] τ = Ru M_Rule_dragOf d Q 32 [some (.ref a0), some (.int a1), some (.int a2), some (.int a3), some (.int a4), some (.int a5), none] [.int 1, .int x0] τ) ∧
    (∀ (a0 : Nat) (a1 : Int32) (a2 : Int32) (a3 : Int32) (a4 : Int32) (a5 : Int32) (x0 : Int32) (x1 : Int32) (τ : St), Ru M_Rule_dragOf d Q 32 [some (.ref a0), some (.int a1), some (.int a2), some (.int a3), some (.int a4), some (.int a5), none] [.int x0, .int x1] τ = Ru M_Rule_dragOf d Q 33 [some (.ref a0), some (.int a1), some (.int a2), some (.int a3), some (.int a4), some (.int a5), none] [.int (x1 + x0)] τ) ∧
    (∀ (a0 : Nat) (a1 : Int32) (a2 : Int32) (a3 : Int32) (a4 : Int32) (a5 : Int32) (x0 : Int32) (τ : St), Ru M_Rule_dragOf d Q 33 [some (.ref a0), some (.int a1), some (.int a2), some (.int a3), some (.int a4), some (.int a5), none] [.int x0] τ = Ru M_Rule_dragOf d Q 45 [some (.ref a0), some (.int a1), some (.int a2), some (.int a3), some (.int a4), some (.int a5), none] [.int x0] τ) ∧
    (∀ (a0 : Nat) (a1 : Int32) (a2 : Int32) (a3 : Int32) (a4 : Int32) (a5 : Int32) (τ : St), Ru M_Rule_dragOf d Q 36 [some (.ref a0), some (.int a1), some (.int a2), some (.int a3), some (.int a4), some (.int a5), none] [] τ = Ru M_Rule_dragOf d Q 37 [some (.ref a0), some (.int a1), some (.int a2), some (.int a3), some (.int a4), some (.int a5), none] [.ref a0] τ) ∧
    (∀ (a0 : Nat) (a1 : Int32) (a2 : Int32) (a3 : Int32) (a4 : Int32) (a5 : Int32) (x0 : Nat) (τ : St), Ru M_Rule_dragOf d Q 37 [some (.ref a0), some (.int a1), some (.int a2), some (.int a3), some (.int a4), some (.int a5), none] [.ref x0] τ = Ru M_Rule_dragOf d Q 38 [some (.ref a0), some (.int a1), some (.int a2), some (.int a3), some (.int a4), some (.int a5), none] [.int a1, .ref x0] τ) ∧
    (∀ (a0 : Nat) (a1 : Int32) (a2 : Int32) (a3 : Int32) (a4 : Int32) (a5 : Int32) (x0 : Int32) (x1 : Nat) (τ : St), Ru M_Rule_dragOf d Q 38 [some (.ref a0), some (.int a1), some (.int a2), some (.int a3), some (.int a4), some (.int a5), none] [.int x0, .ref x1] τ = Ru M_Rule_dragOf d Q 39 [some (.ref a0), some (.int a1), some (.int a2), some (.int a3), some (.int a4), some (.int a5), none] [.int a2, .int x0, .ref x1] τ) ∧
    (∀ (a0 : Nat) (a1 : Int32) (a2 : Int32) (a3 : Int32) (a4 : Int32) (a5 : Int32) (x0 : Int32) (x1 : Int32) (x2 : Nat) (τ : St), Ru M_Rule_dragOf d Q 39 [some (.ref a0), some (.int a1), some (.int a2), some (.int a3), some (.int a4), some (.int a5), none] [.int x0, .int x1, .ref x2] τ = Ru M_Rule_dragOf d Q 40 [some (.ref a0), some (.int a1), some (.int a2), some (.int a3), some (.int a4), some (.int a5), none] [.int a3, .int x0, .int x1, .ref x2] τ) ∧
    (∀ (a0 : Nat) (a1 : Int32) (a2 : Int32) (a3 : Int32) (a4 : Int32) (a5 : Int32) (x0 : Int32) (x1 : Int32) (x2 : Int32) (x3 : Nat) (τ : St), Ru M_Rule_dragOf d Q 40 [some (.ref a0), some (.int a1), some (.int a2), some (.int a3), some (.int a4), some (.int a5), none] [.int x0, .int x1, .int x2, .ref x3] τ = Ru M_Rule_dragOf d Q 42 [some (.ref a0), some (.int a1), some (.int a2), some (.int a3), some (.int a4), some (.int a5), none] [.int a4, .int x0, .int x1, .int x2, .ref x3] τ) ∧
    (∀ (a0 : Nat) (a1 : Int32) (a2 : Int32) (a3 : Int32) (a4 : Int32) (a5 : Int32) (x0 : Int32) (x1 : Int32) (x2 : Int32) (x3 : Int32) (x4 : Nat) (τ : St), Ru M_Rule_dragOf d Q 42 [some (.ref a0), some (.int a1), some (.int a2), some (.int a3), some (.int a4), some (.int a5), none] [.int x0, .int x1, .int x2, .int x3, .ref x4] τ = (isA 5 x4 ∧ Cl d m_Rule_worked [.ref x4, .int x3, .int x2, .int x1, .int x0] τ (fun v τ' => Ru M_Rule_dragOf d Q 45 [some (.ref a0), some (.int a1), some (.int a2), some (.int a3), some (.int a4), some (.int a5), none] (v.toList ++ []) τ'))) ∧
    (∀ (a0 : Nat) (a1 : Int32) (a2 : Int32) (a3 : Int32) (a4 : Int32) (a5 : Int32) (x0 : Int32) (τ : St), Ru M_Rule_dragOf d Q 45 [some (.ref a0), some (.int a1), some (.int a2), some (.int a3), some (.int a4), some (.int a5), none] [.int x0] τ = Ru M_Rule_dragOf d Q 47 [some (.ref a0), some (.int a1), some (.int a2), some (.int a3), some (.int a4), some (.int a5), some (.int x0)] [] τ) ∧
    (∀ (a0 : Nat) (a1 : Int32) (a2 : Int32) (a3 : Int32) (a4 : Int32) (a5 : Int32) (a6 : Int32) (τ : St), Ru M_Rule_dragOf d Q 47 [some (.ref a0), some (.int a1), some (.int a2), some (.int a3), some (.int a4), some (.int a5), some (.int a6)] [] τ = Ru M_Rule_dragOf d Q 48 [some (.ref a0), some (.int a1), some (.int a2), some (.int a3), some (.int a4), some (.int a5), some (.int a6)] [.int 0] τ) ∧
    (∀ (a0 : Nat) (a1 : Int32) (a2 : Int32) (a3 : Int32) (a4 : Int32) (a5 : Int32) (a6 : Int32) (x0 : Int32) (τ : St), Ru M_Rule_dragOf d Q 48 [some (.ref a0), some (.int a1), some (.int a2), some (.int a3), some (.int a4), some (.int a5), some (.int a6)] [.int x0] τ = Ru M_Rule_dragOf d Q 51 [some (.ref a0), some (.int a1), some (.int a2), some (.int a3), some (.int a4), some (.int a5), some (.int a6)] [.int 999, .int x0] τ) ∧
    (∀ (a0 : Nat) (a1 : Int32) (a2 : Int32) (a3 : Int32) (a4 : Int32) (a5 : Int32) (a6 : Int32) (x0 : Int32) (x1 : Int32) (τ : St), Ru M_Rule_dragOf d Q 51 [some (.ref a0), some (.int a1), some (.int a2), some (.int a3), some (.int a4), some (.int a5), some (.int a6)] [.int x0, .int x1] τ = Ru M_Rule_dragOf d Q 53 [some (.ref a0), some (.int a1), some (.int a2), some (.int a3), some (.int a4), some (.int a5), some (.int a6)] [.int a6, .int x0, .int x1] τ) ∧
    (∀ (a0 : Nat) (a1 : Int32) (a2 : Int32) (a3 : Int32) (a4 : Int32) (a5 : Int32) (a6 : Int32) (x0 : Int32) (x1 : Int32) (x2 : Int32) (τ : St), Ru M_Rule_dragOf d Q 53 [some (.ref a0), some (.int a1), some (.int a2), some (.int a3), some (.int a4), some (.int a5), some (.int a6)] [.int x0, .int x1, .int x2] τ = Ru M_Rule_dragOf d Q 56 [some (.ref a0), some (.int a1), some (.int a2), some (.int a3), some (.int a4), some (.int a5), some (.int a6)] [.int (if x0 < x1 then x0 else x1), .int x2] τ) ∧
    (∀ (a0 : Nat) (a1 : Int32) (a2 : Int32) (a3 : Int32) (a4 : Int32) (a5 : Int32) (a6 : Int32) (x0 : Int32) (x1 : Int32) (τ : St), Ru M_Rule_dragOf d Q 56 [some (.ref a0), some (.int a1), some (.int a2), some (.int a3), some (.int a4), some (.int a5), some (.int a6)] [.int x0, .int x1] τ = Ru M_Rule_dragOf d Q 59 [some (.ref a0), some (.int a1), some (.int a2), some (.int a3), some (.int a4), some (.int a5), some (.int a6)] [.int (if x1 < x0 then x0 else x1)] τ) ∧
    (∀ (a0 : Nat) (a1 : Int32) (a2 : Int32) (a3 : Int32) (a4 : Int32) (a5 : Int32) (a6 : Int32) (x0 : Int32) (τ : St), Ru M_Rule_dragOf d Q 59 [some (.ref a0), some (.int a1), some (.int a2), some (.int a3), some (.int a4), some (.int a5), some (.int a6)] [.int x0] τ = Q (some (.int x0)) τ) := ⟨
  fun _ _ _ _ _ _ => (R_at ok_Rule_dragOf rfl).trans e_push,
  fun _ _ _ _ _ _ _ => (R_at ok_Rule_dragOf rfl).trans (e_ild rfl),
  fun _ _ _ _ _ _ _ _ => (R_at ok_Rule_dragOf rfl).trans (e_mm rfl),
  fun _ _ _ _ _ _ _ => (R_at ok_Rule_dragOf rfl).trans e_ist,
  fun _ _ _ _ _ _ _ => (R_at ok_Rule_dragOf rfl).trans (e_ald rfl),
  fun _ _ _ _ _ _ _ _ => (R_at ok_Rule_dragOf rfl).trans e_gI,
  fun _ _ _ _ _ _ _ _ => (R_at ok_Rule_dragOf rfl).trans e_ifn,
  fun _ _ _ _ _ _ _ => (R_at ok_Rule_dragOf rfl).trans (e_ild rfl),
  fun _ _ _ _ _ _ _ _ => (R_at ok_Rule_dragOf rfl).trans e_push,
  fun _ _ _ _ _ _ _ _ _ => (R_at ok_Rule_dragOf rfl).trans (e_ild rfl),
  fun _ _ _ _ _ _ _ _ _ _ => (R_at ok_Rule_dragOf rfl).trans e_bin,
  fun _ _ _ _ _ _ _ _ _ => (R_at ok_Rule_dragOf rfl).trans e_bin,
  fun _ _ _ _ _ _ _ _ => (R_at ok_Rule_dragOf rfl).trans (e_ild rfl),
  fun _ _ _ _ _ _ _ _ _ => (R_at ok_Rule_dragOf rfl).trans e_push,
  fun _ _ _ _ _ _ _ _ _ _ => (R_at ok_Rule_dragOf rfl).trans e_icn,
  fun _ _ _ _ _ _ _ _ => (R_at ok_Rule_dragOf rfl).trans e_push,
  fun _ _ _ _ _ _ _ _ _ => (R_at ok_Rule_dragOf rfl).trans e_goto,
  fun _ _ _ _ _ _ _ _ => (R_at ok_Rule_dragOf rfl).trans e_push,
  fun _ _ _ _ _ _ _ _ _ => (R_at ok_Rule_dragOf rfl).trans e_binz,
  fun _ _ _ _ _ _ _ _ => (R_at ok_Rule_dragOf rfl).trans e_push,
  fun _ _ _ _ _ _ _ _ _ => (R_at ok_Rule_dragOf rfl).trans e_bin,
  fun _ _ _ _ _ _ _ _ => (R_at ok_Rule_dragOf rfl).trans e_goto,
  fun _ _ _ _ _ _ _ => (R_at ok_Rule_dragOf rfl).trans (e_ald rfl),
  fun _ _ _ _ _ _ _ _ => (R_at ok_Rule_dragOf rfl).trans (e_ild rfl),
  fun _ _ _ _ _ _ _ _ _ => (R_at ok_Rule_dragOf rfl).trans (e_ild rfl),
  fun _ _ _ _ _ _ _ _ _ _ => (R_at ok_Rule_dragOf rfl).trans (e_ild rfl),
  fun _ _ _ _ _ _ _ _ _ _ _ => (R_at ok_Rule_dragOf rfl).trans (e_ild rfl),
  fun _ _ _ _ _ _ x0 x1 x2 x3 _ _ => (R_at ok_Rule_dragOf rfl).trans (e_cv [.int x3, .int x2, .int x1, .int x0] rfl rfl rfl),
  fun _ _ _ _ _ _ _ _ => (R_at ok_Rule_dragOf rfl).trans e_ist,
  fun _ _ _ _ _ _ _ _ => (R_at ok_Rule_dragOf rfl).trans e_push,
  fun _ _ _ _ _ _ _ _ _ => (R_at ok_Rule_dragOf rfl).trans e_push,
  fun _ _ _ _ _ _ _ _ _ _ => (R_at ok_Rule_dragOf rfl).trans (e_ild rfl),
  fun _ _ _ _ _ _ _ _ _ _ _ => (R_at ok_Rule_dragOf rfl).trans (e_mm rfl),
  fun _ _ _ _ _ _ _ _ _ _ => (R_at ok_Rule_dragOf rfl).trans (e_mm rfl),
  fun _ _ _ _ _ _ _ _ _ => (R_at ok_Rule_dragOf rfl).trans e_iret⟩
set_option maxHeartbeats 4000000 in
theorem N_Rule_worked (d : Nat) (Q : Qt) : ∀ (x0 : Nat) (x1 : Int32) (x2 : Int32) (x3 : Int32) (x4 : Int32) (τ : St), Cl (d + 1) m_Rule_worked [.ref x0, .int x1, .int x2, .int x3, .int x4] τ Q = Ru M_Rule_worked d Q 0 [some (.ref x0), some (.int x1), some (.int x2), some (.int x3), some (.int x4), none, none] [] τ := fun _ _ _ _ _ _ => propext ⟨fun h => h.2, fun h => ⟨Nat.le_of_ble_eq_true rfl, h⟩⟩
set_option maxHeartbeats 4000000 in
theorem E_Rule_worked (d : Nat) (Q : Qt) :
    (∀ (a0 : Nat) (a1 : Int32) (a2 : Int32) (a3 : Int32) (a4 : Int32) (τ : St), Ru M_Rule_worked d Q 0 [some (.ref a0), some (.int a1), some (.int a2), some (.int a3), some (.int a4), none, none] [] τ = Ru M_Rule_worked d Q 1 [some (.ref a0), some (.int a1), some (.int a2), some (.int a3), some (.int a4), none, none] [.ref a0] τ) ∧
    (∀ (a0 : Nat) (a1 : Int32) (a2 : Int32) (a3 : Int32) (a4 : Int32) (x0 : Nat) (τ : St), Ru M_Rule_worked d Q 1 [some (.ref a0), some (.int a1), some (.int a2), some (.int a3), some (.int a4), none, none] [.ref x0] τ = Ru M_Rule_worked d Q 2 [some (.ref a0), some (.int a1), some (.int a2), some (.int a3), some (.int a4), none, none] [.int 0, .ref x0] τ) ∧
    (∀ (a0 : Nat) (a1 : Int32) (a2 : Int32) (a3 : Int32) (a4 : Int32) (x0 : Int32) (x1 : Nat) (τ : St), Ru M_Rule_worked d Q 2 [some (.ref a0), some (.int a1), some (.int a2), some (.int a3), some (.int a4), none, none] [.int x0, .ref x1] τ = (isA 5 x1 ∧ Ru M_Rule_worked d Q 5 [some (.ref a0), some (.int a1), some (.int a2), some (.int a3), some (.int a4), none, none] [] (sI τ x1 3 x0))) ∧
    (∀ (a0 : Nat) (a1 : Int32) (a2 : Int32) (a3 : Int32) (a4 : Int32) (τ : St), Ru M_Rule_worked d Q 5 [some (.ref a0), some (.int a1), some (.int a2), some (.int a3), some (.int a4), none, none] [] τ = Ru M_Rule_worked d Q 6 [some (.ref a0), some (.int a1), some (.int a2), some (.int a3), some (.int a4), none, none] [.int 0] τ) ∧
    (∀ (a0 : Nat) (a1 : Int32) (a2 : Int32) (a3 : Int32) (a4 : Int32) (x0 : Int32) (τ : St), Ru M_Rule_worked d Q 6 [some (.ref a0), some (.int a1), some (.int a2), some (.int a3), some (.int a4), none, none] [.int x0] τ = Rs M_Rule_worked d Q 8 [some (.ref a0), some (.int a1), some (.int a2), some (.int a3), some (.int a4), some (.int x0), none] [] τ) ∧
    (∀ (a0 : Nat) (a1 : Int32) (a2 : Int32) (a3 : Int32) (a4 : Int32) (a5 : Int32) (a6 : Option Value) (τ : St), Ru M_Rule_worked d Q 8 [some (.ref a0), some (.int a1), some (.int a2), some (.int a3), some (.int a4), some (.int a5), a6] [] τ = Ru M_Rule_worked d Q 10 [some (.ref a0), some (.int a1), some (.int a2), some (.int a3), some (.int a4), some (.int a5), a6] [.int a5] τ) ∧
    (∀ (a0 : Nat) (a1 : Int32) (a2 : Int32) (a3 : Int32) (a4 : Int32) (a5 : Int32) (a6 : Option Value) (x0 : Int32) (τ : St), Ru M_Rule_worked d Q 10 [some (.ref a0), some (.int a1), some (.int a2), some (.int a3), some (.int a4), some (.int a5), a6] [.int x0] τ = Ru M_Rule_worked d Q 11 [some (.ref a0), some (.int a1), some (.int a2), some (.int a3), some (.int a4), some (.int a5), a6] [.ref a0, .int x0] τ) ∧
    (∀ (a0 : Nat) (a1 : Int32) (a2 : Int32) (a3 : Int32) (a4 : Int32) (a5 : Int32) (a6 : Option Value) (x0 : Nat) (x1 : Int32) (τ : St), Ru M_Rule_worked d Q 11 [some (.ref a0), some (.int a1), some (.int a2), some (.int a3), some (.int a4), some (.int a5), a6] [.ref x0, .int x1] τ = (isA 5 x0 ∧ Ru M_Rule_worked d Q 14 [some (.ref a0), some (.int a1), some (.int a2), some (.int a3), some (.int a4), some (.int a5), a6] [.int (τ.1 x0 1), .int x1] τ)) ∧
    (∀ (a0 : Nat) (a1 : Int32) (a2 : Int32) (a3 : Int32) (a4 : Int32) (a5 : Int32) (a6 : Option Value) (x0 : Int32) (x1 : Int32) (τ : St), Ru M_Rule_worked d Q 14 [some (.ref a0), some (.int a1), some (.int a2), some (.int a3), some (.int a4), some (.int a5), a6] [.int x0, .int x1] τ = ((x0 ≤ x1 → Ru M_Rule_worked d Q 198 [some (.ref a0), some (.int a1), some (.int a2), some (.int a3), some (.int a4), some (.int a5), a6] [] τ) ∧ (¬ x0 ≤ x1 → Ru M_Rule_worked d Q 17 [some (.ref a0), some (.int a1), some (.int a2), some (.int a3), some (.int a4), some (.int a5), a6] [] τ))) ∧
    (∀ (a0 : Nat) (a1 : Int32) (a2 : Int32) (a3 : Int32) (a4 : Int32) (a5 : Int32) (a6 : Option Value) (τ : St), Ru M_Rule_worked d Q 17 [some (.ref a0), some (.int a1), some (.int a2), some (.int a3), some (.int a4), some (.int a5), a6] [] τ = Ru M_Rule_worked d Q 19 [some (.ref a0), some (.int a1), some (.int a2), some (.int a3), some (.int a4), some (.int a5), a6] [.int a5] τ) ∧
    (∀ (a0 : Nat) (a1 : Int32) (a2 : Int32) (a3 : Int32) (a4 : Int32) (a5 : Int32) (a6 : Option Value) (x0 : Int32) (τ : St), Ru M_Rule_worked d Q 19 [some (.ref a0), some (.int a1), some (.int a2), some (.int a3), some (.int a4), some (.int a5), a6] [.int x0] τ = Ru M_Rule_worked d Q 21 [some (.ref a0), some (.int a1), some (.int a2), some (.int a3), some (.int a4), some (.int a5), a6] [.int 40, .int x0] τ) ∧
    (∀ (a0 : Nat) (a1 : Int32) (a2 : Int32) (a3 : Int32) (a4 : Int32) (a5 : Int32) (a6 : Option Value) (x0 : Int32) (x1 : Int32) (τ : St), Ru M_Rule_worked d Q 21 [some (.ref a0), some (.int a1), some (.int a2), some (.int a3), some (.int a4), some (.int a5), a6] [.int x0, .int x1] τ = ((x0 ≤ x1 → Ru M_Rule_worked d Q 198 [some (.ref a0), some (.int a1), some (.int a2), some (.int a3), some (.int a4), some (.int a5), a6] [] τ) ∧ (¬ x0 ≤ x1 → Ru M_Rule_worked d Q 24 [some (.ref a0), some (.int a1), some (.int a2), some (.int a3), some (.int a4), some (.int a5), a6] [] τ))) ∧
    (∀ (a0 : Nat) (a1 : Int32) (a2 : Int32) (a3 : Int32) (a4 : Int32) (a5 : Int32) (a6 : Option Value) (τ : St), Ru M_Rule_worked d Q 24 [some (.ref a0), some (.int a1), some (.int a2), some (.int a3), some (.int a4), some (.int a5), a6] [] τ = Ru M_Rule_worked d Q 25 [some (.ref a0), some (.int a1), some (.int a2), some (.int a3), some (.int a4), some (.int a5), a6] [.ref a0] τ) ∧
    (∀ (a0 : Nat) (a1 : Int32) (a2 : Int32) (a3 : Int32) (a4 : Int32) (a5 : Int32) (a6 : Option Value) (x0 : Nat) (τ : St), Ru M_Rule_worked d Q 25 [some (.ref a0), some (.int a1), some (.int a2), some (.int a3), some (.int a4), some (.int a5), a6] [.ref x0] τ = (isA 5 x0 ∧ Ru M_Rule_worked d Q 28 [some (.ref a0), some (.int a1), some (.int a2), some (.int a3), some (.int a4), some (.int a5), a6] [.ref (rtab x0 0)] τ)) ∧
    (∀ (a0 : Nat) (a1 : Int32) (a2 : Int32) (a3 : Int32) (a4 : Int32) (a5 : Int32) (a6 : Option Value) (x0 : Nat) (τ : St), Ru M_Rule_worked d Q 28 [some (.ref a0), some (.int a1), some (.int a2), some (.int a3), some (.int a4), some (.int a5), a6] [.ref x0] τ = Ru M_Rule_worked d Q 30 [some (.ref a0), some (.int a1), some (.int a2), some (.int a3), some (.int a4), some (.int a5), a6] [.int a5, .ref x0] τ) ∧
    (∀ (a0 : Nat) (a1 : Int32) (a2 : Int32) (a3 : Int32) (a4 : Int32) (a5 : Int32) (a6 : Option Value) (x0 : Int32) (x1 : Nat) (τ : St), Ru M_Rule_worked d Q 30 [some (.ref a0), some (.int a1), some (.int a2), some (.int a3), some (.int a4), some (.int a5), a6] [.int x0, .ref x1] τ = (isA 14 x1 ∧ vp_in x0 (len x1) ∧ Ru M_Rule_worked d Q 31 [some (.ref a0), some (.int a1), some (.int a2), some (.int a3), some (.int a4), some (.int a5), a6] [.int (τ.1 x1 x0.toNatClampNeg)] τ)) ∧
    (∀ (a0 : Nat) (a1 : Int32) (a2 : Int32) (a3 : Int32) (a4 : Int32) (a5 : Int32) (a6 : Option Value) (x0 : Int32) (τ : St), Ru M_Rule_worked d Q 31 [some (.ref a0), some (.int a1), some (.int a2), some (.int a3), some (.int a4), some (.int a5), a6] [.int x0] τ = Ru M_Rule_worked d Q 33 [some (.ref a0), some (.int a1), some (.int a2), some (.int a3), some (.int a4), some (.int a5), some (.int x0)] [] τ) ∧
    (∀ (a0 : Nat) (a1 : Int32) (a2 : Int32) (a3 : Int32) (a4 : Int32) (a5 : Int32) (a6 : Int32) (τ : St), Ru M_Rule_worked d Q 33 [some (.ref a0), some (.int a1), some (.int a2), some (.int a3), some (.int a4), some (.int a5), some (.int a6)] [] τ = Ru M_Rule_worked d Q 35 [some (.ref a0), some (.int a1), some (.int a2), some (.int a3), some (.int a4), some (.int a5), some (.int a6)] [.int a6] τ) ∧
    (∀ (a0 : Nat) (a1 : Int32) (a2 : Int32) (a3 : Int32) (a4 : Int32) (a5 : Int32) (a6 : Int32) (x0 : Int32) (τ : St), Ru M_Rule_worked d Q 35 [some (.ref a0), some (.int a1), some (.int a2), some (.int a3), some (.int a4), some (.int a5), some (.int a6)] [.int x0] τ = Ru M_Rule_worked d Q 38 [some (.ref a0), some (.int a1), some (.int a2), some (.int a3), some (.int a4), some (.int a5), some (.int a6)] [.int 1000, .int x0] τ) ∧
    (∀ (a0 : Nat) (a1 : Int32) (a2 : Int32) (a3 : Int32) (a4 : Int32) (a5 : Int32) (a6 : Int32) (x0 : Int32) (x1 : Int32) (τ : St), Ru M_Rule_worked d Q 38 [some (.ref a0), some (.int a1), some (.int a2), some (.int a3), some (.int a4), some (.int a5), some (.int a6)] [.int x0, .int x1] τ = Ru M_Rule_worked d Q 39 [some (.ref a0), some (.int a1), some (.int a2), some (.int a3), some (.int a4), some (.int a5), some (.int a6)] [.int (x1 - x0)] τ) ∧
    (∀ (a0 : Nat) (a1 : Int32) (a2 : Int32) (a3 : Int32) (a4 : Int32) (a5 : Int32) (a6 : Int32) (x0 : Int32) (τ : St), Ru M_Rule_worked d Q 39 [some (.ref a0), some (.int a1), some (.int a2), some (.int a3), some (.int a4), some (.int a5), some (.int a6)] [.int x0] τ = ((∀ q ∈ ([(103, 129), (104, 137), (117, 104), (118, 116), (119, 96), (126, 146)] : List (Int32 × Nat)), x0 = q.1 → Ru M_Rule_worked d Q q.2 [some (.ref a0), some (.int a1), some (.int a2), some (.int a3), some (.int a4), some (.int a5), some (.int a6)] [] τ) ∧ ((∀ q ∈ ([(103, 129), (104, 137), (117, 104), (118, 116), (119, 96), (126, 146)] : List (Int32 × Nat)), ¬ x0 = q.1) → Ru M_Rule_worked d Q 158 [some (.ref a0), some (.int a1), some (.int a2), some (.int a3), some (.int a4), some (.int a5), some (.int a6)] [] τ))) ∧
    (∀ (a0 : Nat) (a1 : Int32) (a2 : Int32) (a3 : Int32) (a4 : Int32) (a5 : Int32) (a6 : Int32) (τ : St), Ru M_Rule_worked d Q 96 [some (.ref a0), some (.int a1), some (.int a2), some (.int a3), some (.int a4), some (.int a5), some (.int a6)] [] τ = Ru M_Rule_worked d Q 97 [some (.ref a0), some (.int a1), some (.int a2), some (.int a3), some (.int a4), some (.int a5), some (.int a6)] [.ref a0] τ) ∧
    (∀ (a0 : Nat) (a1 : Int32) (a2 : Int32) (a3 : Int32) (a4 : Int32) (a5 : Int32) (a6 : Int32) (x0 : Nat) (τ : St), Ru M_Rule_worked d Q 97 [some (.ref a0), some (.int a1), some (.int a2), some (.int a3), some (.int a4), some (.int a5), some (.int a6)] [.ref x0] τ = Ru M_Rule_worked d Q 98 [some (.ref a0), some (.int a1), some (.int a2), some (.int a3), some (.int a4), some (.int a5), some (.int a6)] [.int a1, .ref x0] τ) ∧
    (∀ (a0 : Nat) (a1 : Int32) (a2 : Int32) (a3 : Int32) (a4 : Int32) (a5 : Int32) (a6 : Int32) (x0 : Int32) (x1 : Nat) (τ : St), Ru M_Rule_worked d Q 98 [some (.ref a0), some (.int a1), some (.int a2), some (.int a3), some (.int a4), some (.int a5), some (.int a6)] [.int x0, .ref x1] τ = (isA 5 x1 ∧ Cl d m_Rule_push [.ref x1, .int x0] τ (fun v τ' => Ru M_Rule_worked d Q 101 [some (.ref a0), some (.int a1), some (.int a2), some (.int a3), some (.int a4), some (.int a5), some (.int a6)] (v.toList ++ []) τ'))) ∧
    (∀ (a0 : Nat) (a1 : Int32) (a2 : Int32) (a3 : Int32) (a4 : Int32) (a5 : Int32) (a6 : Int32) (τ : St), Ru M_Rule_worked d Q 101 [some (.ref a0), some (.int a1), some (.int a2), some (.int a3), some (.int a4), some (.int a5), some (.int a6)] [] τ = Ru M_Rule_worked d Q 192 [some (.ref a0), some (.int a1), some (.int a2), some (.int a3), some (.int a4), some (.int a5), some (.int a6)] [] τ) ∧
    (∀ (a0 : Nat) (a1 : Int32) (a2 : Int32) (a3 : Int32) (a4 : Int32) (a5 : Int32) (a6 : Int32) (τ : St), Ru M_Rule_worked d Q 104 [some (.ref a0), some (.int a1), some (.int a2), some (.int a3), some (.int a4), some (.int a5), some (.int a6)] [] τ = Ru M_Rule_worked d Q 105 [some (.ref a0), some (.int a1), some (.int a2), some (.int a3), some (.int a4), some (.int a5), some (.int a6)] [.ref a0] τ) ∧
    (∀ (a0 : Nat) (a1 : Int32) (a2 : Int32) (a3 : Int32) (a4 : Int32) (a5 : Int32) (a6 : Int32) (x0 : Nat) (τ : St), Ru M_Rule_worked d Q 105 [some (.ref a0), some (.int a1), some (.int a2), some (.int a3), some (.int a4), some (.int a5), some (.int a6)] [.ref x0] τ = Ru M_Rule_worked d Q 106 [some (.ref a0), some (.int a1), some (.int a2), some (.int a3), some (.int a4), some (.int a5), some (.int a6)] [.int 0, .ref x0] τ) ∧
    (∀ (a0 : Nat) (a1 : Int32) (a2 : Int32) (a3 : Int32) (a4 : Int32) (a5 : Int32) (a6 : Int32) (x0 : Int32) (x1 : Nat) (τ : St), Ru M_Rule_worked d Q 106 [some (.ref a0), some (.int a1), some (.int a2), some (.int a3), some (.int a4), some (.int a5), some (.int a6)] [.int x0, .ref x1] τ = Ru M_Rule_worked d Q 107 [some (.ref a0), some (.int a1), some (.int a2), some (.int a3), some (.int a4), some (.int a5), some (.int a6)] [.int a2, .int x0, .ref x1] τ) ∧
    (∀ (a0 : Nat) (a1 : Int32) (a2 : Int32) (a3 : Int32) (a4 : Int32) (a5 : Int32) (a6 : Int32) (x0 : Int32) (x1 : Int32) (x2 : Nat) (τ : St), Ru M_Rule_worked d Q 107 [some (.ref a0), some (.int a1), some (.int a2), some (.int a3), some (.int a4), some (.int a5), some (.int a6)] [.int x0, .int x1, .ref x2] τ = Ru M_Rule_worked d Q 110 [some (.ref a0), some (.int a1), some (.int a2), some (.int a3), some (.int a4), some (.int a5), some (.int a6)] [.int (if x1 < x0 then x0 else x1), .ref x2] τ) ∧
    (∀ (a0 : Nat) (a1 : Int32) (a2 : Int32) (a3 : Int32) (a4 : Int32) (a5 : Int32) (a6 : Int32) (x0 : Int32) (x1 : Nat) (τ : St), Ru M_Rule_worked d Q 110 [some (.ref a0), some (.int a1), some (.int a2), some (.int a3), some (.int a4), some (.int a5), some (.int a6)] [.int x0, .ref x1] τ = (isA 5 x1 ∧ Cl d m_Rule_push [.ref x1, .int x0] τ (fun v τ' => Ru M_Rule_worked d Q 113 [some (.ref a0), some (.int a1), some (.int a2), some (.int a3), some (.int a4), some (.int a5), some (.int a6)] (v.toList ++ []) τ'))) ∧
    (∀ (a0 : Nat) (a1 : Int32) (a2 : Int32) (a3 : Int32) (a4 : Int32) (a5 : Int32) (a6 : Int32) (τ : St), Ru M_Rule_worked d Q 113 [some (.ref a0), some (.int a1), some (.int a2), some (.int a3), some (.int a4), some (.int a5), some (.int a6)] [] τ = Ru M_Rule_worked d Q 192 [some (.ref a0), some (.int a1), some (.int a2), some (.int a3), some (.int a4), some (.int a5), some (.int a6)] [] τ) ∧
    (∀ (a0 : Nat) (a1 : Int32) (a2 : Int32) (a3 : Int32) (a4 : Int32) (a5 : Int32) (a6 : Int32) (τ : St), Ru M_Rule_worked d Q 116 [some (.ref a0), some (.int a1), some (.int a2), some (.int a3), some (.int a4), some (.int a5), some (.int a6)] [] τ = Ru M_Rule_worked d Q 117 [some (.ref a0), some (.int a1), some (.int a2), some (.int a3), some (.int a4), some (.int a5), some (.int a6)] [.ref a0] τ) ∧
    (∀ (a0 : Nat) (a1 : Int32) (a2 : Int32) (a3 : Int32) (a4 : Int32) (a5 : Int32) (a6 : Int32) (x0 : Nat) (τ : St), Ru M_Rule_worked d Q 117 [some (.ref a0), some (.int a1), some (.int a2), some (.int a3), some (.int a4), some (.int a5), some (.int a6)] [.ref x0] τ = Ru M_Rule_worked d Q 118 [some (.ref a0), some (.int a1), some (.int a2), some (.int a3), some (.int a4), some (.int a5), some (.int a6)] [.int 0, .ref x0] τ) ∧
    (∀ (a0 : Nat) (a1 : Int32) (a2 : Int32) (a3 : Int32) (a4 : Int32) (a5 : Int32) (a6 : Int32) (x0 : Int32) (x1 : Nat) (τ : St), Ru M_Rule_worked d Q 118 [some (.ref a0), some (.int a1), some (.int a2), some (.int a3), some (.int a4), some (.int a5), some (.int a6)] [.int x0, .ref x1] τ = Ru M_Rule_worked d Q 119 [some (.ref a0), some (.int a1), some (.int a2), some (.int a3), some (.int a4), some (.int a5), some (.int a6)] [.int a2, .int x0, .ref x1] τ) ∧
    (∀ (a0 : Nat) (a1 : Int32) (a2 : Int32) (a3 : Int32) (a4 : Int32) (a5 : Int32) (a6 : Int32) (x0 : Int32) (x1 : Int32) (x2 : Nat) (τ : St), Ru M_Rule_worked d Q 119 [some (.ref a0), some (.int a1), some (.int a2), some (.int a3), some (.int a4), some (.int a5), some (.int a6)] [.int x0, .int x1, .ref x2] τ = Ru M_Rule_worked d Q 120 [some (.ref a0), some (.int a1), some (.int a2), some (.int a3), some (.int a4), some (.int a5), some (.int a6)] [.int (-x0), .int x1, .ref x2] τ) ∧
    (∀ (a0 : Nat) (a1 : Int32) (a2 : Int32) (a3 : Int32) (a4 : Int32) (a5 : Int32) (a6 : Int32) (x0 : Int32) (x1 : Int32) (x2 : Nat) (τ : St), Ru M_Rule_worked d Q 120 [some (.ref a0), some (.int a1), some (.int a2), some (.int a3), some (.int a4), some (.int a5), some (.int a6)] [.int x0, .int x1, .ref x2] τ = Ru M_Rule_worked d Q 123 [some (.ref a0), some (.int a1), some (.int a2), some (.int a3), some (.int a4), some (.int a5), some (.int a6)] [.int (if x1 < x0 then x0 else x1), .ref x2] τ) ∧
    (∀ (a0 : Nat) (a1 : Int32) (a2 : Int32) (a3 : Int32) (a4 : Int32) (a5 : Int32) (a6 : Int32) (x0 : Int32) (x1 : Nat) (τ : St), Ru M_Rule_worked d Q 123 [some (.ref a0), some (.int a1), some (.int a2), some (.int a3), some (.int a4), some (.int a5), some (.int a6)] [.int x0, .ref x1] τ = (isA 5 x1 ∧ Cl d m_Rule_push [.ref x1, .int x0] τ (fun v τ' => Ru M_Rule_worked d Q 126 [some (.ref a0), some (.int a1), some (.int a2), some (.int a3), some (.int a4), some (.int a5), some (.int a6)] (v.toList ++ []) τ'))) ∧
    (∀ (a0 : Nat) (a1 : Int32) (a2 : Int32) (a3 : Int32) (a4 : Int32) (a5 : Int32) (a6 : Int32) (τ : St), Ru M_Rule_worked d Q 126 [some (.ref a0), some (.int a1), some (.int a2), some (.int a3), some (.int a4), some (.int a5), some (.int a6)] [] τ = Ru M_Rule_worked d Q 192 [some (.ref a0), some (.int a1), some (.int a2), some (.int a3), some (.int a4), some (.int a5), some (.int a6)] [] τ) ∧
    (∀ (a0 : Nat) (a1 : Int32) (a2 : Int32) (a3 : Int32) (a4 : Int32) (a5 : Int32) (a6 : Int32) (τ : St), Ru M_Rule_worked d Q 129 [some (.ref a0), some (.int a1), some (.int a2), some (.int a3), some (.int a4), some (.int a5), some (.int a6)] [] τ = Ru M_Rule_worked d Q 130 [some (.ref a0), some (.int a1), some (.int a2), some (.int a3), some (.int a4), some (.int a5), some (.int a6)] [.ref a0] τ) ∧
    (∀ (a0 : Nat) (a1 : Int32) (a2 : Int32) (a3 : Int32) (a4 : Int32) (a5 : Int32) (a6 : Int32) (x0 : Nat) (τ : St), Ru M_Rule_worked d Q 130 [some (.ref a0), some (.int a1), some (.int a2), some (.int a3), some (.int a4), some (.int a5), some (.int a6)] [.ref x0] τ = Ru M_Rule_worked d Q 131 [some (.ref a0), some (.int a1), some (.int a2), some (.int a3), some (.int a4), some (.int a5), some (.int a6)] [.int a3, .ref x0] τ) ∧
    (∀ (a0 : Nat) (a1 : Int32) (a2 : Int32) (a3 : Int32) (a4 : Int32) (a5 : Int32) (a6 : Int32) (x0 : Int32) (x1 : Nat) (τ : St), Ru M_Rule_worked d Q 131 [some (.ref a0), some (.int a1), some (.int a2), some (.int a3), some (.int a4), some (.int a5), some (.int a6)] [.int x0, .ref x1] τ = (isA 5 x1 ∧ Cl d m_Rule_push [.ref x1, .int x0] τ (fun v τ' => Ru M_Rule_worked d Q 134 [some (.ref a0), some (.int a1), some (.int a2), some (.int a3), some (.int a4), some (.int a5), some (.int a6)] (v.toList ++ []) τ'))) ∧
    (∀ (a0 : Nat) (a1 : Int32) (a2 : Int32) (a3 : Int32) (a4 : Int32) (a5 : Int32) (a6 : Int32) (τ : St), Ru M_Rule_worked d Q 134 [some (.ref a0), some (.int a1), some (.int a2), some (.int a3), some (.int a4), some (.int a5), some (.int a6)] [] τ = Ru M_Rule_worked d Q 192 [some (.ref a0), some (.int a1), some (.int a2), some (.int a3), some (.int a4), some (.int a5), some (.int a6)] [] τ) ∧
    (∀ (a0 : Nat) (a1 : Int32) (a2 : Int32) (a3 : Int32) (a4 : Int32) (a5 : Int32) (a6 : Int32) (τ : St), Ru M_Rule_worked d Q 137 [some (.ref a0), some (.int a1), some (.int a2), some (.int a3), some (.int a4), some (.int a5), some (.int a6)] [] τ = Ru M_Rule_worked d Q 138 [some (.ref a0), some (.int a1), some (.int a2), some (.int a3), some (.int a4), some (.int a5), some (.int a6)] [.ref a0] τ) ∧
    (∀ (a0 : Nat) (a1 : Int32) (a2 : Int32) (a3 : Int32) (a4 : Int32) (a5 : Int32) (a6 : Int32) (x0 : Nat) (τ : St), Ru M_Rule_worked d Q 138 [some (.ref a0), some (.int a1), some (.int a2), some (.int a3), some (.int a4), some (.int a5), some (.int a6)] [.ref x0] τ = Ru M_Rule_worked d Q 140 [some (.ref a0), some (.int a1), some (.int a2), some (.int a3), some (.int a4), some (.int a5), some (.int a6)] [.int a4, .ref x0] τ) ∧
    (∀ (a0 : Nat) (a1 : Int32) (a2 : Int32) (a3 : Int32) (a4 : Int32) (a5 : Int32) (a6 : Int32) (x0 : Int32) (x1 : Nat) (τ : St), Ru M_Rule_worked d Q 140 [some (.ref a0), some (.int a1), some (.int a2), some (.int a3), some (.int a4), some (.int a5), some (.int a6)] [.int x0, .ref x1] τ = (isA 5 x1 ∧ Cl d m_Rule_push [.ref x1, .int x0] τ (fun v τ' => Ru M_Rule_worked d Q 143 [some (.ref a0), some (.int a1), some (.int a2), some (.int a3), some (.int a4), some (.int a5), some (.int a6)] (v.toList ++ []) τ'))) ∧
    (∀ (a0 : Nat) (a1 : Int32) (a2 : Int32) (a3 : Int32) (a4 : Int32) (a5 : Int32) (a6 : Int32) (τ : St), Ru M_Rule_worked d Q 143 [some (.ref a0), some (.int a1), some (.int a2), some (.int a3), some (.int a4), some (.int a5), some (.int a6)] [] τ = Ru M_Rule_worked d Q 192 [some (.ref a0), some (.int a1), some (.int a2), some (.int a3), some (.int a4), some (.int a5), some (.int a6)] [] τ) ∧
    (∀ (a0 : Nat) (a1 : Int32) (a2 : Int32) (a3 : Int32) (a4 : Int32) (a5 : Int32) (a6 : Int32) (τ : St), Ru M_Rule_worked d Q 146 [some (.ref a0), some (.int a1), some (.int a2), some (.int a3), some (.int a4), some (.int a5), some (.int a6)] [] τ = Ru M_Rule_worked d Q 147 [some (.ref a0), some (.int a1), some (.int a2), some (.int a3), some (.int a4), some (.int a5), some (.int a6)] [.ref a0] τ) ∧
    (∀ (a0 : Nat) (a1 : Int32) (a2 : Int32) (a3 : Int32) (a4 : Int32) (a5 : Int32) (a6 : Int32) (x0 : Nat) (τ : St), Ru M_Rule_worked d Q 147 [some (.ref a0), some (.int a1), some (.int a2), some (.int a3), some (.int a4), some (.int a5), some (.int a6)] [.ref x0] τ = Ru M_Rule_worked d Q 148 [some (.ref a0), some (.int a1), some (.int a2), some (.int a3), some (.int a4), some (.int a5), some (.int a6)] [.ref a0, .ref x0] τ) ∧
    (∀ (a0 : Nat) (a1 : Int32) (a2 : Int32) (a3 : Int32) (a4 : Int32) (a5 : Int32) (a6 : Int32) (x0 : Nat) (x1 : Nat) (τ : St), Ru M_Rule_worked d Q 148 [some (.ref a0), some (.int a1), some (.int a2), some (.int a3), some (.int a4), some (.int a5), some (.int a6)] [.ref x0, .ref x1] τ = (isA 5 x0 ∧ Cl d m_Rule_pop [.ref x0] τ (fun v τ' => Ru M_Rule_worked d Q 151 [some (.ref a0), some (.int a1), some (.int a2), some (.int a3), some (.int a4), some (.int a5), some (.int a6)] (v.toList ++ [.ref x1]) τ'))) ∧
    (∀ (a0 : Nat) (a1 : Int32) (a2 : Int32) (a3 : Int32) (a4 : Int32) (a5 : Int32) (a6 : Int32) (x0 : Int32) (x1 : Nat) (τ : St), Ru M_Rule_worked d Q 151 [some (.ref a0), some (.int a1), some (.int a2), some (.int a3), some (.int a4), some (.int a5), some (.int a6)] [.int x0, .ref x1] τ = Ru M_Rule_worked d Q 152 [some (.ref a0), some (.int a1), some (.int a2), some (.int a3), some (.int a4), some (.int a5), some (.int a6)] [.int (-x0), .ref x1] τ) ∧
    (∀ (a0 : Nat) (a1 : Int32) (a2 : Int32) (a3 : Int32) (a4 : Int32) (a5 : Int32) (a6 : Int32) (x0 : Int32) (x1 : Nat) (τ : St), Ru M_Rule_worked d Q 152 [some (.ref a0), some (.int a1), some (.int a2), some (.int a3), some (.int a4), some (.int a5), some (.int a6)] [.int x0, .ref x1] τ = (isA 5 x1 ∧ Cl d m_Rule_push [.ref x1, .int x0] τ (fun v τ' => Ru M_Rule_worked d Q 155 [some (.ref a0), some (.int a1), some (.int a2), some (.int a3), some (.int a4), some (.int a5), some (.int a6)] (v.toList ++ []) τ'))) ∧
    (∀ (a0 : Nat) (a1 : Int32) (a2 : Int32) (a3 : Int32) (a4 : Int32) (a5 : Int32) (a6 : Int32) (τ : St), Ru M_Rule_worked d Q 155 [some (.ref a0), some (.int a1), some (.int a2), some (.int a3), some (.int a4), some (.int a5), some (.int a6)] [] τ = Ru M_Rule_worked d Q 192 [some (.ref a0), some (.int a1), some (.int a2), some (.int a3), some (.int a4), some (.int a5), some (.int a6)] [] τ) ∧
    (∀ (a0 : Nat) (a1 : Int32) (a2 : Int32) (a3 : Int32) (a4 : Int32) (a5 : Int32) (a6 : Int32) (τ : St), Ru M_Rule_worked d Q 158 [some (.ref a0), some (.int a1), some (.int a2), some (.int a3), some (.int a4), some (.int a5), some (.int a6)] [] τ = Ru M_Rule_worked d Q 159 [some (.ref a0), some (.int a1), some (.int a2), some (.int a3), some (.int a4), some (.int a5), some (.int a6)] [.ref a0] τ) ∧
    (∀ (a0 : Nat) (a1 : Int32) (a2 : Int32) (a3 : Int32) (a4 : Int32) (a5 : Int32) (a6 : Int32) (x0 : Nat) (τ : St), Ru M_Rule_worked d Q 159 [some (.ref a0), some (.int a1), some (.int a2), some (.int a3), some (.int a4), some (.int a5), some (.int a6)] [.ref x0] τ = Ru M_Rule_worked d Q 161 [some (.ref a0), some (.int a1), some (.int a2), some (.int a3), some (.int a4), some (.int a5), some (.int a6)] [.int a6, .ref x0] τ) ∧
    (∀ (a0 : Nat) (a1 : Int32) (a2 : Int32) (a3 : Int32) (a4 : Int32) (a5 : Int32) (a6 : Int32) (x0 : Int32) (x1 : Nat) (τ : St), Ru M_Rule_worked d Q 161 [some (.ref a0), some (.int a1), some (.int a2), some (.int a3), some (.int a4), some (.int a5), some (.int a6)] [.int x0, .ref x1] τ = Ru M_Rule_worked d Q 164 [some (.ref a0), some (.int a1), some (.int a2), some (.int a3), some (.int a4), some (.int a5), some (.int a6)] [.int 1000, .int x0, .ref x1] τ) ∧
    (∀ (a0 : Nat) (a1 : Int32) (a2 : Int32) (a3 : Int32) (a4 : Int32) (a5 : Int32) (a6 : Int32) (x0 : Int32) (x1 : Int32) (x2 : Nat) (τ : St), Ru M_Rule_worked d Q 164 [some (.ref a0), some (.int a1), some (.int a2), some (.int a3), some (.int a4), some (.int a5), some (.int a6)] [.int x0, .int x1, .ref x2] τ = ((x0 ≤ x1 → Ru M_Rule_worked d Q 172 [some (.ref a0), some (.int a1), some (.int a2), some (.int a3), some (.int a4), some (.int a5), some (.int a6)] [.ref x2] τ) ∧ (¬ x0 ≤ x1 → Ru M_Rule_worked d Q 167 [some (.ref a0), some (.int a1), some (.int a2), some (.int a3), some (.int a4), some (.int a5), some (.int a6)] [.ref x2] τ))) ∧
    (∀ (a0 : Nat) (a1 : Int32) (a2 : Int32) (a3 : Int32) (a4 : Int32) (a5 : Int32) (a6 : Int32) (x0 : Nat) (τ : St), Ru M_Rule_worked d Q 167 [some (.ref a0), some (.int a1), some (.int a2), some (.int a3), some (.int a4), some (.int a5), some (.int a6)] [.ref x0] τ = Ru M_Rule_worked d Q 169 [some (.ref a0), some (.int a1), some (.int a2), some (.int a3), some (.int a4), some (.int a5), some (.int a6)] [.int a6, .ref x0] τ) ∧
    (∀ (a0 : Nat) (a1 : Int32) (a2 : Int32) (a3 : Int32) (a4 : Int32) (a5 : Int32) (a6 : Int32) (x0 : Int32) (x1 : Nat) (τ : St), Ru M_Rule_worked d Q 169 [some (.ref a0), some (.int a1), some (.int a2), some (.int a3), some (.int a4), some (.int a5), some (.int a6)] [.int x0, .ref x1] τ = Ru M_Rule_worked d Q 189 [some (.ref a0), some (.int a1), some (.int a2), some (.int a3), some (.int a4), some (.int a5), some (.int a6)] [.int x0, .ref x1] τ) ∧
    (∀ (a0 : Nat) (a1 : Int32) (a2 : Int32) (a3 : Int32) (a4 : Int32) (a5 : Int32) (a6 : Int32) (x0 : Nat) (τ : St), Ru M_Rule_worked d Q 172 [some (.ref a0), some (.int a1), some (.int a2), some (.int a3), some (.int a4), some (.int a5), some (.int a6)] [.ref x0] τ = Ru M_Rule_worked d Q 174 [some (.ref a0), some (.int a1), some (.int a2), some (.int a3), some (.int a4), some (.int a5), some (.int a6)] [.int a6, .ref x0] τ) ∧
    (∀ (a0 : Nat) (a1 : Int32) (a2 : Int32) (a3 : Int32) (a4 : Int32) (a5 : Int32) (a6 : Int32) (x0 : Int32) (x1 : Nat) (τ : St), Ru M_Rule_worked d Q 174 [some (.ref a0), some (.int a1), some (.int a2), some (.int a3), some (.int a4), some (.int a5), some (.int a6)] [.int x0, .ref x1] τ = Ru M_Rule_worked d Q 177 [some (.ref a0), some (.int a1), some (.int a2), some (.int a3), some (.int a4), some (.int a5), some (.int a6)] [.int 1000, .int x0, .ref x1] τ) ∧
    (∀ (a0 : Nat) (a1 : Int32) (a2 : Int32) (a3 : Int32) (a4 : Int32) (a5 : Int32) (a6 : Int32) (x0 : Int32) (x1 : Int32) (x2 : Nat) (τ : St), Ru M_Rule_worked d Q 177 [some (.ref a0), some (.int a1), some (.int a2), some (.int a3), some (.int a4), some (.int a5), some (.int a6)] [.int x0, .int x1, .ref x2] τ = Ru M_Rule_worked d Q 178 [some (.ref a0), some (.int a1), some (.int a2), some (.int a3), some (.int a4), some (.int a5), some (.int a6)] [.int (x1 - x0), .ref x2] τ) ∧
    (∀ (a0 : Nat) (a1 : Int32) (a2 : Int32) (a3 : Int32) (a4 : Int32) (a5 : Int32) (a6 : Int32) (x0 : Int32) (x1 : Nat) (τ : St), Ru M_Rule_worked d Q 178 [some (.ref a0), some (.int a1), some (.int a2), some (.int a3), some (.int a4), some (.int a5), some (.int a6)] [.int x0, .ref x1] τ = Ru M_Rule_worked d Q 179 [some (.ref a0), some (.int a1), some (.int a2), some (.int a3), some (.int a4), some (.int a5), some (.int a6)] [.ref a0, .int x0, .ref x1] τ) ∧
    (∀ (a0 : Nat) (a1 : Int32) (a2 : Int32) (a3 : Int32) (a4 : Int32) (a5 : Int32) (a6 : Int32) (x0 : Nat) (x1 : Int32) (x2 : Nat) (τ : St), Ru M_Rule_worked d Q 179 [some (.ref a0), some (.int a1), some (.int a2), some (.int a3), some (.int a4), some (.int a5), some (.int a6)] [.ref x0, .int x1, .ref x2] τ = (isA 5 x0 ∧ Cl d m_Rule_pop [.ref x0] τ (fun v τ' => Ru M_Rule_worked d Q 182 [some (.ref a0), some (.int a1), some (.int a2), some (.int a3), some (.int a4), some (.int a5), some (.int a6)] (v.toList ++ [.int x1, .ref x2]) τ'))) ∧
    (∀ (a0 : Nat) (a1 : Int32) (a2 : Int32) (a3 : Int32) (a4 : Int32) (a5 : Int32) (a6 : Int32) (x0 : Int32) (x1 : Int32) (x2 : Nat) (τ : St), Ru M_Rule_worked d Q 182 [some (.ref a0), some (.int a1), some (.int a2), some (.int a3), some (.int a4), some (.int a5), some (.int a6)] [.int x0, .int x1, .ref x2] τ = Ru M_Rule_worked d Q 183 [some (.ref a0), some (.int a1), some (.int a2), some (.int a3), some (.int a4), some (.int a5), some (.int a6)] [.ref a0, .int x0, .int x1, .ref x2] τ) ∧
    (∀ (a0 : Nat) (a1 : Int32) (a2 : Int32) (a3 : Int32) (a4 : Int32) (a5 : Int32) (a6 : Int32) (x0 : Nat) (x1 : Int32) (x2 : Int32) (x3 : Nat) (τ : St), Ru M_Rule_worked d Q 183 [some (.ref a0), some (.int a1), some (.int a2), some (.int a3), some (.int a4), some (.int a5), some (.int a6)] [.ref x0, .int x1, .int x2, .ref x3] τ = (isA 5 x0 ∧ Cl d m_Rule_pop [.ref x0] τ (fun v τ' => Ru M_Rule_worked d Q 186 [some (.ref a0), some (.int a1), some (.int a2), some (.int a3), some (.int a4), some (.int a5), some (.int a6)] (v.toList ++ [.int x1, .int x2, .ref x3]) τ'))) ∧
    (∀ (a0 : Nat) (a1 : Int32) (a2 : Int32) (a3 : Int32) (a4 : Int32) (a5 : Int32) (a6 : Int32) (x0 : Int32) (x1 : Int32) (x2 : Int32) (x3 : Nat) (τ : St), Ru M_Rule_worked d Q 186 [some (.ref a0), some (.int a1), some (.int a2), some (.int a3), some (.int a4), some (.int a5), some (.int a6)] [.int x0, .int x1, .int x2, .ref x3] τ = Cl d m_Rule_joined [.int x2, .int x1, .int x0] τ (fun v τ' => Ru M_Rule_worked d Q 189 [some (.ref a0), some (.int a1), some (.int a2), some (.int a3), some (.int a4), some (.int a5), some (.int a6)] (v.toList ++ [.ref x3]) τ')) ∧
    (∀ (a0 : Nat) (a1 : Int32) (a2 : Int32) (a3 : Int32) (a4 : Int32) (a5 : Int32) (a6 : Int32) (x0 : Int32) (x1 : Nat) (τ : St), Ru M_Rule_worked d Q 189 [some (.ref a0), some (.int a1), some (.int a2), some (.int a3), some (.int a4), some (.int a5), some (.int a6)] [.int x0, .ref x1] τ = (isA 5 x1 ∧ Cl d m_Rule_push [.ref x1, .int x0] τ (fun v τ' => Ru M_Rule_worked d Q 192 [some (.ref a0), some (.int a1), some (.int a2), some (.int a3), some (.int a4), some (.int a5), some (.int a6)] (v.toList ++ []) τ'))) ∧
    (∀ (a0 : Nat) (a1 : Int32) (a2 : Int32) (a3 : Int32) (a4 : Int32) (a5 : Int32) (a6 : Int32) (τ : St), Ru M_Rule_worked d Q 192 [some (.ref a0), some (.int a1), some (.int a2), some (.int a3), some (.int a4), some (.int a5), some (.int a6)] [] τ = Ru M_Rule_worked d Q 195 [some (.ref a0), some (.int a1), some (.int a2), some (.int a3), some (.int a4), some (.int (a5 + 1)), some (.int a6)] [] τ) ∧
    (∀ (a0 : Nat) (a1 : Int32) (a2 : Int32) (a3 : Int32) (a4 : Int32) (a5 : Int32) (a6 : Int32) (τ : St), Ru M_Rule_worked d Q 195 [some (.ref a0), some (.int a1), some (.int a2), some (.int a3), some (.int a4), some (.int a5), some (.int a6)] [] τ = Rs M_Rule_worked d Q 8 [some (.ref a0), some (.int a1), some (.int a2), some (.int a3), some (.int a4), some (.int a5), some (.int a6)] [] τ) ∧
    (∀ (a0 : Nat) (a1 : Int32) (a2 : Int32) (a3 : Int32) (a4 : Int32) (a5 : Int32) (a6 : Option Value) (τ : St), Ru M_Rule_worked d Q 198 [some (.ref a0), some (.int a1), some (.int a2), some (.int a3), some (.int a4), some (.int a5), a6] [] τ = Ru M_Rule_worked d Q 199 [some (.ref a0), some (.int a1), some (.int a2), some (.int a3), some (.int a4), some (.int a5), a6] [.ref a0] τ) ∧
    (∀ (a0 : Nat) (a1 : Int32) (a2 : Int32) (a3 : Int32) (a4 : Int32) (a5 : Int32) (a6 : Option Value) (x0 : Nat) (τ : St), Ru M_Rule_worked d Q 199 [some (.ref a0), some (.int a1), some (.int a2), some (.int a3), some (.int a4), some (.int a5), a6] [.ref x0] τ = (isA 5 x0 ∧ Cl d m_Rule_pop [.ref x0] τ (fun v τ' => Ru M_Rule_worked d Q 202 [some (.ref a0), some (.int a1), some (.int a2), some (.int a3), some (.int a4), some (.int a5), a6] (v.toList ++ []) τ'))) ∧
    (∀ (a0 : Nat) (a1 : Int32) (a2 : Int32) (a3 : Int32) (a4 : Int32) (a5 : Int32) (a6 : Option Value) (x0 : Int32) (τ : St), Ru M_Rule_worked d Q 202 [some (.ref a0), some (.int a1), some (.int a2), some (.int a3), some (.int a4), some (.int a5), a6] [.int x0] τ = Q (some (.int x0)) τ) := ⟨
  fun _ _ _ _ _ _ => (R_at ok_Rule_worked rfl).trans (e_ald rfl),
  fun _ _ _ _ _ _ _ => (R_at ok_Rule_worked rfl).trans e_push,
  fun _ _ _ _ _ _ _ _ => (R_at ok_Rule_worked rfl).trans e_pI,
  fun _ _ _ _ _ _ => (R_at ok_Rule_worked rfl).trans e_push,
  fun _ _ _ _ _ _ _ => (R_at ok_Rule_worked rfl).trans e_ist,
  fun _ _ _ _ _ _ _ _ => (R_at ok_Rule_worked rfl).trans (e_ild rfl),
  fun _ _ _ _ _ _ _ _ _ => (R_at ok_Rule_worked rfl).trans (e_ald rfl),
  fun _ _ _ _ _ _ _ _ _ _ => (R_at ok_Rule_worked rfl).trans e_gI,
  fun _ _ _ _ _ _ _ _ _ _ => (R_at ok_Rule_worked rfl).trans e_ic,
  fun _ _ _ _ _ _ _ _ => (R_at ok_Rule_worked rfl).trans (e_ild rfl),
  fun _ _ _ _ _ _ _ _ _ => (R_at ok_Rule_worked rfl).trans e_push,
  fun _ _ _ _ _ _ _ _ _ _ => (R_at ok_Rule_worked rfl).trans e_ic,
  fun _ _ _ _ _ _ _ _ => (R_at ok_Rule_worked rfl).trans (e_ald rfl),
  fun _ _ _ _ _ _ _ _ _ => (R_at ok_Rule_worked rfl).trans e_gR,
  fun _ _ _ _ _ _ _ _ _ => (R_at ok_Rule_worked rfl).trans (e_ild rfl),
  fun _ _ _ _ _ _ _ _ _ _ => (R_at ok_Rule_worked rfl).trans e_al,
  fun _ _ _ _ _ _ _ _ _ => (R_at ok_Rule_worked rfl).trans e_ist,
  fun _ _ _ _ _ _ _ _ => (R_at ok_Rule_worked rfl).trans (e_ild rfl),
  fun _ _ _ _ _ _ _ _ _ => (R_at ok_Rule_worked rfl).trans e_push,
  fun _ _ _ _ _ _ _ _ _ _ => (R_at ok_Rule_worked rfl).trans e_bin,
  fun _ _ _ _ _ _ _ _ _ => (R_at ok_Rule_worked rfl).trans e_sw,
  fun _ _ _ _ _ _ _ _ => (R_at ok_Rule_worked rfl).trans (e_ald rfl),
  fun _ _ _ _ _ _ _ _ _ => (R_at ok_Rule_worked rfl).trans (e_ild rfl),
  fun _ _ _ _ _ _ _ x0 _ _ => (R_at ok_Rule_worked rfl).trans (e_cv [.int x0] rfl rfl rfl),
  fun _ _ _ _ _ _ _ _ => (R_at ok_Rule_worked rfl).trans e_goto,
  fun _ _ _ _ _ _ _ _ => (R_at ok_Rule_worked rfl).trans (e_ald rfl),
  fun _ _ _ _ _ _ _ _ _ => (R_at ok_Rule_worked rfl).trans e_push,
  fun _ _ _ _ _ _ _ _ _ _ => (R_at ok_Rule_worked rfl).trans (e_ild rfl),
  fun _ _ _ _ _ _ _ _ _ _ _ => (R_at ok_Rule_worked rfl).trans (e_mm rfl),
  fun _ _ _ _ _ _ _ x0 _ _ => (R_at ok_Rule_worked rfl).trans (e_cv [.int x0] rfl rfl rfl),
  fun _ _ _ _ _ _ _ _ => (R_at ok_Rule_worked rfl).trans e_goto,
  fun _ _ _ _ _ _ _ _ => (R_at ok_Rule_worked rfl).trans (e_ald rfl),
  fun _ _ _ _ _ _ _ _ _ => (R_at ok_Rule_worked rfl).trans e_push,
  fun _ _ _ _ _ _ _ _ _ _ => (R_at ok_Rule_worked rfl).trans (e_ild rfl),
  fun _ _ _ _ _ _ _ _ _ _ _ => (R_at ok_Rule_worked rfl).trans e_un,
  fun _ _ _ _ _ _ _ _ _ _ _ => (R_at ok_Rule_worked rfl).trans (e_mm rfl),
  fun _ _ _ _ _ _ _ x0 _ _ => (R_at ok_Rule_worked rfl).trans (e_cv [.int x0] rfl rfl rfl),
  fun _ _ _ _ _ _ _ _ => (R_at ok_Rule_worked rfl).trans e_goto,
  fun _ _ _ _ _ _ _ _ => (R_at ok_Rule_worked rfl).trans (e_ald rfl),
  fun _ _ _ _ _ _ _ _ _ => (R_at ok_Rule_worked rfl).trans (e_ild rfl),
  fun _ _ _ _ _ _ _ x0 _ _ => (R_at ok_Rule_worked rfl).trans (e_cv [.int x0] rfl rfl rfl),
  fun _ _ _ _ _ _ _ _ => (R_at ok_Rule_worked rfl).trans e_goto,
  fun _ _ _ _ _ _ _ _ => (R_at ok_Rule_worked rfl).trans (e_ald rfl),
  fun _ _ _ _ _ _ _ _ _ => (R_at ok_Rule_worked rfl).trans (e_ild rfl),
  fun _ _ _ _ _ _ _ x0 _ _ => (R_at ok_Rule_worked rfl).trans (e_cv [.int x0] rfl rfl rfl),
  fun _ _ _ _ _ _ _ _ => (R_at ok_Rule_worked rfl).trans e_goto,
  fun _ _ _ _ _ _ _ _ => (R_at ok_Rule_worked rfl).trans (e_ald rfl),
  fun _ _ _ _ _ _ _ _ _ => (R_at ok_Rule_worked rfl).trans (e_ald rfl),
  fun _ _ _ _ _ _ _ _ _ _ => (R_at ok_Rule_worked rfl).trans (e_cv [] rfl rfl rfl),
  fun _ _ _ _ _ _ _ _ _ _ => (R_at ok_Rule_worked rfl).trans e_un,
  fun _ _ _ _ _ _ _ x0 _ _ => (R_at ok_Rule_worked rfl).trans (e_cv [.int x0] rfl rfl rfl),
  fun _ _ _ _ _ _ _ _ => (R_at ok_Rule_worked rfl).trans e_goto,
  fun _ _ _ _ _ _ _ _ => (R_at ok_Rule_worked rfl).trans (e_ald rfl),
  fun _ _ _ _ _ _ _ _ _ => (R_at ok_Rule_worked rfl).trans (e_ild rfl),
  fun _ _ _ _ _ _ _ _ _ _ => (R_at ok_Rule_worked rfl).trans e_push,
  fun _ _ _ _ _ _ _ _ _ _ _ => (R_at ok_Rule_worked rfl).trans e_ic,
  fun _ _ _ _ _ _ _ _ _ => (R_at ok_Rule_worked rfl).trans (e_ild rfl),
  fun _ _ _ _ _ _ _ _ _ _ => (R_at ok_Rule_worked rfl).trans e_goto,
  fun _ _ _ _ _ _ _ _ _ => (R_at ok_Rule_worked rfl).trans (e_ild rfl),
  fun _ _ _ _ _ _ _ _ _ _ => (R_at ok_Rule_worked rfl).trans e_push,
  fun _ _ _ _ _ _ _ _ _ _ _ => (R_at ok_Rule_worked rfl).trans e_bin,
  fun _ _ _ _ _ _ _ _ _ _ => (R_at ok_Rule_worked rfl).trans (e_ald rfl),
  fun _ _ _ _ _ _ _ _ _ _ _ => (R_at ok_Rule_worked rfl).trans (e_cv [] rfl rfl rfl),
  fun _ _ _ _ _ _ _ _ _ _ _ => (R_at ok_Rule_worked rfl).trans (e_ald rfl),
  fun _ _ _ _ _ _ _ _ _ _ _ _ => (R_at ok_Rule_worked rfl).trans (e_cv [] rfl rfl rfl),
  fun _ _ _ _ _ _ _ x0 x1 x2 _ _ => (R_at ok_Rule_worked rfl).trans (e_cs [.int x2, .int x1, .int x0] rfl rfl rfl),
  fun _ _ _ _ _ _ _ x0 _ _ => (R_at ok_Rule_worked rfl).trans (e_cv [.int x0] rfl rfl rfl),
  fun _ _ _ _ _ _ _ _ => (R_at ok_Rule_worked rfl).trans (e_iinc rfl),
  fun _ _ _ _ _ _ _ _ => (R_at ok_Rule_worked rfl).trans e_goto,
  fun _ _ _ _ _ _ _ _ => (R_at ok_Rule_worked rfl).trans (e_ald rfl),
  fun _ _ _ _ _ _ _ _ _ => (R_at ok_Rule_worked rfl).trans (e_cv [] rfl rfl rfl),
  fun _ _ _ _ _ _ _ _ _ => (R_at ok_Rule_worked rfl).trans e_iret⟩
set_option maxHeartbeats 4000000 in
theorem N_Rule_joined (d : Nat) (Q : Qt) : ∀ (x0 : Int32) (x1 : Int32) (x2 : Int32) (τ : St), Cl (d + 1) m_Rule_joined [.int x0, .int x1, .int x2] τ Q = Ru M_Rule_joined d Q 0 [some (.int x0), some (.int x1), some (.int x2)] [] τ := fun _ _ _ _ => propext ⟨fun h => h.2, fun h => ⟨Nat.le_of_ble_eq_true rfl, h⟩⟩
set_option maxHeartbeats 4000000 in
theorem E_Rule_joined (d : Nat) (Q : Qt) :
    (∀ (a0 : Int32) (a1 : Int32) (a2 : Int32) (τ : St), Ru M_Rule_joined d Q 0 [some (.int a0), some (.int a1), some (.int a2)] [] τ = Ru M_Rule_joined d Q 1 [some (.int a0), some (.int a1), some (.int a2)] [.int a0] τ) ∧
    (∀ (a0 : Int32) (a1 : Int32) (a2 : Int32) (x0 : Int32) (τ : St), Ru M_Rule_joined d Q 1 [some (.int a0), some (.int a1), some (.int a2)] [.int x0] τ = ((∀ q ∈ ([(42, 68), (43, 60), (45, 64), (47, 72), (60, 84), (62, 95)] : List (Int32 × Nat)), x0 = q.1 → Ru M_Rule_joined d Q q.2 [some (.int a0), some (.int a1), some (.int a2)] [] τ) ∧ ((∀ q ∈ ([(42, 68), (43, 60), (45, 64), (47, 72), (60, 84), (62, 95)] : List (Int32 × Nat)), ¬ x0 = q.1) → Ru M_Rule_joined d Q 106 [some (.int a0), some (.int a1), some (.int a2)] [] τ))) ∧
    (∀ (a0 : Int32) (a1 : Int32) (a2 : Int32) (τ : St), Ru M_Rule_joined d Q 60 [some (.int a0), some (.int a1), some (.int a2)] [] τ = Ru M_Rule_joined d Q 61 [some (.int a0), some (.int a1), some (.int a2)] [.int a2] τ) ∧
    (∀ (a0 : Int32) (a1 : Int32) (a2 : Int32) (x0 : Int32) (τ : St), Ru M_Rule_joined d Q 61 [some (.int a0), some (.int a1), some (.int a2)] [.int x0] τ = Ru M_Rule_joined d Q 62 [some (.int a0), some (.int a1), some (.int a2)] [.int a1, .int x0] τ) ∧
    (∀ (a0 : Int32) (a1 : Int32) (a2 : Int32) (x0 : Int32) (x1 : Int32) (τ : St), Ru M_Rule_joined d Q 62 [some (.int a0), some (.int a1), some (.int a2)] [.int x0, .int x1] τ = Ru M_Rule_joined d Q 63 [some (.int a0), some (.int a1), some (.int a2)] [.int (x1 + x0)] τ) ∧
    (∀ (a0 : Int32) (a1 : Int32) (a2 : Int32) (x0 : Int32) (τ : St), Ru M_Rule_joined d Q 63 [some (.int a0), some (.int a1), some (.int a2)] [.int x0] τ = Q (some (.int x0)) τ) ∧
    (∀ (a0 : Int32) (a1 : Int32) (a2 : Int32) (τ : St), Ru M_Rule_joined d Q 64 [some (.int a0), some (.int a1), some (.int a2)] [] τ = Ru M_Rule_joined d Q 65 [some (.int a0), some (.int a1), some (.int a2)] [.int a2] τ) ∧
    (∀ (a0 : Int32) (a1 : Int32) (a2 : Int32) (x0 : Int32) (τ : St), Ru M_Rule_joined d Q 65 [some (.int a0), some (.int a1), some (.int a2)] [.int x0] τ = Ru M_Rule_joined d Q 66 [some (.int a0), some (.int a1), some (.int a2)] [.int a1, .int x0] τ) ∧
    (∀ (a0 : Int32) (a1 : Int32) (a2 : Int32) (x0 : Int32) (x1 : Int32) (τ : St), Ru M_Rule_joined d Q 66 [some (.int a0), some (.int a1), some (.int a2)] [.int x0, .int x1] τ = Ru M_Rule_joined d Q 67 [some (.int a0), some (.int a1), some (.int a2)] [.int (x1 - x0)] τ) ∧
    (∀ (a0 : Int32) (a1 : Int32) (a2 : Int32) (x0 : Int32) (τ : St), Ru M_Rule_joined d Q 67 [some (.int a0), some (.int a1), some (.int a2)] [.int x0] τ = Q (some (.int x0)) τ) ∧
    (∀ (a0 : Int32) (a1 : Int32) (a2 : Int32) (τ : St), Ru M_Rule_joined d Q 68 [some (.int a0), some (.int a1), some (.int a2)] [] τ = Ru M_Rule_joined d Q 69 [some (.int a0), some (.int a1), some (.int a2)] [.int a2] τ) ∧
    (∀ (a0 : Int32) (a1 : Int32) (a2 : Int32) (x0 : Int32) (τ : St), Ru M_Rule_joined d Q 69 [some (.int a0), some (.int a1), some (.int a2)] [.int x0] τ = Ru M_Rule_joined d Q 70 [some (.int a0), some (.int a1), some (.int a2)] [.int a1, .int x0] τ) ∧
    (∀ (a0 : Int32) (a1 : Int32) (a2 : Int32) (x0 : Int32) (x1 : Int32) (τ : St), Ru M_Rule_joined d Q 70 [some (.int a0), some (.int a1), some (.int a2)] [.int x0, .int x1] τ = Ru M_Rule_joined d Q 71 [some (.int a0), some (.int a1), some (.int a2)] [.int (x1 * x0)] τ) ∧
    (∀ (a0 : Int32) (a1 : Int32) (a2 : Int32) (x0 : Int32) (τ : St), Ru M_Rule_joined d Q 71 [some (.int a0), some (.int a1), some (.int a2)] [.int x0] τ = Q (some (.int x0)) τ) ∧
    (∀ (a0 : Int32) (a1 : Int32) (a2 : Int32) (τ : St), Ru M_Rule_joined d Q 72 [some (.int a0), some (.int a1), some (.int a2)] [] τ = Ru M_Rule_joined d Q 73 [some (.int a0), some (.int a1), some (.int a2)] [.int a1] τ) ∧
    (∀ (a0 : Int32) (a1 : Int32) (a2 : Int32) (x0 : Int32) (τ : St), Ru M_Rule_joined d Q 73 [some (.int a0), some (.int a1), some (.int a2)] [.int x0] τ = ((¬ x0 = 0 → Ru M_Rule_joined d Q 80 [some (.int a0), some (.int a1), some (.int a2)] [] τ) ∧ (x0 = 0 → Ru M_Rule_joined d Q 76 [some (.int a0), some (.int a1), some (.int a2)] [] τ))) ∧
    (∀ (a0 : Int32) (a1 : Int32) (a2 : Int32) (τ : St), Ru M_Rule_joined d Q 76 [some (.int a0), some (.int a1), some (.int a2)] [] τ = Ru M_Rule_joined d Q 77 [some (.int a0), some (.int a1), some (.int a2)] [.int 0] τ) ∧
    (∀ (a0 : Int32) (a1 : Int32) (a2 : Int32) (x0 : Int32) (τ : St), Ru M_Rule_joined d Q 77 [some (.int a0), some (.int a1), some (.int a2)] [.int x0] τ = Ru M_Rule_joined d Q 83 [some (.int a0), some (.int a1), some (.int a2)] [.int x0] τ) ∧
    (∀ (a0 : Int32) (a1 : Int32) (a2 : Int32) (τ : St), Ru M_Rule_joined d Q 80 [some (.int a0), some (.int a1), some (.int a2)] [] τ = Ru M_Rule_joined d Q 81 [some (.int a0), some (.int a1), some (.int a2)] [.int a2] τ) ∧
    (∀ (a0 : Int32) (a1 : Int32) (a2 : Int32) (x0 : Int32) (τ : St), Ru M_Rule_joined d Q 81 [some (.int a0), some (.int a1), some (.int a2)] [.int x0] τ = Ru M_Rule_joined d Q 82 [some (.int a0), some (.int a1), some (.int a2)] [.int a1, .int x0] τ) ∧
    (∀ (a0 : Int32) (a1 : Int32) (a2 : Int32) (x0 : Int32) (x1 : Int32) (τ : St), Ru M_Rule_joined d Q 82 [some (.int a0), some (.int a1), some (.int a2)] [.int x0, .int x1] τ = (¬ x0 = 0 ∧ Ru M_Rule_joined d Q 83 [some (.int a0), some (.int a1), some (.int a2)] [.int (x1 / x0)] τ)) ∧
    (∀ (a0 : Int32) (a1 : Int32) (a2 : Int32) (x0 : Int32) (τ : St), Ru M_Rule_joined d Q 83 [some (.int a0), some (.int a1), some (.int a2)] [.int x0] τ = Q (some (.int x0)) τ) ∧
    (∀ (a0 : Int32) (a1 : Int32) (a2 : Int32) (τ : St), Ru M_Rule_joined d Q 84 [some (.int a0), some (.int a1), some (.int a2)] [] τ = Ru M_Rule_joined d Q 85 [some (.int a0), some (.int a1), some (.int a2)] [.int a2] τ) ∧
    (∀ (a0 : Int32) (a1 : Int32) (a2 : Int32) (x0 : Int32) (τ : St), Ru M_Rule_joined d Q 85 [some (.int a0), some (.int a1), some (.int a2)] [.int x0] τ = Ru M_Rule_joined d Q 86 [some (.int a0), some (.int a1), some (.int a2)] [.int a1, .int x0] τ) ∧
    (∀ (a0 : Int32) (a1 : Int32) (a2 : Int32) (x0 : Int32) (x1 : Int32) (τ : St), Ru M_Rule_joined d Q 86 [some (.int a0), some (.int a1), some (.int a2)] [.int x0, .int x1] τ = ((x0 ≤ x1 → Ru M_Rule_joined d Q 93 [some (.int a0), some (.int a1), some (.int a2)] [] τ) ∧ (¬ x0 ≤ x1 → Ru M_Rule_joined d Q 89 [some (.int a0), some (.int a1), some (.int a2)] [] τ))) ∧
    (∀ (a0 : Int32) (a1 : Int32) (a2 : Int32) (τ : St), Ru M_Rule_joined d Q 89 [some (.int a0), some (.int a1), some (.int a2)] [] τ = Ru M_Rule_joined d Q 90 [some (.int a0), some (.int a1), some (.int a2)] [.int 1] τ) ∧
    (∀ (a0 : Int32) (a1 : Int32) (a2 : Int32) (x0 : Int32) (τ : St), Ru M_Rule_joined d Q 90 [some (.int a0), some (.int a1), some (.int a2)] [.int x0] τ = Ru M_Rule_joined d Q 94 [some (.int a0), some (.int a1), some (.int a2)] [.int x0] τ) ∧
    (∀ (a0 : Int32) (a1 : Int32) (a2 : Int32) (τ : St), Ru M_Rule_joined d Q 93 [some (.int a0), some (.int a1), some (.int a2)] [] τ = Ru M_Rule_joined d Q 94 [some (.int a0), some (.int a1), some (.int a2)] [.int 0] τ) ∧
    (∀ (a0 : Int32) (a1 : Int32) (a2 : Int32) (x0 : Int32) (τ : St), Ru M_Rule_joined d Q 94 [some (.int a0), some (.int a1), some (.int a2)] [.int x0] τ = Q (some (.int x0)) τ) ∧
    (∀ (a0 : Int32) (a1 : Int32) (a2 : Int32) (τ : St), Ru M_Rule_joined d Q 95 [some (.int a0), some (.int a1), some (.int a2)] [] τ = Ru M_Rule_joined d Q 96 [some (.int a0), some (.int a1), some (.int a2)] [.int a2] τ) ∧
    (∀ (a0 : Int32) (a1 : Int32) (a2 : Int32) (x0 : Int32) (τ : St), Ru M_Rule_joined d Q 96 [some (.int a0), some (.int a1), some (.int a2)] [.int x0] τ = Ru M_Rule_joined d Q 97 [some (.int a0), some (.int a1), some (.int a2)] [.int a1, .int x0] τ) ∧
    (∀ (a0 : Int32) (a1 : Int32) (a2 : Int32) (x0 : Int32) (x1 : Int32) (τ : St), Ru M_Rule_joined d Q 97 [some (.int a0), some (.int a1), some (.int a2)] [.int x0, .int x1] τ = ((x1 ≤ x0 → Ru M_Rule_joined d Q 104 [some (.int a0), some (.int a1), some (.int a2)] [] τ) ∧ (¬ x1 ≤ x0 → Ru M_Rule_joined d Q 100 [some (.int a0), some (.int a1), some (.int a2)] [] τ))) ∧
    (∀ (a0 : Int32) (a1 : Int32) (a2 : Int32) (τ : St), Ru M_Rule_joined d Q 100 [some (.int a0), some (.int a1), some (.int a2)] [] τ = Ru M_Rule_joined d Q 101 [some (.int a0), some (.int a1), some (.int a2)] [.int 1] τ) ∧
    (∀ (a0 : Int32) (a1 : Int32) (a2 : Int32) (x0 : Int32) (τ : St), Ru M_Rule_joined d Q 101 [some (.int a0), some (.int a1), some (.int a2)] [.int x0] τ = Ru M_Rule_joined d Q 105 [some (.int a0), some (.int a1), some (.int a2)] [.int x0] τ) ∧
    (∀ (a0 : Int32) (a1 : Int32) (a2 : Int32) (τ : St), Ru M_Rule_joined d Q 104 [some (.int a0), some (.int a1), some (.int a2)] [] τ = Ru M_Rule_joined d Q 105 [some (.int a0), some (.int a1), some (.int a2)] [.int 0] τ) ∧
    (∀ (a0 : Int32) (a1 : Int32) (a2 : Int32) (x0 : Int32) (τ : St), Ru M_Rule_joined d Q 105 [some (.int a0), some (.int a1), some (.int a2)] [.int x0] τ = Q (some (.int x0)) τ) ∧
    (∀ (a0 : Int32) (a1 : Int32) (a2 : Int32) (τ : St), Ru M_Rule_joined d Q 106 [some (.int a0), some (.int a1), some (.int a2)] [] τ = Ru M_Rule_joined d Q 107 [some (.int a0), some (.int a1), some (.int a2)] [.int a2] τ) ∧
    (∀ (a0 : Int32) (a1 : Int32) (a2 : Int32) (x0 : Int32) (τ : St), Ru M_Rule_joined d Q 107 [some (.int a0), some (.int a1), some (.int a2)] [.int x0] τ = Ru M_Rule_joined d Q 108 [some (.int a0), some (.int a1), some (.int a2)] [.int a1, .int x0] τ) ∧
    (∀ (a0 : Int32) (a1 : Int32) (a2 : Int32) (x0 : Int32) (x1 : Int32) (τ : St), Ru M_Rule_joined d Q 108 [some (.int a0), some (.int a1), some (.int a2)] [.int x0, .int x1] τ = ((¬ x1 = x0 → Ru M_Rule_joined d Q 115 [some (.int a0), some (.int a1), some (.int a2)] [] τ) ∧ (x1 = x0 → Ru M_Rule_joined d Q 111 [some (.int a0), some (.int a1), some (.int a2)] [] τ))) ∧
    (∀ (a0 : Int32) (a1 : Int32) (a2 : Int32) (τ : St), Ru M_Rule_joined d Q 111 [some (.int a0), some (.int a1), some (.int a2)] [] τ = Ru M_Rule_joined d Q 112 [some (.int a0), some (.int a1), some (.int a2)] [.int 1] τ) ∧
    (∀ (a0 : Int32) (a1 : Int32) (a2 : Int32) (x0 : Int32) (τ : St), Ru M_Rule_joined d Q 112 [some (.int a0), some (.int a1), some (.int a2)] [.int x0] τ = Ru M_Rule_joined d Q 116 [some (.int a0), some (.int a1), some (.int a2)] [.int x0] τ) ∧
    (∀ (a0 : Int32) (a1 : Int32) (a2 : Int32) (τ : St), Ru M_Rule_joined d Q 115 [some (.int a0), some (.int a1), some (.int a2)] [] τ = Ru M_Rule_joined d Q 116 [some (.int a0), some (.int a1), some (.int a2)] [.int 0] τ) ∧
    (∀ (a0 : Int32) (a1 : Int32) (a2 : Int32) (x0 : Int32) (τ : St), Ru M_Rule_joined d Q 116 [some (.int a0), some (.int a1), some (.int a2)] [.int x0] τ = Q (some (.int x0)) τ) := ⟨
  fun _ _ _ _ => (R_at ok_Rule_joined rfl).trans (e_ild rfl),
  fun _ _ _ _ _ => (R_at ok_Rule_joined rfl).trans e_sw,
  fun _ _ _ _ => (R_at ok_Rule_joined rfl).trans (e_ild rfl),
  fun _ _ _ _ _ => (R_at ok_Rule_joined rfl).trans (e_ild rfl),
  fun _ _ _ _ _ _ => (R_at ok_Rule_joined rfl).trans e_bin,
  fun _ _ _ _ _ => (R_at ok_Rule_joined rfl).trans e_iret,
  fun _ _ _ _ => (R_at ok_Rule_joined rfl).trans (e_ild rfl),
  fun _ _ _ _ _ => (R_at ok_Rule_joined rfl).trans (e_ild rfl),
  fun _ _ _ _ _ _ => (R_at ok_Rule_joined rfl).trans e_bin,
  fun _ _ _ _ _ => (R_at ok_Rule_joined rfl).trans e_iret,
  fun _ _ _ _ => (R_at ok_Rule_joined rfl).trans (e_ild rfl),
  fun _ _ _ _ _ => (R_at ok_Rule_joined rfl).trans (e_ild rfl),
  fun _ _ _ _ _ _ => (R_at ok_Rule_joined rfl).trans e_bin,
  fun _ _ _ _ _ => (R_at ok_Rule_joined rfl).trans e_iret,
  fun _ _ _ _ => (R_at ok_Rule_joined rfl).trans (e_ild rfl),
  fun _ _ _ _ _ => (R_at ok_Rule_joined rfl).trans e_ifn,
  fun _ _ _ _ => (R_at ok_Rule_joined rfl).trans e_push,
  fun _ _ _ _ _ => (R_at ok_Rule_joined rfl).trans e_goto,
  fun _ _ _ _ => (R_at ok_Rule_joined rfl).trans (e_ild rfl),
  fun _ _ _ _ _ => (R_at ok_Rule_joined rfl).trans (e_ild rfl),
  fun _ _ _ _ _ _ => (R_at ok_Rule_joined rfl).trans e_binz,
  fun _ _ _ _ _ => (R_at ok_Rule_joined rfl).trans e_iret,
  fun _ _ _ _ => (R_at ok_Rule_joined rfl).trans (e_ild rfl),
  fun _ _ _ _ _ => (R_at ok_Rule_joined rfl).trans (e_ild rfl),
  fun _ _ _ _ _ _ => (R_at ok_Rule_joined rfl).trans e_ic,
  fun _ _ _ _ => (R_at ok_Rule_joined rfl).trans e_push,
  fun _ _ _ _ _ => (R_at ok_Rule_joined rfl).trans e_goto,
  fun _ _ _ _ => (R_at ok_Rule_joined rfl).trans e_push,
  fun _ _ _ _ _ => (R_at ok_Rule_joined rfl).trans e_iret,
  fun _ _ _ _ => (R_at ok_Rule_joined rfl).trans (e_ild rfl),
  fun _ _ _ _ _ => (R_at ok_Rule_joined rfl).trans (e_ild rfl),
  fun _ _ _ _ _ _ => (R_at ok_Rule_joined rfl).trans e_ic,
  fun _ _ _ _ => (R_at ok_Rule_joined rfl).trans e_push,
  fun _ _ _ _ _ => (R_at ok_Rule_joined rfl).trans e_goto,
  fun _ _ _ _ => (R_at ok_Rule_joined rfl).trans e_push,
  fun _ _ _ _ _ => (R_at ok_Rule_joined rfl).trans e_iret,
  fun _ _ _ _ => (R_at ok_Rule_joined rfl).trans (e_ild rfl),
  fun _ _ _ _ _ => (R_at ok_Rule_joined rfl).trans (e_ild rfl),
  fun _ _ _ _ _ _ => (R_at ok_Rule_joined rfl).trans e_icn,
  fun _ _ _ _ => (R_at ok_Rule_joined rfl).trans e_push,
  fun _ _ _ _ _ => (R_at ok_Rule_joined rfl).trans e_goto,
  fun _ _ _ _ => (R_at ok_Rule_joined rfl).trans e_push,
  fun _ _ _ _ _ => (R_at ok_Rule_joined rfl).trans e_iret⟩
set_option maxHeartbeats 4000000 in
theorem N_Rule_push (d : Nat) (Q : Qt) : ∀ (x0 : Nat) (x1 : Int32) (τ : St), Cl (d + 1) m_Rule_push [.ref x0, .int x1] τ Q = Ru M_Rule_push d Q 0 [some (.ref x0), some (.int x1)] [] τ := fun _ _ _ => propext ⟨fun h => h.2, fun h => ⟨Nat.le_of_ble_eq_true rfl, h⟩⟩
set_option maxHeartbeats 4000000 in
theorem E_Rule_push (d : Nat) (Q : Qt) :
    (∀ (a0 : Nat) (a1 : Int32) (τ : St), Ru M_Rule_push d Q 0 [some (.ref a0), some (.int a1)] [] τ = Ru M_Rule_push d Q 1 [some (.ref a0), some (.int a1)] [.ref a0] τ) ∧
    (∀ (a0 : Nat) (a1 : Int32) (x0 : Nat) (τ : St), Ru M_Rule_push d Q 1 [some (.ref a0), some (.int a1)] [.ref x0] τ = (isA 5 x0 ∧ Ru M_Rule_push d Q 4 [some (.ref a0), some (.int a1)] [.int (τ.1 x0 3)] τ)) ∧
    (∀ (a0 : Nat) (a1 : Int32) (x0 : Int32) (τ : St), Ru M_Rule_push d Q 4 [some (.ref a0), some (.int a1)] [.int x0] τ = ((x0 < 0 → Ru M_Rule_push d Q 36 [some (.ref a0), some (.int a1)] [] τ) ∧ (¬ x0 < 0 → Ru M_Rule_push d Q 7 [some (.ref a0), some (.int a1)] [] τ))) ∧
    (∀ (a0 : Nat) (a1 : Int32) (τ : St), Ru M_Rule_push d Q 7 [some (.ref a0), some (.int a1)] [] τ = Ru M_Rule_push d Q 8 [some (.ref a0), some (.int a1)] [.ref a0] τ) ∧
    (∀ (a0 : Nat) (a1 : Int32) (x0 : Nat) (τ : St), Ru M_Rule_push d Q 8 [some (.ref a0), some (.int a1)] [.ref x0] τ = (isA 5 x0 ∧ Ru M_Rule_push d Q 11 [some (.ref a0), some (.int a1)] [.int (τ.1 x0 3)] τ)) ∧
    (∀ (a0 : Nat) (a1 : Int32) (x0 : Int32) (τ : St), Ru M_Rule_push d Q 11 [some (.ref a0), some (.int a1)] [.int x0] τ = Ru M_Rule_push d Q 13 [some (.ref a0), some (.int a1)] [.int 40, .int x0] τ) ∧
    (∀ (a0 : Nat) (a1 : Int32) (x0 : Int32) (x1 : Int32) (τ : St), Ru M_Rule_push d Q 13 [some (.ref a0), some (.int a1)] [.int x0, .int x1] τ = ((x0 ≤ x1 → Ru M_Rule_push d Q 36 [some (.ref a0), some (.int a1)] [] τ) ∧ (¬ x0 ≤ x1 → Ru M_Rule_push d Q 16 [some (.ref a0), some (.int a1)] [] τ))) ∧
    (∀ (a0 : Nat) (a1 : Int32) (τ : St), Ru M_Rule_push d Q 16 [some (.ref a0), some (.int a1)] [] τ = Ru M_Rule_push d Q 17 [some (.ref a0), some (.int a1)] [.ref a0] τ) ∧
    (∀ (a0 : Nat) (a1 : Int32) (x0 : Nat) (τ : St), Ru M_Rule_push d Q 17 [some (.ref a0), some (.int a1)] [.ref x0] τ = (isA 5 x0 ∧ Ru M_Rule_push d Q 20 [some (.ref a0), some (.int a1)] [.ref (rtab x0 2)] τ)) ∧
    (∀ (a0 : Nat) (a1 : Int32) (x0 : Nat) (τ : St), Ru M_Rule_push d Q 20 [some (.ref a0), some (.int a1)] [.ref x0] τ = Ru M_Rule_push d Q 21 [some (.ref a0), some (.int a1)] [.ref a0, .ref x0] τ) ∧
    (∀ (a0 : Nat) (a1 : Int32) (x0 : Nat) (x1 : Nat) (τ : St), Ru M_Rule_push d Q 21 [some (.ref a0), some (.int a1)] [.ref x0, .ref x1] τ = (isA 5 x0 ∧ Ru M_Rule_push d Q 24 [some (.ref a0), some (.int a1)] [.int (τ.1 x0 3), .ref x1] τ)) ∧
    (∀ (a0 : Nat) (a1 : Int32) (x0 : Int32) (x1 : Nat) (τ : St), Ru M_Rule_push d Q 24 [some (.ref a0), some (.int a1)] [.int x0, .ref x1] τ = Ru M_Rule_push d Q 25 [some (.ref a0), some (.int a1)] [.int a1, .int x0, .ref x1] τ) ∧
    (∀ (a0 : Nat) (a1 : Int32) (x0 : Int32) (x1 : Int32) (x2 : Nat) (τ : St), Ru M_Rule_push d Q 25 [some (.ref a0), some (.int a1)] [.int x0, .int x1, .ref x2] τ = (isA 14 x2 ∧ vp_in x1 (len x2) ∧ Ru M_Rule_push d Q 26 [some (.ref a0), some (.int a1)] [] (sI τ x2 x1.toNatClampNeg (x0)))) ∧
    (∀ (a0 : Nat) (a1 : Int32) (τ : St), Ru M_Rule_push d Q 26 [some (.ref a0), some (.int a1)] [] τ = Ru M_Rule_push d Q 27 [some (.ref a0), some (.int a1)] [.ref a0] τ) ∧
    (∀ (a0 : Nat) (a1 : Int32) (x0 : Nat) (τ : St), Ru M_Rule_push d Q 27 [some (.ref a0), some (.int a1)] [.ref x0] τ = Ru M_Rule_push d Q 28 [some (.ref a0), some (.int a1)] [.ref x0, .ref x0] τ) ∧
    (∀ (a0 : Nat) (a1 : Int32) (x0 : Nat) (x1 : Nat) (τ : St), Ru M_Rule_push d Q 28 [some (.ref a0), some (.int a1)] [.ref x0, .ref x1] τ = (isA 5 x0 ∧ Ru M_Rule_push d Q 31 [some (.ref a0), some (.int a1)] [.int (τ.1 x0 3), .ref x1] τ)) ∧
    (∀ (a0 : Nat) (a1 : Int32) (x0 : Int32) (x1 : Nat) (τ : St), Ru M_Rule_push d Q 31 [some (.ref a0), some (.int a1)] [.int x0, .ref x1] τ = Ru M_Rule_push d Q 32 [some (.ref a0), some (.int a1)] [.int 1, .int x0, .ref x1] τ) ∧
    (∀ (a0 : Nat) (a1 : Int32) (x0 : Int32) (x1 : Int32) (x2 : Nat) (τ : St), Ru M_Rule_push d Q 32 [some (.ref a0), some (.int a1)] [.int x0, .int x1, .ref x2] τ = Ru M_Rule_push d Q 33 [some (.ref a0), some (.int a1)] [.int (x1 + x0), .ref x2] τ) ∧
    (∀ (a0 : Nat) (a1 : Int32) (x0 : Int32) (x1 : Nat) (τ : St), Ru M_Rule_push d Q 33 [some (.ref a0), some (.int a1)] [.int x0, .ref x1] τ = (isA 5 x1 ∧ Ru M_Rule_push d Q 36 [some (.ref a0), some (.int a1)] [] (sI τ x1 3 x0))) ∧
    (∀ (a0 : Nat) (a1 : Int32) (τ : St), Ru M_Rule_push d Q 36 [some (.ref a0), some (.int a1)] [] τ = Q none τ) := ⟨
  fun _ _ _ => (R_at ok_Rule_push rfl).trans (e_ald rfl),
  fun _ _ _ _ => (R_at ok_Rule_push rfl).trans e_gI,
  fun _ _ _ _ => (R_at ok_Rule_push rfl).trans e_if,
  fun _ _ _ => (R_at ok_Rule_push rfl).trans (e_ald rfl),
  fun _ _ _ _ => (R_at ok_Rule_push rfl).trans e_gI,
  fun _ _ _ _ => (R_at ok_Rule_push rfl).trans e_push,
  fun _ _ _ _ _ => (R_at ok_Rule_push rfl).trans e_ic,
  fun _ _ _ => (R_at ok_Rule_push rfl).trans (e_ald rfl),
  fun _ _ _ _ => (R_at ok_Rule_push rfl).trans e_gR,
  fun _ _ _ _ => (R_at ok_Rule_push rfl).trans (e_ald rfl),
  fun _ _ _ _ _ => (R_at ok_Rule_push rfl).trans e_gI,
  fun _ _ _ _ _ => (R_at ok_Rule_push rfl).trans (e_ild rfl),
  fun _ _ _ _ _ _ => (R_at ok_Rule_push rfl).trans e_as,
  fun _ _ _ => (R_at ok_Rule_push rfl).trans (e_ald rfl),
  fun _ _ _ _ => (R_at ok_Rule_push rfl).trans (e_dup rfl),
  fun _ _ _ _ _ => (R_at ok_Rule_push rfl).trans e_gI,
  fun _ _ _ _ _ => (R_at ok_Rule_push rfl).trans e_push,
  fun _ _ _ _ _ _ => (R_at ok_Rule_push rfl).trans e_bin,
  fun _ _ _ _ _ => (R_at ok_Rule_push rfl).trans e_pI,
  fun _ _ _ => (R_at ok_Rule_push rfl).trans e_vret⟩
set_option maxHeartbeats 4000000 in
theorem N_Rule_pop (d : Nat) (Q : Qt) : ∀ (x0 : Nat) (τ : St), Cl (d + 1) m_Rule_pop [.ref x0] τ Q = Ru M_Rule_pop d Q 0 [some (.ref x0)] [] τ := fun _ _ => propext ⟨fun h => h.2, fun h => ⟨Nat.le_of_ble_eq_true rfl, h⟩⟩
set_option maxHeartbeats 4000000 in
theorem E_Rule_pop (d : Nat) (Q : Qt) :
    (∀ (a0 : Nat) (τ : St), Ru M_Rule_pop d Q 0 [some (.ref a0)] [] τ = Ru M_Rule_pop d Q 1 [some (.ref a0)] [.ref a0] τ) ∧
    (∀ (a0 : Nat) (x0 : Nat) (τ : St), Ru M_Rule_pop d Q 1 [some (.ref a0)] [.ref x0] τ = (isA 5 x0 ∧ Ru M_Rule_pop d Q 4 [some (.ref a0)] [.int (τ.1 x0 3)] τ)) ∧
    (∀ (a0 : Nat) (x0 : Int32) (τ : St), Ru M_Rule_pop d Q 4 [some (.ref a0)] [.int x0] τ = Ru M_Rule_pop d Q 5 [some (.ref a0)] [.int 1, .int x0] τ) ∧
    (∀ (a0 : Nat) (x0 : Int32) (x1 : Int32) (τ : St), Ru M_Rule_pop d Q 5 [some (.ref a0)] [.int x0, .int x1] τ = ((x1 < x0 → Ru M_Rule_pop d Q 17 [some (.ref a0)] [] τ) ∧ (¬ x1 < x0 → Ru M_Rule_pop d Q 8 [some (.ref a0)] [] τ))) ∧
    (∀ (a0 : Nat) (τ : St), Ru M_Rule_pop d Q 8 [some (.ref a0)] [] τ = Ru M_Rule_pop d Q 9 [some (.ref a0)] [.ref a0] τ) ∧
    (∀ (a0 : Nat) (x0 : Nat) (τ : St), Ru M_Rule_pop d Q 9 [some (.ref a0)] [.ref x0] τ = (isA 5 x0 ∧ Ru M_Rule_pop d Q 12 [some (.ref a0)] [.int (τ.1 x0 3)] τ)) ∧
    (∀ (a0 : Nat) (x0 : Int32) (τ : St), Ru M_Rule_pop d Q 12 [some (.ref a0)] [.int x0] τ = Ru M_Rule_pop d Q 14 [some (.ref a0)] [.int 40, .int x0] τ) ∧
    (∀ (a0 : Nat) (x0 : Int32) (x1 : Int32) (τ : St), Ru M_Rule_pop d Q 14 [some (.ref a0)] [.int x0, .int x1] τ = ((x1 ≤ x0 → Ru M_Rule_pop d Q 19 [some (.ref a0)] [] τ) ∧ (¬ x1 ≤ x0 → Ru M_Rule_pop d Q 17 [some (.ref a0)] [] τ))) ∧
    (∀ (a0 : Nat) (τ : St), Ru M_Rule_pop d Q 17 [some (.ref a0)] [] τ = Ru M_Rule_pop d Q 18 [some (.ref a0)] [.int 0] τ) ∧
    (∀ (a0 : Nat) (x0 : Int32) (τ : St), Ru M_Rule_pop d Q 18 [some (.ref a0)] [.int x0] τ = Q (some (.int x0)) τ) ∧
    (∀ (a0 : Nat) (τ : St), Ru M_Rule_pop d Q 19 [some (.ref a0)] [] τ = Ru M_Rule_pop d Q 20 [some (.ref a0)] [.ref a0] τ) ∧
    (∀ (a0 : Nat) (x0 : Nat) (τ : St), Ru M_Rule_pop d Q 20 [some (.ref a0)] [.ref x0] τ = Ru M_Rule_pop d Q 21 [some (.ref a0)] [.ref x0, .ref x0] τ) ∧
    (∀ (a0 : Nat) (x0 : Nat) (x1 : Nat) (τ : St), Ru M_Rule_pop d Q 21 [some (.ref a0)] [.ref x0, .ref x1] τ = (isA 5 x0 ∧ Ru M_Rule_pop d Q 24 [some (.ref a0)] [.int (τ.1 x0 3), .ref x1] τ)) ∧
    (∀ (a0 : Nat) (x0 : Int32) (x1 : Nat) (τ : St), Ru M_Rule_pop d Q 24 [some (.ref a0)] [.int x0, .ref x1] τ = Ru M_Rule_pop d Q 25 [some (.ref a0)] [.int 1, .int x0, .ref x1] τ) ∧
    (∀ (a0 : Nat) (x0 : Int32) (x1 : Int32) (x2 : Nat) (τ : St), Ru M_Rule_pop d Q 25 [some (.ref a0)] [.int x0, .int x1, .ref x2] τ = Ru M_Rule_pop d Q 26 [some (.ref a0)] [.int (x1 - x0), .ref x2] τ) ∧
    (∀ (a0 : Nat) (x0 : Int32) (x1 : Nat) (τ : St), Ru M_Rule_pop d Q 26 [some (.ref a0)] [.int x0, .ref x1] τ = (isA 5 x1 ∧ Ru M_Rule_pop d Q 29 [some (.ref a0)] [] (sI τ x1 3 x0))) ∧
    (∀ (a0 : Nat) (τ : St), Ru M_Rule_pop d Q 29 [some (.ref a0)] [] τ = Ru M_Rule_pop d Q 30 [some (.ref a0)] [.ref a0] τ) ∧
    (∀ (a0 : Nat) (x0 : Nat) (τ : St), Ru M_Rule_pop d Q 30 [some (.ref a0)] [.ref x0] τ = (isA 5 x0 ∧ Ru M_Rule_pop d Q 33 [some (.ref a0)] [.ref (rtab x0 2)] τ)) ∧
    (∀ (a0 : Nat) (x0 : Nat) (τ : St), Ru M_Rule_pop d Q 33 [some (.ref a0)] [.ref x0] τ = Ru M_Rule_pop d Q 34 [some (.ref a0)] [.ref a0, .ref x0] τ) ∧
    (∀ (a0 : Nat) (x0 : Nat) (x1 : Nat) (τ : St), Ru M_Rule_pop d Q 34 [some (.ref a0)] [.ref x0, .ref x1] τ = (isA 5 x0 ∧ Ru M_Rule_pop d Q 37 [some (.ref a0)] [.int (τ.1 x0 3), .ref x1] τ)) ∧
    (∀ (a0 : Nat) (x0 : Int32) (x1 : Nat) (τ : St), Ru M_Rule_pop d Q 37 [some (.ref a0)] [.int x0, .ref x1] τ = (isA 14 x1 ∧ vp_in x0 (len x1) ∧ Ru M_Rule_pop d Q 38 [some (.ref a0)] [.int (τ.1 x1 x0.toNatClampNeg)] τ)) ∧
    (∀ (a0 : Nat) (x0 : Int32) (τ : St), Ru M_Rule_pop d Q 38 [some (.ref a0)] [.int x0] τ = Q (some (.int x0)) τ) := ⟨
  fun _ _ => (R_at ok_Rule_pop rfl).trans (e_ald rfl),
  fun _ _ _ => (R_at ok_Rule_pop rfl).trans e_gI,
  fun _ _ _ => (R_at ok_Rule_pop rfl).trans e_push,
  fun _ _ _ _ => (R_at ok_Rule_pop rfl).trans e_ic,
  fun _ _ => (R_at ok_Rule_pop rfl).trans (e_ald rfl),
  fun _ _ _ => (R_at ok_Rule_pop rfl).trans e_gI,
  fun _ _ _ => (R_at ok_Rule_pop rfl).trans e_push,
  fun _ _ _ _ => (R_at ok_Rule_pop rfl).trans e_ic,
  fun _ _ => (R_at ok_Rule_pop rfl).trans e_push,
  fun _ _ _ => (R_at ok_Rule_pop rfl).trans e_iret,
  fun _ _ => (R_at ok_Rule_pop rfl).trans (e_ald rfl),
  fun _ _ _ => (R_at ok_Rule_pop rfl).trans (e_dup rfl),
  fun _ _ _ _ => (R_at ok_Rule_pop rfl).trans e_gI,
  fun _ _ _ _ => (R_at ok_Rule_pop rfl).trans e_push,
  fun _ _ _ _ _ => (R_at ok_Rule_pop rfl).trans e_bin,
  fun _ _ _ _ => (R_at ok_Rule_pop rfl).trans e_pI,
  fun _ _ => (R_at ok_Rule_pop rfl).trans (e_ald rfl),
  fun _ _ _ => (R_at ok_Rule_pop rfl).trans e_gR,
  fun _ _ _ => (R_at ok_Rule_pop rfl).trans (e_ald rfl),
  fun _ _ _ _ => (R_at ok_Rule_pop rfl).trans e_gI,
  fun _ _ _ _ => (R_at ok_Rule_pop rfl).trans e_al,
  fun _ _ _ => (R_at ok_Rule_pop rfl).trans e_iret⟩
set_option maxHeartbeats 4000000 in
theorem N_Text_takeFour (d : Nat) (Q : Qt) : ∀ (x0 : Nat) (x1 : Int32) (τ : St), Cl (d + 1) m_Text_takeFour [.ref x0, .int x1] τ Q = Ru M_Text_takeFour d Q 0 [some (.ref x0), some (.int x1), none] [] τ := fun _ _ _ => propext ⟨fun h => h.2, fun h => ⟨Nat.le_of_ble_eq_true rfl, h⟩⟩
set_option maxHeartbeats 4000000 in
theorem E_Text_takeFour (d : Nat) (Q : Qt) :
    (∀ (a0 : Nat) (a1 : Int32) (τ : St), Ru M_Text_takeFour d Q 0 [some (.ref a0), some (.int a1), none] [] τ = Ru M_Text_takeFour d Q 1 [some (.ref a0), some (.int a1), none] [.ref a0] τ) ∧
    (∀ (a0 : Nat) (a1 : Int32) (x0 : Nat) (τ : St), Ru M_Text_takeFour d Q 1 [some (.ref a0), some (.int a1), none] [.ref x0] τ = (isA 6 x0 ∧ Ru M_Text_takeFour d Q 4 [some (.ref a0), some (.int a1), none] [.int (τ.1 x0 1)] τ)) ∧
    (∀ (a0 : Nat) (a1 : Int32) (x0 : Int32) (τ : St), Ru M_Text_takeFour d Q 4 [some (.ref a0), some (.int a1), none] [.int x0] τ = ((x0 < 0 → Ru M_Text_takeFour d Q 16 [some (.ref a0), some (.int a1), none] [] τ) ∧ (¬ x0 < 0 → Ru M_Text_takeFour d Q 7 [some (.ref a0), some (.int a1), none] [] τ))) ∧
    (∀ (a0 : Nat) (a1 : Int32) (τ : St), Ru M_Text_takeFour d Q 7 [some (.ref a0), some (.int a1), none] [] τ = Ru M_Text_takeFour d Q 8 [some (.ref a0), some (.int a1), none] [.ref a0] τ) ∧
    (∀ (a0 : Nat) (a1 : Int32) (x0 : Nat) (τ : St), Ru M_Text_takeFour d Q 8 [some (.ref a0), some (.int a1), none] [.ref x0] τ = (isA 6 x0 ∧ Ru M_Text_takeFour d Q 11 [some (.ref a0), some (.int a1), none] [.int (τ.1 x0 1)] τ)) ∧
    (∀ (a0 : Nat) (a1 : Int32) (x0 : Int32) (τ : St), Ru M_Text_takeFour d Q 11 [some (.ref a0), some (.int a1), none] [.int x0] τ = Ru M_Text_takeFour d Q 13 [some (.ref a0), some (.int a1), none] [.int 76, .int x0] τ) ∧
    (∀ (a0 : Nat) (a1 : Int32) (x0 : Int32) (x1 : Int32) (τ : St), Ru M_Text_takeFour d Q 13 [some (.ref a0), some (.int a1), none] [.int x0, .int x1] τ = ((x1 ≤ x0 → Ru M_Text_takeFour d Q 18 [some (.ref a0), some (.int a1), none] [] τ) ∧ (¬ x1 ≤ x0 → Ru M_Text_takeFour d Q 16 [some (.ref a0), some (.int a1), none] [] τ))) ∧
    (∀ (a0 : Nat) (a1 : Int32) (τ : St), Ru M_Text_takeFour d Q 16 [some (.ref a0), some (.int a1), none] [] τ = Ru M_Text_takeFour d Q 17 [some (.ref a0), some (.int a1), none] [.int 0] τ) ∧
    (∀ (a0 : Nat) (a1 : Int32) (x0 : Int32) (τ : St), Ru M_Text_takeFour d Q 17 [some (.ref a0), some (.int a1), none] [.int x0] τ = ((x0 = 0 ∨ x0 = 1) ∧ Q (some (.int x0)) τ)) ∧
    (∀ (a0 : Nat) (a1 : Int32) (τ : St), Ru M_Text_takeFour d Q 18 [some (.ref a0), some (.int a1), none] [] τ = Ru M_Text_takeFour d Q 19 [some (.ref a0), some (.int a1), none] [.int 0] τ) ∧
    (∀ (a0 : Nat) (a1 : Int32) (x0 : Int32) (τ : St), Ru M_Text_takeFour d Q 19 [some (.ref a0), some (.int a1), none] [.int x0] τ = Rs M_Text_takeFour d Q 20 [some (.ref a0), some (.int a1), some (.int x0)] [] τ) ∧
    (∀ (a0 : Nat) (a1 : Int32) (a2 : Int32) (τ : St), Ru M_Text_takeFour d Q 20 [some (.ref a0), some (.int a1), some (.int a2)] [] τ = Ru M_Text_takeFour d Q 21 [some (.ref a0), some (.int a1), some (.int a2)] [.int a2] τ) ∧
    (∀ (a0 : Nat) (a1 : Int32) (a2 : Int32) (x0 : Int32) (τ : St), Ru M_Text_takeFour d Q 21 [some (.ref a0), some (.int a1), some (.int a2)] [.int x0] τ = Ru M_Text_takeFour d Q 22 [some (.ref a0), some (.int a1), some (.int a2)] [.int 4, .int x0] τ) ∧
    (∀ (a0 : Nat) (a1 : Int32) (a2 : Int32) (x0 : Int32) (x1 : Int32) (τ : St), Ru M_Text_takeFour d Q 22 [some (.ref a0), some (.int a1), some (.int a2)] [.int x0, .int x1] τ = ((x0 ≤ x1 → Ru M_Text_takeFour d Q 56 [some (.ref a0), some (.int a1), some (.int a2)] [] τ) ∧ (¬ x0 ≤ x1 → Ru M_Text_takeFour d Q 25 [some (.ref a0), some (.int a1), some (.int a2)] [] τ))) ∧
    (∀ (a0 : Nat) (a1 : Int32) (a2 : Int32) (τ : St), Ru M_Text_takeFour d Q 25 [some (.ref a0), some (.int a1), some (.int a2)] [] τ = Ru M_Text_takeFour d Q 26 [some (.ref a0), some (.int a1), some (.int a2)] [.ref a0] τ) ∧
    (∀ (a0 : Nat) (a1 : Int32) (a2 : Int32) (x0 : Nat) (τ : St), Ru M_Text_takeFour d Q 26 [some (.ref a0), some (.int a1), some (.int a2)] [.ref x0] τ = (isA 6 x0 ∧ Ru M_Text_takeFour d Q 29 [some (.ref a0), some (.int a1), some (.int a2)] [.ref (rtab x0 0)] τ)) ∧
    (∀ (a0 : Nat) (a1 : Int32) (a2 : Int32) (x0 : Nat) (τ : St), Ru M_Text_takeFour d Q 29 [some (.ref a0), some (.int a1), some (.int a2)] [.ref x0] τ = Ru M_Text_takeFour d Q 30 [some (.ref a0), some (.int a1), some (.int a2)] [.ref a0, .ref x0] τ) ∧
    (∀ (a0 : Nat) (a1 : Int32) (a2 : Int32) (x0 : Nat) (x1 : Nat) (τ : St), Ru M_Text_takeFour d Q 30 [some (.ref a0), some (.int a1), some (.int a2)] [.ref x0, .ref x1] τ = (isA 6 x0 ∧ Ru M_Text_takeFour d Q 33 [some (.ref a0), some (.int a1), some (.int a2)] [.int (τ.1 x0 1), .ref x1] τ)) ∧
    (∀ (a0 : Nat) (a1 : Int32) (a2 : Int32) (x0 : Int32) (x1 : Nat) (τ : St), Ru M_Text_takeFour d Q 33 [some (.ref a0), some (.int a1), some (.int a2)] [.int x0, .ref x1] τ = Ru M_Text_takeFour d Q 34 [some (.ref a0), some (.int a1), some (.int a2)] [.int a2, .int x0, .ref x1] τ) ∧
    (∀ (a0 : Nat) (a1 : Int32) (a2 : Int32) (x0 : Int32) (x1 : Int32) (x2 : Nat) (τ : St), Ru M_Text_takeFour d Q 34 [some (.ref a0), some (.int a1), some (.int a2)] [.int x0, .int x1, .ref x2] τ = Ru M_Text_takeFour d Q 35 [some (.ref a0), some (.int a1), some (.int a2)] [.int (x1 + x0), .ref x2] τ) ∧
    (∀ (a0 : Nat) (a1 : Int32) (a2 : Int32) (x0 : Int32) (x1 : Nat) (τ : St), Ru M_Text_takeFour d Q 35 [some (.ref a0), some (.int a1), some (.int a2)] [.int x0, .ref x1] τ = Ru M_Text_takeFour d Q 36 [some (.ref a0), some (.int a1), some (.int a2)] [.int a1, .int x0, .ref x1] τ) ∧
    (∀ (a0 : Nat) (a1 : Int32) (a2 : Int32) (x0 : Int32) (x1 : Int32) (x2 : Nat) (τ : St), Ru M_Text_takeFour d Q 36 [some (.ref a0), some (.int a1), some (.int a2)] [.int x0, .int x1, .ref x2] τ = Ru M_Text_takeFour d Q 38 [some (.ref a0), some (.int a1), some (.int a2)] [.int 24, .int x0, .int x1, .ref x2] τ) ∧
    (∀ (a0 : Nat) (a1 : Int32) (a2 : Int32) (x0 : Int32) (x1 : Int32) (x2 : Int32) (x3 : Nat) (τ : St), Ru M_Text_takeFour d Q 38 [some (.ref a0), some (.int a1), some (.int a2)] [.int x0, .int x1, .int x2, .ref x3] τ = Ru M_Text_takeFour d Q 40 [some (.ref a0), some (.int a1), some (.int a2)] [.int 8, .int x0, .int x1, .int x2, .ref x3] τ) ∧
    (∀ (a0 : Nat) (a1 : Int32) (a2 : Int32) (x0 : Int32) (x1 : Int32) (x2 : Int32) (x3 : Int32) (x4 : Nat) (τ : St), Ru M_Text_takeFour d Q 40 [some (.ref a0), some (.int a1), some (.int a2)] [.int x0, .int x1, .int x2, .int x3, .ref x4] τ = Ru M_Text_takeFour d Q 41 [some (.ref a0), some (.int a1), some (.int a2)] [.int a2, .int x0, .int x1, .int x2, .int x3, .ref x4] τ) ∧
    (∀ (a0 : Nat) (a1 : Int32) (a2 : Int32) (x0 : Int32) (x1 : Int32) (x2 : Int32) (x3 : Int32) (x4 : Int32) (x5 : Nat) (τ : St), Ru M_Text_takeFour d Q 41 [some (.ref a0), some (.int a1), some (.int a2)] [.int x0, .int x1, .int x2, .int x3, .int x4, .ref x5] τ = Ru M_Text_takeFour d Q 42 [some (.ref a0), some (.int a1), some (.int a2)] [.int (x1 * x0), .int x2, .int x3, .int x4, .ref x5] τ) ∧
    (∀ (a0 : Nat) (a1 : Int32) (a2 : Int32) (x0 : Int32) (x1 : Int32) (x2 : Int32) (x3 : Int32) (x4 : Nat) (τ : St), Ru M_Text_takeFour d Q 42 [some (.ref a0), some (.int a1), some (.int a2)] [.int x0, .int x1, .int x2, .int x3, .ref x4] τ = Ru M_Text_takeFour d Q 43 [some (.ref a0), some (.int a1), some (.int a2)] [.int (x1 - x0), .int x2, .int x3, .ref x4] τ) ∧
    (∀ (a0 : Nat) (a1 : Int32) (a2 : Int32) (x0 : Int32) (x1 : Int32) (x2 : Int32) (x3 : Nat) (τ : St), Ru M_Text_takeFour d Q 43 [some (.ref a0), some (.int a1), some (.int a2)] [.int x0, .int x1, .int x2, .ref x3] τ = Ru M_Text_takeFour d Q 44 [some (.ref a0), some (.int a1), some (.int a2)] [.int ((x1.toUInt32 >>> (x0.toUInt32 &&& Int32.toUInt32 31)).toInt32), .int x2, .ref x3] τ) ∧
    (∀ (a0 : Nat) (a1 : Int32) (a2 : Int32) (x0 : Int32) (x1 : Int32) (x2 : Nat) (τ : St), Ru M_Text_takeFour d Q 44 [some (.ref a0), some (.int a1), some (.int a2)] [.int x0, .int x1, .ref x2] τ = Ru M_Text_takeFour d Q 47 [some (.ref a0), some (.int a1), some (.int a2)] [.int 255, .int x0, .int x1, .ref x2] τ) ∧
    (∀ (a0 : Nat) (a1 : Int32) (a2 : Int32) (x0 : Int32) (x1 : Int32) (x2 : Int32) (x3 : Nat) (τ : St), Ru M_Text_takeFour d Q 47 [some (.ref a0), some (.int a1), some (.int a2)] [.int x0, .int x1, .int x2, .ref x3] τ = Ru M_Text_takeFour d Q 48 [some (.ref a0), some (.int a1), some (.int a2)] [.int (x1 &&& x0), .int x2, .ref x3] τ) ∧
    (∀ (a0 : Nat) (a1 : Int32) (a2 : Int32) (x0 : Int32) (x1 : Int32) (x2 : Nat) (τ : St), Ru M_Text_takeFour d Q 48 [some (.ref a0), some (.int a1), some (.int a2)] [.int x0, .int x1, .ref x2] τ = Ru M_Text_takeFour d Q 49 [some (.ref a0), some (.int a1), some (.int a2)] [.int ((x0.toUInt32 % 65536).toInt32), .int x1, .ref x2] τ) ∧
    (∀ (a0 : Nat) (a1 : Int32) (a2 : Int32) (x0 : Int32) (x1 : Int32) (x2 : Nat) (τ : St), Ru M_Text_takeFour d Q 49 [some (.ref a0), some (.int a1), some (.int a2)] [.int x0, .int x1, .ref x2] τ = (isA 13 x2 ∧ vp_in x1 (len x2) ∧ Ru M_Text_takeFour d Q 50 [some (.ref a0), some (.int a1), some (.int a2)] [] (sI τ x2 x1.toNatClampNeg (vp_nar .char x0)))) ∧
    (∀ (a0 : Nat) (a1 : Int32) (a2 : Int32) (τ : St), Ru M_Text_takeFour d Q 50 [some (.ref a0), some (.int a1), some (.int a2)] [] τ = Ru M_Text_takeFour d Q 53 [some (.ref a0), some (.int a1), some (.int (a2 + 1))] [] τ) ∧
    (∀ (a0 : Nat) (a1 : Int32) (a2 : Int32) (τ : St), Ru M_Text_takeFour d Q 53 [some (.ref a0), some (.int a1), some (.int a2)] [] τ = Rs M_Text_takeFour d Q 20 [some (.ref a0), some (.int a1), some (.int a2)] [] τ) ∧
    (∀ (a0 : Nat) (a1 : Int32) (a2 : Int32) (τ : St), Ru M_Text_takeFour d Q 56 [some (.ref a0), some (.int a1), some (.int a2)] [] τ = Ru M_Text_takeFour d Q 57 [some (.ref a0), some (.int a1), some (.int a2)] [.ref a0] τ) ∧
    (∀ (a0 : Nat) (a1 : Int32) (a2 : Int32) (x0 : Nat) (τ : St), Ru M_Text_takeFour d Q 57 [some (.ref a0), some (.int a1), some (.int a2)] [.ref x0] τ = Ru M_Text_takeFour d Q 58 [some (.ref a0), some (.int a1), some (.int a2)] [.ref x0, .ref x0] τ) ∧
    (∀ (a0 : Nat) (a1 : Int32) (a2 : Int32) (x0 : Nat) (x1 : Nat) (τ : St), Ru M_Text_takeFour d Q 58 [some (.ref a0), some (.int a1), some (.int a2)] [.ref x0, .ref x1] τ = (isA 6 x0 ∧ Ru M_Text_takeFour d Q 61 [some (.ref a0), some (.int a1), some (.int a2)] [.int (τ.1 x0 1), .ref x1] τ)) ∧
    (∀ (a0 : Nat) (a1 : Int32) (a2 : Int32) (x0 : Int32) (x1 : Nat) (τ : St), Ru M_Text_takeFour d Q 61 [some (.ref a0), some (.int a1), some (.int a2)] [.int x0, .ref x1] τ = Ru M_Text_takeFour d Q 62 [some (.ref a0), some (.int a1), some (.int a2)] [.int 4, .int x0, .ref x1] τ) ∧
    (∀ (a0 : Nat) (a1 : Int32) (a2 : Int32) (x0 : Int32) (x1 : Int32) (x2 : Nat) (τ : St), Ru M_Text_takeFour d Q 62 [some (.ref a0), some (.int a1), some (.int a2)] [.int x0, .int x1, .ref x2] τ = Ru M_Text_takeFour d Q 63 [some (.ref a0), some (.int a1), some (.int a2)] [.int (x1 + x0), .ref x2] τ) ∧
    (∀ (a0 : Nat) (a1 : Int32) (a2 : Int32) (x0 : Int32) (x1 : Nat) (τ : St), Ru M_Text_takeFour d Q 63 [some (.ref a0), some (.int a1), some (.int a2)] [.int x0, .ref x1] τ = (isA 6 x1 ∧ Ru M_Text_takeFour d Q 66 [some (.ref a0), some (.int a1), some (.int a2)] [] (sI τ x1 1 x0))) ∧
    (∀ (a0 : Nat) (a1 : Int32) (a2 : Int32) (τ : St), Ru M_Text_takeFour d Q 66 [some (.ref a0), some (.int a1), some (.int a2)] [] τ = Ru M_Text_takeFour d Q 67 [some (.ref a0), some (.int a1), some (.int a2)] [.int 1] τ) ∧
    (∀ (a0 : Nat) (a1 : Int32) (a2 : Int32) (x0 : Int32) (τ : St), Ru M_Text_takeFour d Q 67 [some (.ref a0), some (.int a1), some (.int a2)] [.int x0] τ = ((x0 = 0 ∨ x0 = 1) ∧ Q (some (.int x0)) τ)) := ⟨
  fun _ _ _ => (R_at ok_Text_takeFour rfl).trans (e_ald rfl),
  fun _ _ _ _ => (R_at ok_Text_takeFour rfl).trans e_gI,
  fun _ _ _ _ => (R_at ok_Text_takeFour rfl).trans e_if,
  fun _ _ _ => (R_at ok_Text_takeFour rfl).trans (e_ald rfl),
  fun _ _ _ _ => (R_at ok_Text_takeFour rfl).trans e_gI,
  fun _ _ _ _ => (R_at ok_Text_takeFour rfl).trans e_push,
  fun _ _ _ _ _ => (R_at ok_Text_takeFour rfl).trans e_ic,
  fun _ _ _ => (R_at ok_Text_takeFour rfl).trans e_push,
  fun _ _ _ _ => (R_at ok_Text_takeFour rfl).trans e_zret,
  fun _ _ _ => (R_at ok_Text_takeFour rfl).trans e_push,
  fun _ _ _ _ => (R_at ok_Text_takeFour rfl).trans e_ist,
  fun _ _ _ _ => (R_at ok_Text_takeFour rfl).trans (e_ild rfl),
  fun _ _ _ _ _ => (R_at ok_Text_takeFour rfl).trans e_push,
  fun _ _ _ _ _ _ => (R_at ok_Text_takeFour rfl).trans e_ic,
  fun _ _ _ _ => (R_at ok_Text_takeFour rfl).trans (e_ald rfl),
  fun _ _ _ _ _ => (R_at ok_Text_takeFour rfl).trans e_gR,
  fun _ _ _ _ _ => (R_at ok_Text_takeFour rfl).trans (e_ald rfl),
  fun _ _ _ _ _ _ => (R_at ok_Text_takeFour rfl).trans e_gI,
  fun _ _ _ _ _ _ => (R_at ok_Text_takeFour rfl).trans (e_ild rfl),
  fun _ _ _ _ _ _ _ => (R_at ok_Text_takeFour rfl).trans e_bin,
  fun _ _ _ _ _ _ => (R_at ok_Text_takeFour rfl).trans (e_ild rfl),
  fun _ _ _ _ _ _ _ => (R_at ok_Text_takeFour rfl).trans e_push,
  fun _ _ _ _ _ _ _ _ => (R_at ok_Text_takeFour rfl).trans e_push,
  fun _ _ _ _ _ _ _ _ _ => (R_at ok_Text_takeFour rfl).trans (e_ild rfl),
  fun _ _ _ _ _ _ _ _ _ _ => (R_at ok_Text_takeFour rfl).trans e_bin,
  fun _ _ _ _ _ _ _ _ _ => (R_at ok_Text_takeFour rfl).trans e_bin,
  fun _ _ _ _ _ _ _ _ => (R_at ok_Text_takeFour rfl).trans e_bin,
  fun _ _ _ _ _ _ _ => (R_at ok_Text_takeFour rfl).trans e_push,
  fun _ _ _ _ _ _ _ _ => (R_at ok_Text_takeFour rfl).trans e_bin,
  fun _ _ _ _ _ _ _ => (R_at ok_Text_takeFour rfl).trans e_un,
  fun _ _ _ _ _ _ _ => (R_at ok_Text_takeFour rfl).trans e_as,
  fun _ _ _ _ => (R_at ok_Text_takeFour rfl).trans (e_iinc rfl),
  fun _ _ _ _ => (R_at ok_Text_takeFour rfl).trans e_goto,
  fun _ _ _ _ => (R_at ok_Text_takeFour rfl).trans (e_ald rfl),
  fun _ _ _ _ _ => (R_at ok_Text_takeFour rfl).trans (e_dup rfl),
  fun _ _ _ _ _ _ => (R_at ok_Text_takeFour rfl).trans e_gI,
  fun _ _ _ _ _ _ => (R_at ok_Text_takeFour rfl).trans e_push,
  fun _ _ _ _ _ _ _ => (R_at ok_Text_takeFour rfl).trans e_bin,
  fun _ _ _ _ _ _ => (R_at ok_Text_takeFour rfl).trans e_pI,
  fun _ _ _ _ => (R_at ok_Text_takeFour rfl).trans e_push,
  fun _ _ _ _ _ => (R_at ok_Text_takeFour rfl).trans e_zret⟩
set_option maxHeartbeats 4000000 in
theorem N_Text_cutTo (d : Nat) (Q : Qt) : ∀ (x0 : Nat) (x1 : Int32) (τ : St), Cl (d + 1) m_Text_cutTo [.ref x0, .int x1] τ Q = Ru M_Text_cutTo d Q 0 [some (.ref x0), some (.int x1)] [] τ := fun _ _ _ => propext ⟨fun h => h.2, fun h => ⟨Nat.le_of_ble_eq_true rfl, h⟩⟩
set_option maxHeartbeats 4000000 in
theorem E_Text_cutTo (d : Nat) (Q : Qt) :
    (∀ (a0 : Nat) (a1 : Int32) (τ : St), Ru M_Text_cutTo d Q 0 [some (.ref a0), some (.int a1)] [] τ = Ru M_Text_cutTo d Q 1 [some (.ref a0), some (.int a1)] [.int a1] τ) ∧
    (∀ (a0 : Nat) (a1 : Int32) (x0 : Int32) (τ : St), Ru M_Text_cutTo d Q 1 [some (.ref a0), some (.int a1)] [.int x0] τ = ((x0 < 0 → Ru M_Text_cutTo d Q 12 [some (.ref a0), some (.int a1)] [] τ) ∧ (¬ x0 < 0 → Ru M_Text_cutTo d Q 4 [some (.ref a0), some (.int a1)] [] τ))) ∧
    (∀ (a0 : Nat) (a1 : Int32) (τ : St), Ru M_Text_cutTo d Q 4 [some (.ref a0), some (.int a1)] [] τ = Ru M_Text_cutTo d Q 5 [some (.ref a0), some (.int a1)] [.int a1] τ) ∧
    (∀ (a0 : Nat) (a1 : Int32) (x0 : Int32) (τ : St), Ru M_Text_cutTo d Q 5 [some (.ref a0), some (.int a1)] [.int x0] τ = Ru M_Text_cutTo d Q 6 [some (.ref a0), some (.int a1)] [.ref a0, .int x0] τ) ∧
    (∀ (a0 : Nat) (a1 : Int32) (x0 : Nat) (x1 : Int32) (τ : St), Ru M_Text_cutTo d Q 6 [some (.ref a0), some (.int a1)] [.ref x0, .int x1] τ = (isA 6 x0 ∧ Ru M_Text_cutTo d Q 9 [some (.ref a0), some (.int a1)] [.int (τ.1 x0 1), .int x1] τ)) ∧
    (∀ (a0 : Nat) (a1 : Int32) (x0 : Int32) (x1 : Int32) (τ : St), Ru M_Text_cutTo d Q 9 [some (.ref a0), some (.int a1)] [.int x0, .int x1] τ = ((x1 ≤ x0 → Ru M_Text_cutTo d Q 14 [some (.ref a0), some (.int a1)] [] τ) ∧ (¬ x1 ≤ x0 → Ru M_Text_cutTo d Q 12 [some (.ref a0), some (.int a1)] [] τ))) ∧
    (∀ (a0 : Nat) (a1 : Int32) (τ : St), Ru M_Text_cutTo d Q 12 [some (.ref a0), some (.int a1)] [] τ = Ru M_Text_cutTo d Q 13 [some (.ref a0), some (.int a1)] [.int 0] τ) ∧
    (∀ (a0 : Nat) (a1 : Int32) (x0 : Int32) (τ : St), Ru M_Text_cutTo d Q 13 [some (.ref a0), some (.int a1)] [.int x0] τ = ((x0 = 0 ∨ x0 = 1) ∧ Q (some (.int x0)) τ)) ∧
    (∀ (a0 : Nat) (a1 : Int32) (τ : St), Ru M_Text_cutTo d Q 14 [some (.ref a0), some (.int a1)] [] τ = Ru M_Text_cutTo d Q 15 [some (.ref a0), some (.int a1)] [.ref a0] τ) ∧
    (∀ (a0 : Nat) (a1 : Int32) (x0 : Nat) (τ : St), Ru M_Text_cutTo d Q 15 [some (.ref a0), some (.int a1)] [.ref x0] τ = Ru M_Text_cutTo d Q 16 [some (.ref a0), some (.int a1)] [.int a1, .ref x0] τ) ∧
    (∀ (a0 : Nat) (a1 : Int32) (x0 : Int32) (x1 : Nat) (τ : St), Ru M_Text_cutTo d Q 16 [some (.ref a0), some (.int a1)] [.int x0, .ref x1] τ = (isA 6 x1 ∧ Ru M_Text_cutTo d Q 19 [some (.ref a0), some (.int a1)] [] (sI τ x1 1 x0))) ∧
    (∀ (a0 : Nat) (a1 : Int32) (τ : St), Ru M_Text_cutTo d Q 19 [some (.ref a0), some (.int a1)] [] τ = Ru M_Text_cutTo d Q 20 [some (.ref a0), some (.int a1)] [.int 1] τ) ∧
    (∀ (a0 : Nat) (a1 : Int32) (x0 : Int32) (τ : St), Ru M_Text_cutTo d Q 20 [some (.ref a0), some (.int a1)] [.int x0] τ = ((x0 = 0 ∨ x0 = 1) ∧ Q (some (.int x0)) τ)) := ⟨
  fun _ _ _ => (R_at ok_Text_cutTo rfl).trans (e_ild rfl),
  fun _ _ _ _ => (R_at ok_Text_cutTo rfl).trans e_if,
  fun _ _ _ => (R_at ok_Text_cutTo rfl).trans (e_ild rfl),
  fun _ _ _ _ => (R_at ok_Text_cutTo rfl).trans (e_ald rfl),
  fun _ _ _ _ _ => (R_at ok_Text_cutTo rfl).trans e_gI,
  fun _ _ _ _ _ => (R_at ok_Text_cutTo rfl).trans e_ic,
  fun _ _ _ => (R_at ok_Text_cutTo rfl).trans e_push,
  fun _ _ _ _ => (R_at ok_Text_cutTo rfl).trans e_zret,
  fun _ _ _ => (R_at ok_Text_cutTo rfl).trans (e_ald rfl),
  fun _ _ _ _ => (R_at ok_Text_cutTo rfl).trans (e_ild rfl),
  fun _ _ _ _ _ => (R_at ok_Text_cutTo rfl).trans e_pI,
  fun _ _ _ => (R_at ok_Text_cutTo rfl).trans e_push,
  fun _ _ _ _ => (R_at ok_Text_cutTo rfl).trans e_zret⟩
set_option maxHeartbeats 4000000 in
theorem N_Text_empty (d : Nat) (Q : Qt) : ∀ (x0 : Nat) (τ : St), Cl (d + 1) m_Text_empty [.ref x0] τ Q = Ru M_Text_empty d Q 0 [some (.ref x0)] [] τ := fun _ _ => propext ⟨fun h => h.2, fun h => ⟨Nat.le_of_ble_eq_true rfl, h⟩⟩
set_option maxHeartbeats 4000000 in
theorem E_Text_empty (d : Nat) (Q : Qt) :
    (∀ (a0 : Nat) (τ : St), Ru M_Text_empty d Q 0 [some (.ref a0)] [] τ = Ru M_Text_empty d Q 1 [some (.ref a0)] [.ref a0] τ) ∧
    (∀ (a0 : Nat) (x0 : Nat) (τ : St), Ru M_Text_empty d Q 1 [some (.ref a0)] [.ref x0] τ = Ru M_Text_empty d Q 2 [some (.ref a0)] [.int 0, .ref x0] τ) ∧
    (∀ (a0 : Nat) (x0 : Int32) (x1 : Nat) (τ : St), Ru M_Text_empty d Q 2 [some (.ref a0)] [.int x0, .ref x1] τ = (isA 6 x1 ∧ Ru M_Text_empty d Q 5 [some (.ref a0)] [] (sI τ x1 1 x0))) ∧
    (∀ (a0 : Nat) (τ : St), Ru M_Text_empty d Q 5 [some (.ref a0)] [] τ = Q none τ) := ⟨
  fun _ _ => (R_at ok_Text_empty rfl).trans (e_ald rfl),
  fun _ _ _ => (R_at ok_Text_empty rfl).trans e_push,
  fun _ _ _ _ => (R_at ok_Text_empty rfl).trans e_pI,
  fun _ _ => (R_at ok_Text_empty rfl).trans e_vret⟩
set_option maxHeartbeats 4000000 in
theorem N_Text_open (d : Nat) (Q : Qt) : ∀ (x0 : Nat) (x1 : Int32) (τ : St), Cl (d + 1) m_Text_open [.ref x0, .int x1] τ Q = Ru M_Text_open d Q 0 [some (.ref x0), some (.int x1)] [] τ := fun _ _ _ => propext ⟨fun h => h.2, fun h => ⟨Nat.le_of_ble_eq_true rfl, h⟩⟩
set_option maxHeartbeats 4000000 in
theorem E_Text_open (d : Nat) (Q : Qt) :
    (∀ (a0 : Nat) (a1 : Int32) (τ : St), Ru M_Text_open d Q 0 [some (.ref a0), some (.int a1)] [] τ = Ru M_Text_open d Q 1 [some (.ref a0), some (.int a1)] [.ref a0] τ) ∧
    (∀ (a0 : Nat) (a1 : Int32) (x0 : Nat) (τ : St), Ru M_Text_open d Q 1 [some (.ref a0), some (.int a1)] [.ref x0] τ = Ru M_Text_open d Q 2 [some (.ref a0), some (.int a1)] [.ref a0, .ref x0] τ) ∧
    (∀ (a0 : Nat) (a1 : Int32) (x0 : Nat) (x1 : Nat) (τ : St), Ru M_Text_open d Q 2 [some (.ref a0), some (.int a1)] [.ref x0, .ref x1] τ = (isA 6 x0 ∧ Ru M_Text_open d Q 5 [some (.ref a0), some (.int a1)] [.int (τ.1 x0 1), .ref x1] τ)) ∧
    (∀ (a0 : Nat) (a1 : Int32) (x0 : Int32) (x1 : Nat) (τ : St), Ru M_Text_open d Q 5 [some (.ref a0), some (.int a1)] [.int x0, .ref x1] τ = Ru M_Text_open d Q 6 [some (.ref a0), some (.int a1)] [.int a1, .int x0, .ref x1] τ) ∧
    (∀ (a0 : Nat) (a1 : Int32) (x0 : Int32) (x1 : Int32) (x2 : Nat) (τ : St), Ru M_Text_open d Q 6 [some (.ref a0), some (.int a1)] [.int x0, .int x1, .ref x2] τ = Ru M_Text_open d Q 9 [some (.ref a0), some (.int a1)] [.int (if x0 < x1 then x0 else x1), .ref x2] τ) ∧
    (∀ (a0 : Nat) (a1 : Int32) (x0 : Int32) (x1 : Nat) (τ : St), Ru M_Text_open d Q 9 [some (.ref a0), some (.int a1)] [.int x0, .ref x1] τ = (isA 6 x1 ∧ Ru M_Text_open d Q 12 [some (.ref a0), some (.int a1)] [] (sI τ x1 3 x0))) ∧
    (∀ (a0 : Nat) (a1 : Int32) (τ : St), Ru M_Text_open d Q 12 [some (.ref a0), some (.int a1)] [] τ = Ru M_Text_open d Q 13 [some (.ref a0), some (.int a1)] [.ref a0] τ) ∧
    (∀ (a0 : Nat) (a1 : Int32) (x0 : Nat) (τ : St), Ru M_Text_open d Q 13 [some (.ref a0), some (.int a1)] [.ref x0] τ = Ru M_Text_open d Q 14 [some (.ref a0), some (.int a1)] [.int 0, .ref x0] τ) ∧
    (∀ (a0 : Nat) (a1 : Int32) (x0 : Int32) (x1 : Nat) (τ : St), Ru M_Text_open d Q 14 [some (.ref a0), some (.int a1)] [.int x0, .ref x1] τ = (isA 6 x1 ∧ Ru M_Text_open d Q 17 [some (.ref a0), some (.int a1)] [] (sI τ x1 2 x0))) ∧
    (∀ (a0 : Nat) (a1 : Int32) (τ : St), Ru M_Text_open d Q 17 [some (.ref a0), some (.int a1)] [] τ = Q none τ) := ⟨
  fun _ _ _ => (R_at ok_Text_open rfl).trans (e_ald rfl),
  fun _ _ _ _ => (R_at ok_Text_open rfl).trans (e_ald rfl),
  fun _ _ _ _ _ => (R_at ok_Text_open rfl).trans e_gI,
  fun _ _ _ _ _ => (R_at ok_Text_open rfl).trans (e_ild rfl),
  fun _ _ _ _ _ _ => (R_at ok_Text_open rfl).trans (e_mm rfl),
  fun _ _ _ _ _ => (R_at ok_Text_open rfl).trans e_pI,
  fun _ _ _ => (R_at ok_Text_open rfl).trans (e_ald rfl),
  fun _ _ _ _ => (R_at ok_Text_open rfl).trans e_push,
  fun _ _ _ _ _ => (R_at ok_Text_open rfl).trans e_pI,
  fun _ _ _ => (R_at ok_Text_open rfl).trans e_vret⟩
set_option maxHeartbeats 4000000 in
theorem N_Text_finished (d : Nat) (Q : Qt) : ∀ (x0 : Nat) (τ : St), Cl (d + 1) m_Text_finished [.ref x0] τ Q = Ru M_Text_finished d Q 0 [some (.ref x0)] [] τ := fun _ _ => propext ⟨fun h => h.2, fun h => ⟨Nat.le_of_ble_eq_true rfl, h⟩⟩
set_option maxHeartbeats 4000000 in
theorem E_Text_finished (d : Nat) (Q : Qt) :
    (∀ (a0 : Nat) (τ : St), Ru M_Text_finished d Q 0 [some (.ref a0)] [] τ = Ru M_Text_finished d Q 1 [some (.ref a0)] [.ref a0] τ) ∧
    (∀ (a0 : Nat) (x0 : Nat) (τ : St), Ru M_Text_finished d Q 1 [some (.ref a0)] [.ref x0] τ = (isA 6 x0 ∧ Ru M_Text_finished d Q 4 [some (.ref a0)] [.int (τ.1 x0 2)] τ)) ∧
    (∀ (a0 : Nat) (x0 : Int32) (τ : St), Ru M_Text_finished d Q 4 [some (.ref a0)] [.int x0] τ = Ru M_Text_finished d Q 5 [some (.ref a0)] [.ref a0, .int x0] τ) ∧
    (∀ (a0 : Nat) (x0 : Nat) (x1 : Int32) (τ : St), Ru M_Text_finished d Q 5 [some (.ref a0)] [.ref x0, .int x1] τ = (isA 6 x0 ∧ Ru M_Text_finished d Q 8 [some (.ref a0)] [.int (τ.1 x0 1), .int x1] τ)) ∧
    (∀ (a0 : Nat) (x0 : Int32) (x1 : Int32) (τ : St), Ru M_Text_finished d Q 8 [some (.ref a0)] [.int x0, .int x1] τ = ((¬ x1 = x0 → Ru M_Text_finished d Q 15 [some (.ref a0)] [] τ) ∧ (x1 = x0 → Ru M_Text_finished d Q 11 [some (.ref a0)] [] τ))) ∧
    (∀ (a0 : Nat) (τ : St), Ru M_Text_finished d Q 11 [some (.ref a0)] [] τ = Ru M_Text_finished d Q 12 [some (.ref a0)] [.int 1] τ) ∧
    (∀ (a0 : Nat) (x0 : Int32) (τ : St), Ru M_Text_finished d Q 12 [some (.ref a0)] [.int x0] τ = Ru M_Text_finished d Q 16 [some (.ref a0)] [.int x0] τ) ∧
    (∀ (a0 : Nat) (τ : St), Ru M_Text_finished d Q 15 [some (.ref a0)] [] τ = Ru M_Text_finished d Q 16 [some (.ref a0)] [.int 0] τ) ∧
    (∀ (a0 : Nat) (x0 : Int32) (τ : St), Ru M_Text_finished d Q 16 [some (.ref a0)] [.int x0] τ = ((x0 = 0 ∨ x0 = 1) ∧ Q (some (.int x0)) τ)) := ⟨
  fun _ _ => (R_at ok_Text_finished rfl).trans (e_ald rfl),
  fun _ _ _ => (R_at ok_Text_finished rfl).trans e_gI,
  fun _ _ _ => (R_at ok_Text_finished rfl).trans (e_ald rfl),
  fun _ _ _ _ => (R_at ok_Text_finished rfl).trans e_gI,
  fun _ _ _ _ => (R_at ok_Text_finished rfl).trans e_icn,
  fun _ _ => (R_at ok_Text_finished rfl).trans e_push,
  fun _ _ _ => (R_at ok_Text_finished rfl).trans e_goto,
  fun _ _ => (R_at ok_Text_finished rfl).trans e_push,
  fun _ _ _ => (R_at ok_Text_finished rfl).trans e_zret⟩
set_option maxHeartbeats 4000000 in
theorem N_Text_peek (d : Nat) (Q : Qt) : ∀ (x0 : Nat) (τ : St), Cl (d + 1) m_Text_peek [.ref x0] τ Q = Ru M_Text_peek d Q 0 [some (.ref x0)] [] τ := fun _ _ => propext ⟨fun h => h.2, fun h => ⟨Nat.le_of_ble_eq_true rfl, h⟩⟩
set_option maxHeartbeats 4000000 in
theorem E_Text_peek (d : Nat) (Q : Qt) :
    (∀ (a0 : Nat) (τ : St), Ru M_Text_peek d Q 0 [some (.ref a0)] [] τ = Ru M_Text_peek d Q 1 [some (.ref a0)] [.ref a0] τ) ∧
    (∀ (a0 : Nat) (x0 : Nat) (τ : St), Ru M_Text_peek d Q 1 [some (.ref a0)] [.ref x0] τ = (isA 6 x0 ∧ Ru M_Text_peek d Q 4 [some (.ref a0)] [.int (τ.1 x0 2)] τ)) ∧
    (∀ (a0 : Nat) (x0 : Int32) (τ : St), Ru M_Text_peek d Q 4 [some (.ref a0)] [.int x0] τ = ((x0 < 0 → Ru M_Text_peek d Q 39 [some (.ref a0)] [] τ) ∧ (¬ x0 < 0 → Ru M_Text_peek d Q 7 [some (.ref a0)] [] τ))) ∧
    (∀ (a0 : Nat) (τ : St), Ru M_Text_peek d Q 7 [some (.ref a0)] [] τ = Ru M_Text_peek d Q 8 [some (.ref a0)] [.ref a0] τ) ∧
    (∀ (a0 : Nat) (x0 : Nat) (τ : St), Ru M_Text_peek d Q 8 [some (.ref a0)] [.ref x0] τ = (isA 6 x0 ∧ Ru M_Text_peek d Q 11 [some (.ref a0)] [.int (τ.1 x0 2)] τ)) ∧
    (∀ (a0 : Nat) (x0 : Int32) (τ : St), Ru M_Text_peek d Q 11 [some (.ref a0)] [.int x0] τ = Ru M_Text_peek d Q 12 [some (.ref a0)] [.ref a0, .int x0] τ) ∧
    (∀ (a0 : Nat) (x0 : Nat) (x1 : Int32) (τ : St), Ru M_Text_peek d Q 12 [some (.ref a0)] [.ref x0, .int x1] τ = (isA 6 x0 ∧ Ru M_Text_peek d Q 15 [some (.ref a0)] [.int (τ.1 x0 3), .int x1] τ)) ∧
    (∀ (a0 : Nat) (x0 : Int32) (x1 : Int32) (τ : St), Ru M_Text_peek d Q 15 [some (.ref a0)] [.int x0, .int x1] τ = ((x0 ≤ x1 → Ru M_Text_peek d Q 39 [some (.ref a0)] [] τ) ∧ (¬ x0 ≤ x1 → Ru M_Text_peek d Q 18 [some (.ref a0)] [] τ))) ∧
    (∀ (a0 : Nat) (τ : St), Ru M_Text_peek d Q 18 [some (.ref a0)] [] τ = Ru M_Text_peek d Q 19 [some (.ref a0)] [.ref a0] τ) ∧
    (∀ (a0 : Nat) (x0 : Nat) (τ : St), Ru M_Text_peek d Q 19 [some (.ref a0)] [.ref x0] τ = (isA 6 x0 ∧ Ru M_Text_peek d Q 22 [some (.ref a0)] [.int (τ.1 x0 2)] τ)) ∧
    (∀ (a0 : Nat) (x0 : Int32) (τ : St), Ru M_Text_peek d Q 22 [some (.ref a0)] [.int x0] τ = Ru M_Text_peek d Q 24 [some (.ref a0)] [.int 80, .int x0] τ) ∧
    (∀ (a0 : Nat) (x0 : Int32) (x1 : Int32) (τ : St), Ru M_Text_peek d Q 24 [some (.ref a0)] [.int x0, .int x1] τ = ((x0 ≤ x1 → Ru M_Text_peek d Q 39 [some (.ref a0)] [] τ) ∧ (¬ x0 ≤ x1 → Ru M_Text_peek d Q 27 [some (.ref a0)] [] τ))) ∧
    (∀ (a0 : Nat) (τ : St), Ru M_Text_peek d Q 27 [some (.ref a0)] [] τ = Ru M_Text_peek d Q 28 [some (.ref a0)] [.ref a0] τ) ∧
    (∀ (a0 : Nat) (x0 : Nat) (τ : St), Ru M_Text_peek d Q 28 [some (.ref a0)] [.ref x0] τ = (isA 6 x0 ∧ Ru M_Text_peek d Q 31 [some (.ref a0)] [.ref (rtab x0 0)] τ)) ∧
    (∀ (a0 : Nat) (x0 : Nat) (τ : St), Ru M_Text_peek d Q 31 [some (.ref a0)] [.ref x0] τ = Ru M_Text_peek d Q 32 [some (.ref a0)] [.ref a0, .ref x0] τ) ∧
    (∀ (a0 : Nat) (x0 : Nat) (x1 : Nat) (τ : St), Ru M_Text_peek d Q 32 [some (.ref a0)] [.ref x0, .ref x1] τ = (isA 6 x0 ∧ Ru M_Text_peek d Q 35 [some (.ref a0)] [.int (τ.1 x0 2), .ref x1] τ)) ∧
    (∀ (a0 : Nat) (x0 : Int32) (x1 : Nat) (τ : St), Ru M_Text_peek d Q 35 [some (.ref a0)] [.int x0, .ref x1] τ = (isA 13 x1 ∧ vp_in x0 (len x1) ∧ Ru M_Text_peek d Q 36 [some (.ref a0)] [.int (τ.1 x1 x0.toNatClampNeg)] τ)) ∧
    (∀ (a0 : Nat) (x0 : Int32) (τ : St), Ru M_Text_peek d Q 36 [some (.ref a0)] [.int x0] τ = Ru M_Text_peek d Q 40 [some (.ref a0)] [.int x0] τ) ∧
    (∀ (a0 : Nat) (τ : St), Ru M_Text_peek d Q 39 [some (.ref a0)] [] τ = Ru M_Text_peek d Q 40 [some (.ref a0)] [.int (-1)] τ) ∧
    (∀ (a0 : Nat) (x0 : Int32) (τ : St), Ru M_Text_peek d Q 40 [some (.ref a0)] [.int x0] τ = Q (some (.int x0)) τ) := ⟨
  fun _ _ => (R_at ok_Text_peek rfl).trans (e_ald rfl),
  fun _ _ _ => (R_at ok_Text_peek rfl).trans e_gI,
  fun _ _ _ => (R_at ok_Text_peek rfl).trans e_if,
  fun _ _ => (R_at ok_Text_peek rfl).trans (e_ald rfl),
  fun _ _ _ => (R_at ok_Text_peek rfl).trans e_gI,
  fun _ _ _ => (R_at ok_Text_peek rfl).trans (e_ald rfl),
  fun _ _ _ _ => (R_at ok_Text_peek rfl).trans e_gI,
  fun _ _ _ _ => (R_at ok_Text_peek rfl).trans e_ic,
  fun _ _ => (R_at ok_Text_peek rfl).trans (e_ald rfl),
  fun _ _ _ => (R_at ok_Text_peek rfl).trans e_gI,
  fun _ _ _ => (R_at ok_Text_peek rfl).trans e_push,
  fun _ _ _ _ => (R_at ok_Text_peek rfl).trans e_ic,
  fun _ _ => (R_at ok_Text_peek rfl).trans (e_ald rfl),
  fun _ _ _ => (R_at ok_Text_peek rfl).trans e_gR,
  fun _ _ _ => (R_at ok_Text_peek rfl).trans (e_ald rfl),
  fun _ _ _ _ => (R_at ok_Text_peek rfl).trans e_gI,
  fun _ _ _ _ => (R_at ok_Text_peek rfl).trans e_al,
  fun _ _ _ => (R_at ok_Text_peek rfl).trans e_goto,
  fun _ _ => (R_at ok_Text_peek rfl).trans e_push,
  fun _ _ _ => (R_at ok_Text_peek rfl).trans e_iret⟩
set_option maxHeartbeats 4000000 in
theorem N_Text_step (d : Nat) (Q : Qt) : ∀ (x0 : Nat) (τ : St), Cl (d + 1) m_Text_step [.ref x0] τ Q = Ru M_Text_step d Q 0 [some (.ref x0)] [] τ := fun _ _ => propext ⟨fun h => h.2, fun h => ⟨Nat.le_of_ble_eq_true rfl, h⟩⟩
set_option maxHeartbeats 4000000 in
theorem E_Text_step (d : Nat) (Q : Qt) :
    (∀ (a0 : Nat) (τ : St), Ru M_Text_step d Q 0 [some (.ref a0)] [] τ = Ru M_Text_step d Q 1 [some (.ref a0)] [.ref a0] τ) ∧
    (∀ (a0 : Nat) (x0 : Nat) (τ : St), Ru M_Text_step d Q 1 [some (.ref a0)] [.ref x0] τ = Ru M_Text_step d Q 2 [some (.ref a0)] [.ref x0, .ref x0] τ) ∧
    (∀ (a0 : Nat) (x0 : Nat) (x1 : Nat) (τ : St), Ru M_Text_step d Q 2 [some (.ref a0)] [.ref x0, .ref x1] τ = (isA 6 x0 ∧ Ru M_Text_step d Q 5 [some (.ref a0)] [.int (τ.1 x0 2), .ref x1] τ)) ∧
    (∀ (a0 : Nat) (x0 : Int32) (x1 : Nat) (τ : St), Ru M_Text_step d Q 5 [some (.ref a0)] [.int x0, .ref x1] τ = Ru M_Text_step d Q 6 [some (.ref a0)] [.int 1, .int x0, .ref x1] τ) ∧
    (∀ (a0 : Nat) (x0 : Int32) (x1 : Int32) (x2 : Nat) (τ : St), Ru M_Text_step d Q 6 [some (.ref a0)] [.int x0, .int x1, .ref x2] τ = Ru M_Text_step d Q 7 [some (.ref a0)] [.int (x1 + x0), .ref x2] τ) ∧
    (∀ (a0 : Nat) (x0 : Int32) (x1 : Nat) (τ : St), Ru M_Text_step d Q 7 [some (.ref a0)] [.int x0, .ref x1] τ = (isA 6 x1 ∧ Ru M_Text_step d Q 10 [some (.ref a0)] [] (sI τ x1 2 x0))) ∧
    (∀ (a0 : Nat) (τ : St), Ru M_Text_step d Q 10 [some (.ref a0)] [] τ = Q none τ) := ⟨
  fun _ _ => (R_at ok_Text_step rfl).trans (e_ald rfl),
  fun _ _ _ => (R_at ok_Text_step rfl).trans (e_dup rfl),
  fun _ _ _ _ => (R_at ok_Text_step rfl).trans e_gI,
  fun _ _ _ _ => (R_at ok_Text_step rfl).trans e_push,
  fun _ _ _ _ _ => (R_at ok_Text_step rfl).trans e_bin,
  fun _ _ _ _ => (R_at ok_Text_step rfl).trans e_pI,
  fun _ _ => (R_at ok_Text_step rfl).trans e_vret⟩
set_option maxHeartbeats 4000000 in
theorem N_Text_back (d : Nat) (Q : Qt) : ∀ (x0 : Nat) (τ : St), Cl (d + 1) m_Text_back [.ref x0] τ Q = Ru M_Text_back d Q 0 [some (.ref x0)] [] τ := fun _ _ => propext ⟨fun h => h.2, fun h => ⟨Nat.le_of_ble_eq_true rfl, h⟩⟩
set_option maxHeartbeats 4000000 in
theorem E_Text_back (d : Nat) (Q : Qt) :
    (∀ (a0 : Nat) (τ : St), Ru M_Text_back d Q 0 [some (.ref a0)] [] τ = Ru M_Text_back d Q 1 [some (.ref a0)] [.ref a0] τ) ∧
    (∀ (a0 : Nat) (x0 : Nat) (τ : St), Ru M_Text_back d Q 1 [some (.ref a0)] [.ref x0] τ = Ru M_Text_back d Q 2 [some (.ref a0)] [.ref x0, .ref x0] τ) ∧
    (∀ (a0 : Nat) (x0 : Nat) (x1 : Nat) (τ : St), Ru M_Text_back d Q 2 [some (.ref a0)] [.ref x0, .ref x1] τ = (isA 6 x0 ∧ Ru M_Text_back d Q 5 [some (.ref a0)] [.int (τ.1 x0 2), .ref x1] τ)) ∧
    (∀ (a0 : Nat) (x0 : Int32) (x1 : Nat) (τ : St), Ru M_Text_back d Q 5 [some (.ref a0)] [.int x0, .ref x1] τ = Ru M_Text_back d Q 6 [some (.ref a0)] [.int 1, .int x0, .ref x1] τ) ∧
    (∀ (a0 : Nat) (x0 : Int32) (x1 : Int32) (x2 : Nat) (τ : St), Ru M_Text_back d Q 6 [some (.ref a0)] [.int x0, .int x1, .ref x2] τ = Ru M_Text_back d Q 7 [some (.ref a0)] [.int (x1 - x0), .ref x2] τ) ∧
    (∀ (a0 : Nat) (x0 : Int32) (x1 : Nat) (τ : St), Ru M_Text_back d Q 7 [some (.ref a0)] [.int x0, .ref x1] τ = (isA 6 x1 ∧ Ru M_Text_back d Q 10 [some (.ref a0)] [] (sI τ x1 2 x0))) ∧
    (∀ (a0 : Nat) (τ : St), Ru M_Text_back d Q 10 [some (.ref a0)] [] τ = Q none τ) := ⟨
  fun _ _ => (R_at ok_Text_back rfl).trans (e_ald rfl),
  fun _ _ _ => (R_at ok_Text_back rfl).trans (e_dup rfl),
  fun _ _ _ _ => (R_at ok_Text_back rfl).trans e_gI,
  fun _ _ _ _ => (R_at ok_Text_back rfl).trans e_push,
  fun _ _ _ _ _ => (R_at ok_Text_back rfl).trans e_bin,
  fun _ _ _ _ => (R_at ok_Text_back rfl).trans e_pI,
  fun _ _ => (R_at ok_Text_back rfl).trans e_vret⟩
set_option maxHeartbeats 4000000 in
theorem N_Text_takeSign (d : Nat) (Q : Qt) : ∀ (x0 : Nat) (x1 : Int32) (τ : St), Cl (d + 1) m_Text_takeSign [.ref x0, .int x1] τ Q = Ru M_Text_takeSign d Q 0 [some (.ref x0), some (.int x1)] [] τ := fun _ _ _ => propext ⟨fun h => h.2, fun h => ⟨Nat.le_of_ble_eq_true rfl, h⟩⟩
set_option maxHeartbeats 4000000 in
theorem E_Text_takeSign (d : Nat) (Q : Qt) :
    (∀ (a0 : Nat) (a1 : Int32) (τ : St), Ru M_Text_takeSign d Q 0 [some (.ref a0), some (.int a1)] [] τ = Ru M_Text_takeSign d Q 1 [some (.ref a0), some (.int a1)] [.ref a0] τ) ∧
    (∀ (a0 : Nat) (a1 : Int32) (x0 : Nat) (τ : St), Ru M_Text_takeSign d Q 1 [some (.ref a0), some (.int a1)] [.ref x0] τ = (isA 6 x0 ∧ Cl d m_Text_peek [.ref x0] τ (fun v τ' => Ru M_Text_takeSign d Q 4 [some (.ref a0), some (.int a1)] (v.toList ++ []) τ'))) ∧
    (∀ (a0 : Nat) (a1 : Int32) (x0 : Int32) (τ : St), Ru M_Text_takeSign d Q 4 [some (.ref a0), some (.int a1)] [.int x0] τ = Ru M_Text_takeSign d Q 5 [some (.ref a0), some (.int a1)] [.int a1, .int x0] τ) ∧
    (∀ (a0 : Nat) (a1 : Int32) (x0 : Int32) (x1 : Int32) (τ : St), Ru M_Text_takeSign d Q 5 [some (.ref a0), some (.int a1)] [.int x0, .int x1] τ = ((x1 = x0 → Ru M_Text_takeSign d Q 10 [some (.ref a0), some (.int a1)] [] τ) ∧ (¬ x1 = x0 → Ru M_Text_takeSign d Q 8 [some (.ref a0), some (.int a1)] [] τ))) ∧
    (∀ (a0 : Nat) (a1 : Int32) (τ : St), Ru M_Text_takeSign d Q 8 [some (.ref a0), some (.int a1)] [] τ = Ru M_Text_takeSign d Q 9 [some (.ref a0), some (.int a1)] [.int 0] τ) ∧
    (∀ (a0 : Nat) (a1 : Int32) (x0 : Int32) (τ : St), Ru M_Text_takeSign d Q 9 [some (.ref a0), some (.int a1)] [.int x0] τ = ((x0 = 0 ∨ x0 = 1) ∧ Q (some (.int x0)) τ)) ∧
    (∀ (a0 : Nat) (a1 : Int32) (τ : St), Ru M_Text_takeSign d Q 10 [some (.ref a0), some (.int a1)] [] τ = Ru M_Text_takeSign d Q 11 [some (.ref a0), some (.int a1)] [.ref a0] τ) ∧
    (∀ (a0 : Nat) (a1 : Int32) (x0 : Nat) (τ : St), Ru M_Text_takeSign d Q 11 [some (.ref a0), some (.int a1)] [.ref x0] τ = (isA 6 x0 ∧ Cl d m_Text_step [.ref x0] τ (fun v τ' => Ru M_Text_takeSign d Q 14 [some (.ref a0), some (.int a1)] (v.toList ++ []) τ'))) ∧
    (∀ (a0 : Nat) (a1 : Int32) (τ : St), Ru M_Text_takeSign d Q 14 [some (.ref a0), some (.int a1)] [] τ = Ru M_Text_takeSign d Q 15 [some (.ref a0), some (.int a1)] [.int 1] τ) ∧
    (∀ (a0 : Nat) (a1 : Int32) (x0 : Int32) (τ : St), Ru M_Text_takeSign d Q 15 [some (.ref a0), some (.int a1)] [.int x0] τ = ((x0 = 0 ∨ x0 = 1) ∧ Q (some (.int x0)) τ)) := ⟨
  fun _ _ _ => (R_at ok_Text_takeSign rfl).trans (e_ald rfl),
  fun _ _ _ _ => (R_at ok_Text_takeSign rfl).trans (e_cv [] rfl rfl rfl),
  fun _ _ _ _ => (R_at ok_Text_takeSign rfl).trans (e_ild rfl),
  fun _ _ _ _ _ => (R_at ok_Text_takeSign rfl).trans e_ic,
  fun _ _ _ => (R_at ok_Text_takeSign rfl).trans e_push,
  fun _ _ _ _ => (R_at ok_Text_takeSign rfl).trans e_zret,
  fun _ _ _ => (R_at ok_Text_takeSign rfl).trans (e_ald rfl),
  fun _ _ _ _ => (R_at ok_Text_takeSign rfl).trans (e_cv [] rfl rfl rfl),
  fun _ _ _ => (R_at ok_Text_takeSign rfl).trans e_push,
  fun _ _ _ _ => (R_at ok_Text_takeSign rfl).trans e_zret⟩
set_option maxHeartbeats 4000000 in
theorem N_Text_takeDigit (d : Nat) (Q : Qt) : ∀ (x0 : Nat) (x1 : Int32) (x2 : Int32) (τ : St), Cl (d + 1) m_Text_takeDigit [.ref x0, .int x1, .int x2] τ Q = Ru M_Text_takeDigit d Q 0 [some (.ref x0), some (.int x1), some (.int x2), none] [] τ := fun _ _ _ _ => propext ⟨fun h => h.2, fun h => ⟨Nat.le_of_ble_eq_true rfl, h⟩⟩
set_option maxHeartbeats 4000000 in
theorem E_Text_takeDigit (d : Nat) (Q : Qt) :
    (∀ (a0 : Nat) (a1 : Int32) (a2 : Int32) (τ : St), Ru M_Text_takeDigit d Q 0 [some (.ref a0), some (.int a1), some (.int a2), none] [] τ = Ru M_Text_takeDigit d Q 1 [some (.ref a0), some (.int a1), some (.int a2), none] [.ref a0] τ) ∧
    (∀ (a0 : Nat) (a1 : Int32) (a2 : Int32) (x0 : Nat) (τ : St), Ru M_Text_takeDigit d Q 1 [some (.ref a0), some (.int a1), some (.int a2), none] [.ref x0] τ = (isA 6 x0 ∧ Cl d m_Text_peek [.ref x0] τ (fun v τ' => Ru M_Text_takeDigit d Q 4 [some (.ref a0), some (.int a1), some (.int a2), none] (v.toList ++ []) τ'))) ∧
    (∀ (a0 : Nat) (a1 : Int32) (a2 : Int32) (x0 : Int32) (τ : St), Ru M_Text_takeDigit d Q 4 [some (.ref a0), some (.int a1), some (.int a2), none] [.int x0] τ = Ru M_Text_takeDigit d Q 6 [some (.ref a0), some (.int a1), some (.int a2), none] [.int 48, .int x0] τ) ∧
    (∀ (a0 : Nat) (a1 : Int32) (a2 : Int32) (x0 : Int32) (x1 : Int32) (τ : St), Ru M_Text_takeDigit d Q 6 [some (.ref a0), some (.int a1), some (.int a2), none] [.int x0, .int x1] τ = Ru M_Text_takeDigit d Q 7 [some (.ref a0), some (.int a1), some (.int a2), none] [.int (x1 - x0)] τ) ∧
    (∀ (a0 : Nat) (a1 : Int32) (a2 : Int32) (x0 : Int32) (τ : St), Ru M_Text_takeDigit d Q 7 [some (.ref a0), some (.int a1), some (.int a2), none] [.int x0] τ = Ru M_Text_takeDigit d Q 8 [some (.ref a0), some (.int a1), some (.int a2), some (.int x0)] [] τ) ∧
    (∀ (a0 : Nat) (a1 : Int32) (a2 : Int32) (a3 : Int32) (τ : St), Ru M_Text_takeDigit d Q 8 [some (.ref a0), some (.int a1), some (.int a2), some (.int a3)] [] τ = Ru M_Text_takeDigit d Q 9 [some (.ref a0), some (.int a1), some (.int a2), some (.int a3)] [.int a3] τ) ∧
    (∀ (a0 : Nat) (a1 : Int32) (a2 : Int32) (a3 : Int32) (x0 : Int32) (τ : St), Ru M_Text_takeDigit d Q 9 [some (.ref a0), some (.int a1), some (.int a2), some (.int a3)] [.int x0] τ = Ru M_Text_takeDigit d Q 10 [some (.ref a0), some (.int a1), some (.int a2), some (.int a3)] [.int a1, .int x0] τ) ∧
    (∀ (a0 : Nat) (a1 : Int32) (a2 : Int32) (a3 : Int32) (x0 : Int32) (x1 : Int32) (τ : St), Ru M_Text_takeDigit d Q 10 [some (.ref a0), some (.int a1), some (.int a2), some (.int a3)] [.int x0, .int x1] τ = ((x1 < x0 → Ru M_Text_takeDigit d Q 18 [some (.ref a0), some (.int a1), some (.int a2), some (.int a3)] [] τ) ∧ (¬ x1 < x0 → Ru M_Text_takeDigit d Q 13 [some (.ref a0), some (.int a1), some (.int a2), some (.int a3)] [] τ))) ∧
    (∀ (a0 : Nat) (a1 : Int32) (a2 : Int32) (a3 : Int32) (τ : St), Ru M_Text_takeDigit d Q 13 [some (.ref a0), some (.int a1), some (.int a2), some (.int a3)] [] τ = Ru M_Text_takeDigit d Q 14 [some (.ref a0), some (.int a1), some (.int a2), some (.int a3)] [.int a3] τ) ∧
    (∀ (a0 : Nat) (a1 : Int32) (a2 : Int32) (a3 : Int32) (x0 : Int32) (τ : St), Ru M_Text_takeDigit d Q 14 [some (.ref a0), some (.int a1), some (.int a2), some (.int a3)] [.int x0] τ = Ru M_Text_takeDigit d Q 15 [some (.ref a0), some (.int a1), some (.int a2), some (.int a3)] [.int a2, .int x0] τ) ∧
    (∀ (a0 : Nat) (a1 : Int32) (a2 : Int32) (a3 : Int32) (x0 : Int32) (x1 : Int32) (τ : St), Ru M_Text_takeDigit d Q 15 [some (.ref a0), some (.int a1), some (.int a2), some (.int a3)] [.int x0, .int x1] τ = ((x1 ≤ x0 → Ru M_Text_takeDigit d Q 20 [some (.ref a0), some (.int a1), some (.int a2), some (.int a3)] [] τ) ∧ (¬ x1 ≤ x0 → Ru M_Text_takeDigit d Q 18 [some (.ref a0), some (.int a1), some (.int a2), some (.int a3)] [] τ))) ∧
    (∀ (a0 : Nat) (a1 : Int32) (a2 : Int32) (a3 : Int32) (τ : St), Ru M_Text_takeDigit d Q 18 [some (.ref a0), some (.int a1), some (.int a2), some (.int a3)] [] τ = Ru M_Text_takeDigit d Q 19 [some (.ref a0), some (.int a1), some (.int a2), some (.int a3)] [.int (-1)] τ) ∧
    (∀ (a0 : Nat) (a1 : Int32) (a2 : Int32) (a3 : Int32) (x0 : Int32) (τ : St), Ru M_Text_takeDigit d Q 19 [some (.ref a0), some (.int a1), some (.int a2), some (.int a3)] [.int x0] τ = Q (some (.int x0)) τ) ∧
    (∀ (a0 : Nat) (a1 : Int32) (a2 : Int32) (a3 : Int32) (τ : St), Ru M_Text_takeDigit d Q 20 [some (.ref a0), some (.int a1), some (.int a2), some (.int a3)] [] τ = Ru M_Text_takeDigit d Q 21 [some (.ref a0), some (.int a1), some (.int a2), some (.int a3)] [.ref a0] τ) ∧
    (∀ (a0 : Nat) (a1 : Int32) (a2 : Int32) (a3 : Int32) (x0 : Nat) (τ : St), Ru M_Text_takeDigit d Q 21 [some (.ref a0), some (.int a1), some (.int a2), some (.int a3)] [.ref x0] τ = (isA 6 x0 ∧ Cl d m_Text_step [.ref x0] τ (fun v τ' => Ru M_Text_takeDigit d Q 24 [some (.ref a0), some (.int a1), some (.int a2), some (.int a3)] (v.toList ++ []) τ'))) ∧
    (∀ (a0 : Nat) (a1 : Int32) (a2 : Int32) (a3 : Int32) (τ : St), Ru M_Text_takeDigit d Q 24 [some (.ref a0), some (.int a1), some (.int a2), some (.int a3)] [] τ = Ru M_Text_takeDigit d Q 25 [some (.ref a0), some (.int a1), some (.int a2), some (.int a3)] [.int a3] τ) ∧
    (∀ (a0 : Nat) (a1 : Int32) (a2 : Int32) (a3 : Int32) (x0 : Int32) (τ : St), Ru M_Text_takeDigit d Q 25 [some (.ref a0), some (.int a1), some (.int a2), some (.int a3)] [.int x0] τ = Q (some (.int x0)) τ) := ⟨
  fun _ _ _ _ => (R_at ok_Text_takeDigit rfl).trans (e_ald rfl),
  fun _ _ _ _ _ => (R_at ok_Text_takeDigit rfl).trans (e_cv [] rfl rfl rfl),
  fun _ _ _ _ _ => (R_at ok_Text_takeDigit rfl).trans e_push,
  fun _ _ _ _ _ _ => (R_at ok_Text_takeDigit rfl).trans e_bin,
  fun _ _ _ _ _ => (R_at ok_Text_takeDigit rfl).trans e_ist,
  fun _ _ _ _ _ => (R_at ok_Text_takeDigit rfl).trans (e_ild rfl),
  fun _ _ _ _ _ _ => (R_at ok_Text_takeDigit rfl).trans (e_ild rfl),
  fun _ _ _ _ _ _ _ => (R_at ok_Text_takeDigit rfl).trans e_ic,
  fun _ _ _ _ _ => (R_at ok_Text_takeDigit rfl).trans (e_ild rfl),
  fun _ _ _ _ _ _ => (R_at ok_Text_takeDigit rfl).trans (e_ild rfl),
  fun _ _ _ _ _ _ _ => (R_at ok_Text_takeDigit rfl).trans e_ic,
  fun _ _ _ _ _ => (R_at ok_Text_takeDigit rfl).trans e_push,
  fun _ _ _ _ _ _ => (R_at ok_Text_takeDigit rfl).trans e_iret,
  fun _ _ _ _ _ => (R_at ok_Text_takeDigit rfl).trans (e_ald rfl),
  fun _ _ _ _ _ _ => (R_at ok_Text_takeDigit rfl).trans (e_cv [] rfl rfl rfl),
  fun _ _ _ _ _ => (R_at ok_Text_takeDigit rfl).trans (e_ild rfl),
  fun _ _ _ _ _ _ => (R_at ok_Text_takeDigit rfl).trans e_iret⟩
set_option maxHeartbeats 4000000 in
theorem N_Text_takeNumber (d : Nat) (Q : Qt) : ∀ (x0 : Nat) (x1 : Int32) (τ : St), Cl (d + 1) m_Text_takeNumber [.ref x0, .int x1] τ Q = Ru M_Text_takeNumber d Q 0 [some (.ref x0), some (.int x1), none, none, none] [] τ := fun _ _ _ => propext ⟨fun h => h.2, fun h => ⟨Nat.le_of_ble_eq_true rfl, h⟩⟩
set_option maxHeartbeats 4000000 in
theorem E_Text_takeNumber (d : Nat) (Q : Qt) :
    (∀ (a0 : Nat) (a1 : Int32) (τ : St), Ru M_Text_takeNumber d Q 0 [some (.ref a0), some (.int a1), none, none, none] [] τ = Ru M_Text_takeNumber d Q 1 [some (.ref a0), some (.int a1), none, none, none] [.int (-1)] τ) ∧
    (∀ (a0 : Nat) (a1 : Int32) (x0 : Int32) (τ : St), Ru M_Text_takeNumber d Q 1 [some (.ref a0), some (.int a1), none, none, none] [.int x0] τ = Ru M_Text_takeNumber d Q 2 [some (.ref a0), some (.int a1), some (.int x0), none, none] [] τ) ∧
    (∀ (a0 : Nat) (a1 : Int32) (a2 : Int32) (τ : St), Ru M_Text_takeNumber d Q 2 [some (.ref a0), some (.int a1), some (.int a2), none, none] [] τ = Ru M_Text_takeNumber d Q 3 [some (.ref a0), some (.int a1), some (.int a2), none, none] [.int 0] τ) ∧
    (∀ (a0 : Nat) (a1 : Int32) (a2 : Int32) (x0 : Int32) (τ : St), Ru M_Text_takeNumber d Q 3 [some (.ref a0), some (.int a1), some (.int a2), none, none] [.int x0] τ = Rs M_Text_takeNumber d Q 4 [some (.ref a0), some (.int a1), some (.int a2), some (.int x0), none] [] τ) ∧
    (∀ (a0 : Nat) (a1 : Int32) (a2 : Int32) (a3 : Int32) (a4 : Option Value) (τ : St), Ru M_Text_takeNumber d Q 4 [some (.ref a0), some (.int a1), some (.int a2), some (.int a3), a4] [] τ = Ru M_Text_takeNumber d Q 5 [some (.ref a0), some (.int a1), some (.int a2), some (.int a3), a4] [.int a3] τ) ∧
    (∀ (a0 : Nat) (a1 : Int32) (a2 : Int32) (a3 : Int32) (a4 : Option Value) (x0 : Int32) (τ : St), Ru M_Text_takeNumber d Q 5 [some (.ref a0), some (.int a1), some (.int a2), some (.int a3), a4] [.int x0] τ = Ru M_Text_takeNumber d Q 6 [some (.ref a0), some (.int a1), some (.int a2), some (.int a3), a4] [.int a1, .int x0] τ) ∧
    (∀ (a0 : Nat) (a1 : Int32) (a2 : Int32) (a3 : Int32) (a4 : Option Value) (x0 : Int32) (x1 : Int32) (τ : St), Ru M_Text_takeNumber d Q 6 [some (.ref a0), some (.int a1), some (.int a2), some (.int a3), a4] [.int x0, .int x1] τ = ((x0 ≤ x1 → Ru M_Text_takeNumber d Q 49 [some (.ref a0), some (.int a1), some (.int a2), some (.int a3), a4] [] τ) ∧ (¬ x0 ≤ x1 → Ru M_Text_takeNumber d Q 9 [some (.ref a0), some (.int a1), some (.int a2), some (.int a3), a4] [] τ))) ∧
    (∀ (a0 : Nat) (a1 : Int32) (a2 : Int32) (a3 : Int32) (a4 : Option Value) (τ : St), Ru M_Text_takeNumber d Q 9 [some (.ref a0), some (.int a1), some (.int a2), some (.int a3), a4] [] τ = Ru M_Text_takeNumber d Q 10 [some (.ref a0), some (.int a1), some (.int a2), some (.int a3), a4] [.ref a0] τ) ∧
    (∀ (a0 : Nat) (a1 : Int32) (a2 : Int32) (a3 : Int32) (a4 : Option Value) (x0 : Nat) (τ : St), Ru M_Text_takeNumber d Q 10 [some (.ref a0), some (.int a1), some (.int a2), some (.int a3), a4] [.ref x0] τ = Ru M_Text_takeNumber d Q 11 [some (.ref a0), some (.int a1), some (.int a2), some (.int a3), a4] [.int 0, .ref x0] τ) ∧
    (∀ (a0 : Nat) (a1 : Int32) (a2 : Int32) (a3 : Int32) (a4 : Option Value) (x0 : Int32) (x1 : Nat) (τ : St), Ru M_Text_takeNumber d Q 11 [some (.ref a0), some (.int a1), some (.int a2), some (.int a3), a4] [.int x0, .ref x1] τ = Ru M_Text_takeNumber d Q 13 [some (.ref a0), some (.int a1), some (.int a2), some (.int a3), a4] [.int 9, .int x0, .ref x1] τ) ∧
    (∀ (a0 : Nat) (a1 : Int32) (a2 : Int32) (a3 : Int32) (a4 : Option Value) (x0 : Int32) (x1 : Int32) (x2 : Nat) (τ : St), Ru M_Text_takeNumber d Q 13 [some (.ref a0), some (.int a1), some (.int a2), some (.int a3), a4] [.int x0, .int x1, .ref x2] τ = (isA 6 x2 ∧ Cl d m_Text_takeDigit [.ref x2, .int x1, .int x0] τ (fun v τ' => Ru M_Text_takeNumber d Q 16 [some (.ref a0), some (.int a1), some (.int a2), some (.int a3), a4] (v.toList ++ []) τ'))) ∧
    (∀ (a0 : Nat) (a1 : Int32) (a2 : Int32) (a3 : Int32) (a4 : Option Value) (x0 : Int32) (τ : St), Ru M_Text_takeNumber d Q 16 [some (.ref a0), some (.int a1), some (.int a2), some (.int a3), a4] [.int x0] τ = Ru M_Text_takeNumber d Q 18 [some (.ref a0), some (.int a1), some (.int a2), some (.int a3), some (.int x0)] [] τ) ∧
    (∀ (a0 : Nat) (a1 : Int32) (a2 : Int32) (a3 : Int32) (a4 : Int32) (τ : St), Ru M_Text_takeNumber d Q 18 [some (.ref a0), some (.int a1), some (.int a2), some (.int a3), some (.int a4)] [] τ = Ru M_Text_takeNumber d Q 20 [some (.ref a0), some (.int a1), some (.int a2), some (.int a3), some (.int a4)] [.int a4] τ) ∧
    (∀ (a0 : Nat) (a1 : Int32) (a2 : Int32) (a3 : Int32) (a4 : Int32) (x0 : Int32) (τ : St), Ru M_Text_takeNumber d Q 20 [some (.ref a0), some (.int a1), some (.int a2), some (.int a3), some (.int a4)] [.int x0] τ = Ru M_Text_takeNumber d Q 21 [some (.ref a0), some (.int a1), some (.int a2), some (.int a3), some (.int a4)] [.int (-1), .int x0] τ) ∧
    (∀ (a0 : Nat) (a1 : Int32) (a2 : Int32) (a3 : Int32) (a4 : Int32) (x0 : Int32) (x1 : Int32) (τ : St), Ru M_Text_takeNumber d Q 21 [some (.ref a0), some (.int a1), some (.int a2), some (.int a3), some (.int a4)] [.int x0, .int x1] τ = ((¬ x1 = x0 → Ru M_Text_takeNumber d Q 26 [some (.ref a0), some (.int a1), some (.int a2), some (.int a3), some (.int a4)] [] τ) ∧ (x1 = x0 → Ru M_Text_takeNumber d Q 24 [some (.ref a0), some (.int a1), some (.int a2), some (.int a3), some (.int a4)] [] τ))) ∧
    (∀ (a0 : Nat) (a1 : Int32) (a2 : Int32) (a3 : Int32) (a4 : Int32) (τ : St), Ru M_Text_takeNumber d Q 24 [some (.ref a0), some (.int a1), some (.int a2), some (.int a3), some (.int a4)] [] τ = Ru M_Text_takeNumber d Q 25 [some (.ref a0), some (.int a1), some (.int a2), some (.int a3), some (.int a4)] [.int a2] τ) ∧
    (∀ (a0 : Nat) (a1 : Int32) (a2 : Int32) (a3 : Int32) (a4 : Int32) (x0 : Int32) (τ : St), Ru M_Text_takeNumber d Q 25 [some (.ref a0), some (.int a1), some (.int a2), some (.int a3), some (.int a4)] [.int x0] τ = Q (some (.int x0)) τ) ∧
    (∀ (a0 : Nat) (a1 : Int32) (a2 : Int32) (a3 : Int32) (a4 : Int32) (τ : St), Ru M_Text_takeNumber d Q 26 [some (.ref a0), some (.int a1), some (.int a2), some (.int a3), some (.int a4)] [] τ = Ru M_Text_takeNumber d Q 27 [some (.ref a0), some (.int a1), some (.int a2), some (.int a3), some (.int a4)] [.int a3] τ) ∧
    (∀ (a0 : Nat) (a1 : Int32) (a2 : Int32) (a3 : Int32) (a4 : Int32) (x0 : Int32) (τ : St), Ru M_Text_takeNumber d Q 27 [some (.ref a0), some (.int a1), some (.int a2), some (.int a3), some (.int a4)] [.int x0] τ = ((¬ x0 = 0 → Ru M_Text_takeNumber d Q 35 [some (.ref a0), some (.int a1), some (.int a2), some (.int a3), some (.int a4)] [] τ) ∧ (x0 = 0 → Ru M_Text_takeNumber d Q 30 [some (.ref a0), some (.int a1), some (.int a2), some (.int a3), some (.int a4)] [] τ))) ∧
    (∀ (a0 : Nat) (a1 : Int32) (a2 : Int32) (a3 : Int32) (a4 : Int32) (τ : St), Ru M_Text_takeNumber d Q 30 [some (.ref a0), some (.int a1), some (.int a2), some (.int a3), some (.int a4)] [] τ = Ru M_Text_takeNumber d Q 32 [some (.ref a0), some (.int a1), some (.int a2), some (.int a3), some (.int a4)] [.int a4] τ) ∧
    (∀ (a0 : Nat) (a1 : Int32) (a2 : Int32) (a3 : Int32) (a4 : Int32) (x0 : Int32) (τ : St), Ru M_Text_takeNumber d Q 32 [some (.ref a0), some (.int a1), some (.int a2), some (.int a3), some (.int a4)] [.int x0] τ = Ru M_Text_takeNumber d Q 42 [some (.ref a0), some (.int a1), some (.int a2), some (.int a3), some (.int a4)] [.int x0] τ) ∧
    (∀ (a0 : Nat) (a1 : Int32) (a2 : Int32) (a3 : Int32) (a4 : Int32) (τ : St), Ru M_Text_takeNumber d Q 35 [some (.ref a0), some (.int a1), some (.int a2), some (.int a3), some (.int a4)] [] τ = Ru M_Text_takeNumber d Q 36 [some (.ref a0), some (.int a1), some (.int a2), some (.int a3), some (.int a4)] [.int a2] τ) ∧
    (∀ (a0 : Nat) (a1 : Int32) (a2 : Int32) (a3 : Int32) (a4 : Int32) (x0 : Int32) (τ : St), Ru M_Text_takeNumber d Q 36 [some (.ref a0), some (.int a1), some (.int a2), some (.int a3), some (.int a4)] [.int x0] τ = Ru M_Text_takeNumber d Q 38 [some (.ref a0), some (.int a1), some (.int a2), some (.int a3), some (.int a4)] [.int 10, .int x0] τ) ∧
    (∀ (a0 : Nat) (a1 : Int32) (a2 : Int32) (a3 : Int32) (a4 : Int32) (x0 : Int32) (x1 : Int32) (τ : St), Ru M_Text_takeNumber d Q 38 [some (.ref a0), some (.int a1), some (.int a2), some (.int a3), some (.int a4)] [.int x0, .int x1] τ = Ru M_Text_takeNumber d Q 39 [some (.ref a0), some (.int a1), some (.int a2), some (.int a3), some (.int a4)] [.int (x1 * x0)] τ) ∧
    (∀ (a0 : Nat) (a1 : Int32) (a2 : Int32) (a3 : Int32) (a4 : Int32) (x0 : Int32) (τ : St), Ru M_Text_takeNumber d Q 39 [some (.ref a0), some (.int a1), some (.int a2), some (.int a3), some (.int a4)] [.int x0] τ = Ru M_Text_takeNumber d Q 41 [some (.ref a0), some (.int a1), some (.int a2), some (.int a3), some (.int a4)] [.int a4, .int x0] τ) ∧
    (∀ (a0 : Nat) (a1 : Int32) (a2 : Int32) (a3 : Int32) (a4 : Int32) (x0 : Int32) (x1 : Int32) (τ : St), Ru M_Text_takeNumber d Q 41 [some (.ref a0), some (.int a1), some (.int a2), some (.int a3), some (.int a4)] [.int x0, .int x1] τ = Ru M_Text_takeNumber d Q 42 [some (.ref a0), some (.int a1), some (.int a2), some (.int a3), some (.int a4)] [.int (x1 + x0)] τ) ∧
    (∀ (a0 : Nat) (a1 : Int32) (a2 : Int32) (a3 : Int32) (a4 : Int32) (x0 : Int32) (τ : St), Ru M_Text_takeNumber d Q 42 [some (.ref a0), some (.int a1), some (.int a2), some (.int a3), some (.int a4)] [.int x0] τ = Ru M_Text_takeNumber d Q 43 [some (.ref a0), some (.int a1), some (.int x0), some (.int a3), some (.int a4)] [] τ) ∧
    (∀ (a0 : Nat) (a1 : Int32) (a2 : Int32) (a3 : Int32) (a4 : Int32) (τ : St), Ru M_Text_takeNumber d Q 43 [some (.ref a0), some (.int a1), some (.int a2), some (.int a3), some (.int a4)] [] τ = Ru M_Text_takeNumber d Q 46 [some (.ref a0), some (.int a1), some (.int a2), some (.int (a3 + 1)), some (.int a4)] [] τ) ∧
    (∀ (a0 : Nat) (a1 : Int32) (a2 : Int32) (a3 : Int32) (a4 : Int32) (τ : St), Ru M_Text_takeNumber d Q 46 [some (.ref a0), some (.int a1), some (.int a2), some (.int a3), some (.int a4)] [] τ = Rs M_Text_takeNumber d Q 4 [some (.ref a0), some (.int a1), some (.int a2), some (.int a3), some (.int a4)] [] τ) ∧
    (∀ (a0 : Nat) (a1 : Int32) (a2 : Int32) (a3 : Int32) (a4 : Option Value) (τ : St), Ru M_Text_takeNumber d Q 49 [some (.ref a0), some (.int a1), some (.int a2), some (.int a3), a4] [] τ = Ru M_Text_takeNumber d Q 50 [some (.ref a0), some (.int a1), some (.int a2), some (.int a3), a4] [.int a2] τ) ∧
    (∀ (a0 : Nat) (a1 : Int32) (a2 : Int32) (a3 : Int32) (a4 : Option Value) (x0 : Int32) (τ : St), Ru M_Text_takeNumber d Q 50 [some (.ref a0), some (.int a1), some (.int a2), some (.int a3), a4] [.int x0] τ = Q (some (.int x0)) τ) := ⟨
  fun _ _ _ => (R_at ok_Text_takeNumber rfl).trans e_push,
  fun _ _ _ _ => (R_at ok_Text_takeNumber rfl).trans e_ist,
  fun _ _ _ _ => (R_at ok_Text_takeNumber rfl).trans e_push,
  fun _ _ _ _ _ => (R_at ok_Text_takeNumber rfl).trans e_ist,
  fun _ _ _ _ _ _ => (R_at ok_Text_takeNumber rfl).trans (e_ild rfl),
  fun _ _ _ _ _ _ _ => (R_at ok_Text_takeNumber rfl).trans (e_ild rfl),
  fun _ _ _ _ _ _ _ _ => (R_at ok_Text_takeNumber rfl).trans e_ic,
  fun _ _ _ _ _ _ => (R_at ok_Text_takeNumber rfl).trans (e_ald rfl),
  fun _ _ _ _ _ _ _ => (R_at ok_Text_takeNumber rfl).trans e_push,
  fun _ _ _ _ _ _ _ _ => (R_at ok_Text_takeNumber rfl).trans e_push,
  fun _ _ _ _ _ x0 x1 _ _ => (R_at ok_Text_takeNumber rfl).trans (e_cv [.int x1, .int x0] rfl rfl rfl),
  fun _ _ _ _ _ _ _ => (R_at ok_Text_takeNumber rfl).trans e_ist,
  fun _ _ _ _ _ _ => (R_at ok_Text_takeNumber rfl).trans (e_ild rfl),
  fun _ _ _ _ _ _ _ => (R_at ok_Text_takeNumber rfl).trans e_push,
  fun _ _ _ _ _ _ _ _ => (R_at ok_Text_takeNumber rfl).trans e_icn,
  fun _ _ _ _ _ _ => (R_at ok_Text_takeNumber rfl).trans (e_ild rfl),
  fun _ _ _ _ _ _ _ => (R_at ok_Text_takeNumber rfl).trans e_iret,
  fun _ _ _ _ _ _ => (R_at ok_Text_takeNumber rfl).trans (e_ild rfl),
  fun _ _ _ _ _ _ _ => (R_at ok_Text_takeNumber rfl).trans e_ifn,
  fun _ _ _ _ _ _ => (R_at ok_Text_takeNumber rfl).trans (e_ild rfl),
  fun _ _ _ _ _ _ _ => (R_at ok_Text_takeNumber rfl).trans e_goto,
  fun _ _ _ _ _ _ => (R_at ok_Text_takeNumber rfl).trans (e_ild rfl),
  fun _ _ _ _ _ _ _ => (R_at ok_Text_takeNumber rfl).trans e_push,
  fun _ _ _ _ _ _ _ _ => (R_at ok_Text_takeNumber rfl).trans e_bin,
  fun _ _ _ _ _ _ _ => (R_at ok_Text_takeNumber rfl).trans (e_ild rfl),
  fun _ _ _ _ _ _ _ _ => (R_at ok_Text_takeNumber rfl).trans e_bin,
  fun _ _ _ _ _ _ _ => (R_at ok_Text_takeNumber rfl).trans e_ist,
  fun _ _ _ _ _ _ => (R_at ok_Text_takeNumber rfl).trans (e_iinc rfl),
  fun _ _ _ _ _ _ => (R_at ok_Text_takeNumber rfl).trans e_goto,
  fun _ _ _ _ _ _ => (R_at ok_Text_takeNumber rfl).trans (e_ild rfl),
  fun _ _ _ _ _ _ _ => (R_at ok_Text_takeNumber rfl).trans e_iret⟩
set_option maxHeartbeats 4000000 in
theorem N_Text_takeTwoDigits (d : Nat) (Q : Qt) : ∀ (x0 : Nat) (τ : St), Cl (d + 1) m_Text_takeTwoDigits [.ref x0] τ Q = Ru M_Text_takeTwoDigits d Q 0 [some (.ref x0), none, none] [] τ := fun _ _ => propext ⟨fun h => h.2, fun h => ⟨Nat.le_of_ble_eq_true rfl, h⟩⟩
set_option maxHeartbeats 4000000 in
theorem E_Text_takeTwoDigits (d : Nat) (Q : Qt) :
    (∀ (a0 : Nat) (τ : St), Ru M_Text_takeTwoDigits d Q 0 [some (.ref a0), none, none] [] τ = Ru M_Text_takeTwoDigits d Q 1 [some (.ref a0), none, none] [.ref a0] τ) ∧
    (∀ (a0 : Nat) (x0 : Nat) (τ : St), Ru M_Text_takeTwoDigits d Q 1 [some (.ref a0), none, none] [.ref x0] τ = Ru M_Text_takeTwoDigits d Q 2 [some (.ref a0), none, none] [.int 0, .ref x0] τ) ∧
    (∀ (a0 : Nat) (x0 : Int32) (x1 : Nat) (τ : St), Ru M_Text_takeTwoDigits d Q 2 [some (.ref a0), none, none] [.int x0, .ref x1] τ = Ru M_Text_takeTwoDigits d Q 4 [some (.ref a0), none, none] [.int 9, .int x0, .ref x1] τ) ∧
    (∀ (a0 : Nat) (x0 : Int32) (x1 : Int32) (x2 : Nat) (τ : St), Ru M_Text_takeTwoDigits d Q 4 [some (.ref a0), none, none] [.int x0, .int x1, .ref x2] τ = (isA 6 x2 ∧ Cl d m_Text_takeDigit [.ref x2, .int x1, .int x0] τ (fun v τ' => Ru M_Text_takeTwoDigits d Q 7 [some (.ref a0), none, none] (v.toList ++ []) τ'))) ∧
    (∀ (a0 : Nat) (x0 : Int32) (τ : St), Ru M_Text_takeTwoDigits d Q 7 [some (.ref a0), none, none] [.int x0] τ = Ru M_Text_takeTwoDigits d Q 8 [some (.ref a0), some (.int x0), none] [] τ) ∧
    (∀ (a0 : Nat) (a1 : Int32) (τ : St), Ru M_Text_takeTwoDigits d Q 8 [some (.ref a0), some (.int a1), none] [] τ = Ru M_Text_takeTwoDigits d Q 9 [some (.ref a0), some (.int a1), none] [.int a1] τ) ∧
    (∀ (a0 : Nat) (a1 : Int32) (x0 : Int32) (τ : St), Ru M_Text_takeTwoDigits d Q 9 [some (.ref a0), some (.int a1), none] [.int x0] τ = Ru M_Text_takeTwoDigits d Q 10 [some (.ref a0), some (.int a1), none] [.int (-1), .int x0] τ) ∧
    (∀ (a0 : Nat) (a1 : Int32) (x0 : Int32) (x1 : Int32) (τ : St), Ru M_Text_takeTwoDigits d Q 10 [some (.ref a0), some (.int a1), none] [.int x0, .int x1] τ = ((¬ x1 = x0 → Ru M_Text_takeTwoDigits d Q 17 [some (.ref a0), some (.int a1), none] [] τ) ∧ (x1 = x0 → Ru M_Text_takeTwoDigits d Q 13 [some (.ref a0), some (.int a1), none] [] τ))) ∧
    (∀ (a0 : Nat) (a1 : Int32) (τ : St), Ru M_Text_takeTwoDigits d Q 13 [some (.ref a0), some (.int a1), none] [] τ = Ru M_Text_takeTwoDigits d Q 14 [some (.ref a0), some (.int a1), none] [.int (-1)] τ) ∧
    (∀ (a0 : Nat) (a1 : Int32) (x0 : Int32) (τ : St), Ru M_Text_takeTwoDigits d Q 14 [some (.ref a0), some (.int a1), none] [.int x0] τ = Ru M_Text_takeTwoDigits d Q 24 [some (.ref a0), some (.int a1), none] [.int x0] τ) ∧
    (∀ (a0 : Nat) (a1 : Int32) (τ : St), Ru M_Text_takeTwoDigits d Q 17 [some (.ref a0), some (.int a1), none] [] τ = Ru M_Text_takeTwoDigits d Q 18 [some (.ref a0), some (.int a1), none] [.ref a0] τ) ∧
    (∀ (a0 : Nat) (a1 : Int32) (x0 : Nat) (τ : St), Ru M_Text_takeTwoDigits d Q 18 [some (.ref a0), some (.int a1), none] [.ref x0] τ = Ru M_Text_takeTwoDigits d Q 19 [some (.ref a0), some (.int a1), none] [.int 0, .ref x0] τ) ∧
    (∀ (a0 : Nat) (a1 : Int32) (x0 : Int32) (x1 : Nat) (τ : St), Ru M_Text_takeTwoDigits d Q 19 [some (.ref a0), some (.int a1), none] [.int x0, .ref x1] τ = Ru M_Text_takeTwoDigits d Q 21 [some (.ref a0), some (.int a1), none] [.int 9, .int x0, .ref x1] τ) ∧
    (∀ (a0 : Nat) (a1 : Int32) (x0 : Int32) (x1 : Int32) (x2 : Nat) (τ : St), Ru M_Text_takeTwoDigits d Q 21 [some (.ref a0), some (.int a1), none] [.int x0, .int x1, .ref x2] τ = (isA 6 x2 ∧ Cl d m_Text_takeDigit [.ref x2, .int x1, .int x0] τ (fun v τ' => Ru M_Text_takeTwoDigits d Q 24 [some (.ref a0), some (.int a1), none] (v.toList ++ []) τ'))) ∧
    (∀ (a0 : Nat) (a1 : Int32) (x0 : Int32) (τ : St), Ru M_Text_takeTwoDigits d Q 24 [some (.ref a0), some (.int a1), none] [.int x0] τ = Ru M_Text_takeTwoDigits d Q 25 [some (.ref a0), some (.int a1), some (.int x0)] [] τ) ∧
    (∀ (a0 : Nat) (a1 : Int32) (a2 : Int32) (τ : St), Ru M_Text_takeTwoDigits d Q 25 [some (.ref a0), some (.int a1), some (.int a2)] [] τ = Ru M_Text_takeTwoDigits d Q 26 [some (.ref a0), some (.int a1), some (.int a2)] [.int a2] τ) ∧
    (∀ (a0 : Nat) (a1 : Int32) (a2 : Int32) (x0 : Int32) (τ : St), Ru M_Text_takeTwoDigits d Q 26 [some (.ref a0), some (.int a1), some (.int a2)] [.int x0] τ = Ru M_Text_takeTwoDigits d Q 27 [some (.ref a0), some (.int a1), some (.int a2)] [.int (-1), .int x0] τ) ∧
    (∀ (a0 : Nat) (a1 : Int32) (a2 : Int32) (x0 : Int32) (x1 : Int32) (τ : St), Ru M_Text_takeTwoDigits d Q 27 [some (.ref a0), some (.int a1), some (.int a2)] [.int x0, .int x1] τ = ((¬ x1 = x0 → Ru M_Text_takeTwoDigits d Q 34 [some (.ref a0), some (.int a1), some (.int a2)] [] τ) ∧ (x1 = x0 → Ru M_Text_takeTwoDigits d Q 30 [some (.ref a0), some (.int a1), some (.int a2)] [] τ))) ∧
    (∀ (a0 : Nat) (a1 : Int32) (a2 : Int32) (τ : St), Ru M_Text_takeTwoDigits d Q 30 [some (.ref a0), some (.int a1), some (.int a2)] [] τ = Ru M_Text_takeTwoDigits d Q 31 [some (.ref a0), some (.int a1), some (.int a2)] [.int (-1)] τ) ∧
    (∀ (a0 : Nat) (a1 : Int32) (a2 : Int32) (x0 : Int32) (τ : St), Ru M_Text_takeTwoDigits d Q 31 [some (.ref a0), some (.int a1), some (.int a2)] [.int x0] τ = Ru M_Text_takeTwoDigits d Q 40 [some (.ref a0), some (.int a1), some (.int a2)] [.int x0] τ) ∧
    (∀ (a0 : Nat) (a1 : Int32) (a2 : Int32) (τ : St), Ru M_Text_takeTwoDigits d Q 34 [some (.ref a0), some (.int a1), some (.int a2)] [] τ = Ru M_Text_takeTwoDigits d Q 35 [some (.ref a0), some (.int a1), some (.int a2)] [.int a1] τ) ∧
    (∀ (a0 : Nat) (a1 : Int32) (a2 : Int32) (x0 : Int32) (τ : St), Ru M_Text_takeTwoDigits d Q 35 [some (.ref a0), some (.int a1), some (.int a2)] [.int x0] τ = Ru M_Text_takeTwoDigits d Q 37 [some (.ref a0), some (.int a1), some (.int a2)] [.int 10, .int x0] τ) ∧
    (∀ (a0 : Nat) (a1 : Int32) (a2 : Int32) (x0 : Int32) (x1 : Int32) (τ : St), Ru M_Text_takeTwoDigits d Q 37 [some (.ref a0), some (.int a1), some (.int a2)] [.int x0, .int x1] τ = Ru M_Text_takeTwoDigits d Q 38 [some (.ref a0), some (.int a1), some (.int a2)] [.int (x1 * x0)] τ) ∧
    (∀ (a0 : Nat) (a1 : Int32) (a2 : Int32) (x0 : Int32) (τ : St), Ru M_Text_takeTwoDigits d Q 38 [some (.ref a0), some (.int a1), some (.int a2)] [.int x0] τ = Ru M_Text_takeTwoDigits d Q 39 [some (.ref a0), some (.int a1), some (.int a2)] [.int a2, .int x0] τ) ∧
    (∀ (a0 : Nat) (a1 : Int32) (a2 : Int32) (x0 : Int32) (x1 : Int32) (τ : St), Ru M_Text_takeTwoDigits d Q 39 [some (.ref a0), some (.int a1), some (.int a2)] [.int x0, .int x1] τ = Ru M_Text_takeTwoDigits d Q 40 [some (.ref a0), some (.int a1), some (.int a2)] [.int (x1 + x0)] τ) ∧
    (∀ (a0 : Nat) (a1 : Int32) (a2 : Int32) (x0 : Int32) (τ : St), Ru M_Text_takeTwoDigits d Q 40 [some (.ref a0), some (.int a1), some (.int a2)] [.int x0] τ = Q (some (.int x0)) τ) := ⟨
  fun _ _ => (R_at ok_Text_takeTwoDigits rfl).trans (e_ald rfl),
  fun _ _ _ => (R_at ok_Text_takeTwoDigits rfl).trans e_push,
  fun _ _ _ _ => (R_at ok_Text_takeTwoDigits rfl).trans e_push,
  fun _ x0 x1 _ _ => (R_at ok_Text_takeTwoDigits rfl).trans (e_cv [.int x1, .int x0] rfl rfl rfl),
  fun _ _ _ => (R_at ok_Text_takeTwoDigits rfl).trans e_ist,
  fun _ _ _ => (R_at ok_Text_takeTwoDigits rfl).trans (e_ild rfl),
  fun _ _ _ _ => (R_at ok_Text_takeTwoDigits rfl).trans e_push,
  fun _ _ _ _ _ => (R_at ok_Text_takeTwoDigits rfl).trans e_icn,
  fun _ _ _ => (R_at ok_Text_takeTwoDigits rfl).trans e_push,
  fun _ _ _ _ => (R_at ok_Text_takeTwoDigits rfl).trans e_goto,
  fun _ _ _ => (R_at ok_Text_takeTwoDigits rfl).trans (e_ald rfl),
  fun _ _ _ _ => (R_at ok_Text_takeTwoDigits rfl).trans e_push,
  fun _ _ _ _ _ => (R_at ok_Text_takeTwoDigits rfl).trans e_push,
  fun _ _ x0 x1 _ _ => (R_at ok_Text_takeTwoDigits rfl).trans (e_cv [.int x1, .int x0] rfl rfl rfl),
  fun _ _ _ _ => (R_at ok_Text_takeTwoDigits rfl).trans e_ist,
  fun _ _ _ _ => (R_at ok_Text_takeTwoDigits rfl).trans (e_ild rfl),
  fun _ _ _ _ _ => (R_at ok_Text_takeTwoDigits rfl).trans e_push,
  fun _ _ _ _ _ _ => (R_at ok_Text_takeTwoDigits rfl).trans e_icn,
  fun _ _ _ _ => (R_at ok_Text_takeTwoDigits rfl).trans e_push,
  fun _ _ _ _ _ => (R_at ok_Text_takeTwoDigits rfl).trans e_goto,
  fun _ _ _ _ => (R_at ok_Text_takeTwoDigits rfl).trans (e_ild rfl),
  fun _ _ _ _ _ => (R_at ok_Text_takeTwoDigits rfl).trans e_push,
  fun _ _ _ _ _ _ => (R_at ok_Text_takeTwoDigits rfl).trans e_bin,
  fun _ _ _ _ _ => (R_at ok_Text_takeTwoDigits rfl).trans (e_ild rfl),
  fun _ _ _ _ _ _ => (R_at ok_Text_takeTwoDigits rfl).trans e_bin,
  fun _ _ _ _ _ => (R_at ok_Text_takeTwoDigits rfl).trans e_iret⟩
set_option maxHeartbeats 4000000 in
theorem N_Town_settle (d : Nat) (Q : Qt) : ∀ (x0 : Nat) (x1 : Int32) (x2 : Int32) (τ : St), Cl (d + 1) m_Town_settle [.ref x0, .int x1, .int x2] τ Q = Ru M_Town_settle d Q 0 [some (.ref x0), some (.int x1), some (.int x2), none, none] [] τ := fun _ _ _ _ => propext ⟨fun h => h.2, fun h => ⟨Nat.le_of_ble_eq_true rfl, h⟩⟩
set_option maxHeartbeats 4000000 in
theorem E_Town_settle (d : Nat) (Q : Qt) :
    (∀ (a0 : Nat) (a1 : Int32) (a2 : Int32) (τ : St), Ru M_Town_settle d Q 0 [some (.ref a0), some (.int a1), some (.int a2), none, none] [] τ = Ru M_Town_settle d Q 1 [some (.ref a0), some (.int a1), some (.int a2), none, none] [.int 0] τ) ∧
    (∀ (a0 : Nat) (a1 : Int32) (a2 : Int32) (x0 : Int32) (τ : St), Ru M_Town_settle d Q 1 [some (.ref a0), some (.int a1), some (.int a2), none, none] [.int x0] τ = Rs M_Town_settle d Q 2 [some (.ref a0), some (.int a1), some (.int a2), some (.int x0), none] [] τ) ∧
    (∀ (a0 : Nat) (a1 : Int32) (a2 : Int32) (a3 : Int32) (τ : St), Ru M_Town_settle d Q 2 [some (.ref a0), some (.int a1), some (.int a2), some (.int a3), none] [] τ = Ru M_Town_settle d Q 3 [some (.ref a0), some (.int a1), some (.int a2), some (.int a3), none] [.int a3] τ) ∧
    (∀ (a0 : Nat) (a1 : Int32) (a2 : Int32) (a3 : Int32) (x0 : Int32) (τ : St), Ru M_Town_settle d Q 3 [some (.ref a0), some (.int a1), some (.int a2), some (.int a3), none] [.int x0] τ = Ru M_Town_settle d Q 4 [some (.ref a0), some (.int a1), some (.int a2), some (.int a3), none] [.int a1, .int x0] τ) ∧
    (∀ (a0 : Nat) (a1 : Int32) (a2 : Int32) (a3 : Int32) (x0 : Int32) (x1 : Int32) (τ : St), Ru M_Town_settle d Q 4 [some (.ref a0), some (.int a1), some (.int a2), some (.int a3), none] [.int x0, .int x1] τ = ((x0 < x1 → Ru M_Town_settle d Q 37 [some (.ref a0), some (.int a1), some (.int a2), some (.int a3), none] [] τ) ∧ (¬ x0 < x1 → Ru M_Town_settle d Q 7 [some (.ref a0), some (.int a1), some (.int a2), some (.int a3), none] [] τ))) ∧
    (∀ (a0 : Nat) (a1 : Int32) (a2 : Int32) (a3 : Int32) (τ : St), Ru M_Town_settle d Q 7 [some (.ref a0), some (.int a1), some (.int a2), some (.int a3), none] [] τ = Ru M_Town_settle d Q 8 [some (.ref a0), some (.int a1), some (.int a2), some (.int a3), none] [.int a3] τ) ∧
    (∀ (a0 : Nat) (a1 : Int32) (a2 : Int32) (a3 : Int32) (x0 : Int32) (τ : St), Ru M_Town_settle d Q 8 [some (.ref a0), some (.int a1), some (.int a2), some (.int a3), none] [.int x0] τ = Ru M_Town_settle d Q 10 [some (.ref a0), some (.int a1), some (.int a2), some (.int a3), none] [.int 60, .int x0] τ) ∧
    (∀ (a0 : Nat) (a1 : Int32) (a2 : Int32) (a3 : Int32) (x0 : Int32) (x1 : Int32) (τ : St), Ru M_Town_settle d Q 10 [some (.ref a0), some (.int a1), some (.int a2), some (.int a3), none] [.int x0, .int x1] τ = ((x0 < x1 → Ru M_Town_settle d Q 37 [some (.ref a0), some (.int a1), some (.int a2), some (.int a3), none] [] τ) ∧ (¬ x0 < x1 → Ru M_Town_settle d Q 13 [some (.ref a0), some (.int a1), some (.int a2), some (.int a3), none] [] τ))) ∧
    (∀ (a0 : Nat) (a1 : Int32) (a2 : Int32) (a3 : Int32) (τ : St), Ru M_Town_settle d Q 13 [some (.ref a0), some (.int a1), some (.int a2), some (.int a3), none] [] τ = Ru M_Town_settle d Q 14 [some (.ref a0), some (.int a1), some (.int a2), some (.int a3), none] [.ref a0] τ) ∧
    (∀ (a0 : Nat) (a1 : Int32) (a2 : Int32) (a3 : Int32) (x0 : Nat) (τ : St), Ru M_Town_settle d Q 14 [some (.ref a0), some (.int a1), some (.int a2), some (.int a3), none] [.ref x0] τ = (isA 7 x0 ∧ Ru M_Town_settle d Q 17 [some (.ref a0), some (.int a1), some (.int a2), some (.int a3), none] [.ref (rtab x0 0)] τ)) ∧
    (∀ (a0 : Nat) (a1 : Int32) (a2 : Int32) (a3 : Int32) (x0 : Nat) (τ : St), Ru M_Town_settle d Q 17 [some (.ref a0), some (.int a1), some (.int a2), some (.int a3), none] [.ref x0] τ = Ru M_Town_settle d Q 18 [some (.ref a0), some (.int a1), some (.int a2), some (.int a3), none] [.int a3, .ref x0] τ) ∧
    (∀ (a0 : Nat) (a1 : Int32) (a2 : Int32) (a3 : Int32) (x0 : Int32) (x1 : Nat) (τ : St), Ru M_Town_settle d Q 18 [some (.ref a0), some (.int a1), some (.int a2), some (.int a3), none] [.int x0, .ref x1] τ = Ru M_Town_settle d Q 19 [some (.ref a0), some (.int a1), some (.int a2), some (.int a3), none] [.int 0, .int x0, .ref x1] τ) ∧
    (∀ (a0 : Nat) (a1 : Int32) (a2 : Int32) (a3 : Int32) (x0 : Int32) (x1 : Int32) (x2 : Nat) (τ : St), Ru M_Town_settle d Q 19 [some (.ref a0), some (.int a1), some (.int a2), some (.int a3), none] [.int x0, .int x1, .ref x2] τ = (isA 14 x2 ∧ vp_in x1 (len x2) ∧ Ru M_Town_settle d Q 20 [some (.ref a0), some (.int a1), some (.int a2), some (.int a3), none] [] (sI τ x2 x1.toNatClampNeg (x0)))) ∧
    (∀ (a0 : Nat) (a1 : Int32) (a2 : Int32) (a3 : Int32) (τ : St), Ru M_Town_settle d Q 20 [some (.ref a0), some (.int a1), some (.int a2), some (.int a3), none] [] τ = Ru M_Town_settle d Q 21 [some (.ref a0), some (.int a1), some (.int a2), some (.int a3), none] [.ref a0] τ) ∧
    (∀ (a0 : Nat) (a1 : Int32) (a2 : Int32) (a3 : Int32) (x0 : Nat) (τ : St), Ru M_Town_settle d Q 21 [some (.ref a0), some (.int a1), some (.int a2), some (.int a3), none] [.ref x0] τ = (isA 7 x0 ∧ Ru M_Town_settle d Q 24 [some (.ref a0), some (.int a1), some (.int a2), some (.int a3), none] [.ref (rtab x0 1)] τ)) ∧
    (∀ (a0 : Nat) (a1 : Int32) (a2 : Int32) (a3 : Int32) (x0 : Nat) (τ : St), Ru M_Town_settle d Q 24 [some (.ref a0), some (.int a1), some (.int a2), some (.int a3), none] [.ref x0] τ = Ru M_Town_settle d Q 25 [some (.ref a0), some (.int a1), some (.int a2), some (.int a3), none] [.int a3, .ref x0] τ) ∧
    (∀ (a0 : Nat) (a1 : Int32) (a2 : Int32) (a3 : Int32) (x0 : Int32) (x1 : Nat) (τ : St), Ru M_Town_settle d Q 25 [some (.ref a0), some (.int a1), some (.int a2), some (.int a3), none] [.int x0, .ref x1] τ = Ru M_Town_settle d Q 26 [some (.ref a0), some (.int a1), some (.int a2), some (.int a3), none] [.int a1, .int x0, .ref x1] τ) ∧
    (∀ (a0 : Nat) (a1 : Int32) (a2 : Int32) (a3 : Int32) (x0 : Int32) (x1 : Int32) (x2 : Nat) (τ : St), Ru M_Town_settle d Q 26 [some (.ref a0), some (.int a1), some (.int a2), some (.int a3), none] [.int x0, .int x1, .ref x2] τ = Ru M_Town_settle d Q 27 [some (.ref a0), some (.int a1), some (.int a2), some (.int a3), none] [.int a3, .int x0, .int x1, .ref x2] τ) ∧
    (∀ (a0 : Nat) (a1 : Int32) (a2 : Int32) (a3 : Int32) (x0 : Int32) (x1 : Int32) (x2 : Int32) (x3 : Nat) (τ : St), Ru M_Town_settle d Q 27 [some (.ref a0), some (.int a1), some (.int a2), some (.int a3), none] [.int x0, .int x1, .int x2, .ref x3] τ = Cl d m_Town_leftOf [.int x1, .int x0] τ (fun v τ' => Ru M_Town_settle d Q 30 [some (.ref a0), some (.int a1), some (.int a2), some (.int a3), none] (v.toList ++ [.int x2, .ref x3]) τ')) ∧
    (∀ (a0 : Nat) (a1 : Int32) (a2 : Int32) (a3 : Int32) (x0 : Int32) (x1 : Int32) (x2 : Nat) (τ : St), Ru M_Town_settle d Q 30 [some (.ref a0), some (.int a1), some (.int a2), some (.int a3), none] [.int x0, .int x1, .ref x2] τ = (isA 14 x2 ∧ vp_in x1 (len x2) ∧ Ru M_Town_settle d Q 31 [some (.ref a0), some (.int a1), some (.int a2), some (.int a3), none] [] (sI τ x2 x1.toNatClampNeg (x0)))) ∧
    (∀ (a0 : Nat) (a1 : Int32) (a2 : Int32) (a3 : Int32) (τ : St), Ru M_Town_settle d Q 31 [some (.ref a0), some (.int a1), some (.int a2), some (.int a3), none] [] τ = Ru M_Town_settle d Q 34 [some (.ref a0), some (.int a1), some (.int a2), some (.int (a3 + 1)), none] [] τ) ∧
    (∀ (a0 : Nat) (a1 : Int32) (a2 : Int32) (a3 : Int32) (τ : St), Ru M_Town_settle d Q 34 [some (.ref a0), some (.int a1), some (.int a2), some (.int a3), none] [] τ = Rs M_Town_settle d Q 2 [some (.ref a0), some (.int a1), some (.int a2), some (.int a3), none] [] τ) ∧
    (∀ (a0 : Nat) (a1 : Int32) (a2 : Int32) (a3 : Int32) (τ : St), Ru M_Town_settle d Q 37 [some (.ref a0), some (.int a1), some (.int a2), some (.int a3), none] [] τ = Ru M_Town_settle d Q 38 [some (.ref a0), some (.int a1), some (.int a2), some (.int a3), none] [.int 0] τ) ∧
    (∀ (a0 : Nat) (a1 : Int32) (a2 : Int32) (a3 : Int32) (x0 : Int32) (τ : St), Ru M_Town_settle d Q 38 [some (.ref a0), some (.int a1), some (.int a2), some (.int a3), none] [.int x0] τ = Rs M_Town_settle d Q 39 [some (.ref a0), some (.int a1), some (.int a2), some (.int x0), none] [] τ) ∧
    (∀ (a0 : Nat) (a1 : Int32) (a2 : Int32) (a3 : Int32) (a4 : Option Value) (τ : St), Ru M_Town_settle d Q 39 [some (.ref a0), some (.int a1), some (.int a2), some (.int a3), a4] [] τ = Ru M_Town_settle d Q 40 [some (.ref a0), some (.int a1), some (.int a2), some (.int a3), a4] [.int a3] τ) ∧
    (∀ (a0 : Nat) (a1 : Int32) (a2 : Int32) (a3 : Int32) (a4 : Option Value) (x0 : Int32) (τ : St), Ru M_Town_settle d Q 40 [some (.ref a0), some (.int a1), some (.int a2), some (.int a3), a4] [.int x0] τ = Ru M_Town_settle d Q 41 [some (.ref a0), some (.int a1), some (.int a2), some (.int a3), a4] [.int a2, .int x0] τ) ∧
    (∀ (a0 : Nat) (a1 : Int32) (a2 : Int32) (a3 : Int32) (a4 : Option Value) (x0 : Int32) (x1 : Int32) (τ : St), Ru M_Town_settle d Q 41 [some (.ref a0), some (.int a1), some (.int a2), some (.int a3), a4] [.int x0, .int x1] τ = ((x0 ≤ x1 → Ru M_Town_settle d Q 79 [some (.ref a0), some (.int a1), some (.int a2), some (.int a3), a4] [] τ) ∧ (¬ x0 ≤ x1 → Ru M_Town_settle d Q 44 [some (.ref a0), some (.int a1), some (.int a2), some (.int a3), a4] [] τ))) ∧
    (∀ (a0 : Nat) (a1 : Int32) (a2 : Int32) (a3 : Int32) (a4 : Option Value) (τ : St), Ru M_Town_settle d Q 44 [some (.ref a0), some (.int a1), some (.int a2), some (.int a3), a4] [] τ = Ru M_Town_settle d Q 45 [some (.ref a0), some (.int a1), some (.int a2), some (.int a3), a4] [.int 0] τ) ∧
    (∀ (a0 : Nat) (a1 : Int32) (a2 : Int32) (a3 : Int32) (a4 : Option Value) (x0 : Int32) (τ : St), Ru M_Town_settle d Q 45 [some (.ref a0), some (.int a1), some (.int a2), some (.int a3), a4] [.int x0] τ = Rs M_Town_settle d Q 47 [some (.ref a0), some (.int a1), some (.int a2), some (.int a3), some (.int x0)] [] τ) ∧
    (∀ (a0 : Nat) (a1 : Int32) (a2 : Int32) (a3 : Int32) (a4 : Int32) (τ : St), Ru M_Town_settle d Q 47 [some (.ref a0), some (.int a1), some (.int a2), some (.int a3), some (.int a4)] [] τ = Ru M_Town_settle d Q 49 [some (.ref a0), some (.int a1), some (.int a2), some (.int a3), some (.int a4)] [.int a4] τ) ∧
    (∀ (a0 : Nat) (a1 : Int32) (a2 : Int32) (a3 : Int32) (a4 : Int32) (x0 : Int32) (τ : St), Ru M_Town_settle d Q 49 [some (.ref a0), some (.int a1), some (.int a2), some (.int a3), some (.int a4)] [.int x0] τ = Ru M_Town_settle d Q 50 [some (.ref a0), some (.int a1), some (.int a2), some (.int a3), some (.int a4)] [.int a1, .int x0] τ) ∧
    (∀ (a0 : Nat) (a1 : Int32) (a2 : Int32) (a3 : Int32) (a4 : Int32) (x0 : Int32) (x1 : Int32) (τ : St), Ru M_Town_settle d Q 50 [some (.ref a0), some (.int a1), some (.int a2), some (.int a3), some (.int a4)] [.int x0, .int x1] τ = ((x0 < x1 → Ru M_Town_settle d Q 73 [some (.ref a0), some (.int a1), some (.int a2), some (.int a3), some (.int a4)] [] τ) ∧ (¬ x0 < x1 → Ru M_Town_settle d Q 53 [some (.ref a0), some (.int a1), some (.int a2), some (.int a3), some (.int a4)] [] τ))) ∧
    (∀ (a0 : Nat) (a1 : Int32) (a2 : Int32) (a3 : Int32) (a4 : Int32) (τ : St), Ru M_Town_settle d Q 53 [some (.ref a0), some (.int a1), some (.int a2), some (.int a3), some (.int a4)] [] τ = Ru M_Town_settle d Q 55 [some (.ref a0), some (.int a1), some (.int a2), some (.int a3), some (.int a4)] [.int a4] τ) ∧
    (∀ (a0 : Nat) (a1 : Int32) (a2 : Int32) (a3 : Int32) (a4 : Int32) (x0 : Int32) (τ : St), Ru M_Town_settle d Q 55 [some (.ref a0), some (.int a1), some (.int a2), some (.int a3), some (.int a4)] [.int x0] τ = Ru M_Town_settle d Q 57 [some (.ref a0), some (.int a1), some (.int a2), some (.int a3), some (.int a4)] [.int 60, .int x0] τ) ∧
    (∀ (a0 : Nat) (a1 : Int32) (a2 : Int32) (a3 : Int32) (a4 : Int32) (x0 : Int32) (x1 : Int32) (τ : St), Ru M_Town_settle d Q 57 [some (.ref a0), some (.int a1), some (.int a2), some (.int a3), some (.int a4)] [.int x0, .int x1] τ = ((x0 < x1 → Ru M_Town_settle d Q 73 [some (.ref a0), some (.int a1), some (.int a2), some (.int a3), some (.int a4)] [] τ) ∧ (¬ x0 < x1 → Ru M_Town_settle d Q 60 [some (.ref a0), some (.int a1), some (.int a2), some (.int a3), some (.int a4)] [] τ))) ∧
    (∀ (a0 : Nat) (a1 : Int32) (a2 : Int32) (a3 : Int32) (a4 : Int32) (τ : St), Ru M_Town_settle d Q 60 [some (.ref a0), some (.int a1), some (.int a2), some (.int a3), some (.int a4)] [] τ = Ru M_Town_settle d Q 61 [some (.ref a0), some (.int a1), some (.int a2), some (.int a3), some (.int a4)] [.ref a0] τ) ∧
    (∀ (a0 : Nat) (a1 : Int32) (a2 : Int32) (a3 : Int32) (a4 : Int32) (x0 : Nat) (τ : St), Ru M_Town_settle d Q 61 [some (.ref a0), some (.int a1), some (.int a2), some (.int a3), some (.int a4)] [.ref x0] τ = Ru M_Town_settle d Q 62 [some (.ref a0), some (.int a1), some (.int a2), some (.int a3), some (.int a4)] [.int a1, .ref x0] τ) ∧
    (∀ (a0 : Nat) (a1 : Int32) (a2 : Int32) (a3 : Int32) (a4 : Int32) (x0 : Int32) (x1 : Nat) (τ : St), Ru M_Town_settle d Q 62 [some (.ref a0), some (.int a1), some (.int a2), some (.int a3), some (.int a4)] [.int x0, .ref x1] τ = Ru M_Town_settle d Q 64 [some (.ref a0), some (.int a1), some (.int a2), some (.int a3), some (.int a4)] [.int a4, .int x0, .ref x1] τ) ∧
    (∀ (a0 : Nat) (a1 : Int32) (a2 : Int32) (a3 : Int32) (a4 : Int32) (x0 : Int32) (x1 : Int32) (x2 : Nat) (τ : St), Ru M_Town_settle d Q 64 [some (.ref a0), some (.int a1), some (.int a2), some (.int a3), some (.int a4)] [.int x0, .int x1, .ref x2] τ = (isA 7 x2 ∧ Cl d m_Town_takeTurn [.ref x2, .int x1, .int x0] τ (fun v τ' => Ru M_Town_settle d Q 67 [some (.ref a0), some (.int a1), some (.int a2), some (.int a3), some (.int a4)] (v.toList ++ []) τ'))) ∧
    (∀ (a0 : Nat) (a1 : Int32) (a2 : Int32) (a3 : Int32) (a4 : Int32) (τ : St), Ru M_Town_settle d Q 67 [some (.ref a0), some (.int a1), some (.int a2), some (.int a3), some (.int a4)] [] τ = Ru M_Town_settle d Q 70 [some (.ref a0), some (.int a1), some (.int a2), some (.int a3), some (.int (a4 + 1))] [] τ) ∧
    (∀ (a0 : Nat) (a1 : Int32) (a2 : Int32) (a3 : Int32) (a4 : Int32) (τ : St), Ru M_Town_settle d Q 70 [some (.ref a0), some (.int a1), some (.int a2), some (.int a3), some (.int a4)] [] τ = Rs M_Town_settle d Q 47 [some (.ref a0), some (.int a1), some (.int a2), some (.int a3), some (.int a4)] [] τ) ∧
    (∀ (a0 : Nat) (a1 : Int32) (a2 : Int32) (a3 : Int32) (a4 : Int32) (τ : St), Ru M_Town_settle d Q 73 [some (.ref a0), some (.int a1), some (.int a2), some (.int a3), some (.int a4)] [] τ = Ru M_Town_settle d Q 76 [some (.ref a0), some (.int a1), some (.int a2), some (.int (a3 + 1)), some (.int a4)] [] τ) ∧
    (∀ (a0 : Nat) (a1 : Int32) (a2 : Int32) (a3 : Int32) (a4 : Int32) (τ : St), Ru M_Town_settle d Q 76 [some (.ref a0), some (.int a1), some (.int a2), some (.int a3), some (.int a4)] [] τ = Rs M_Town_settle d Q 39 [some (.ref a0), some (.int a1), some (.int a2), some (.int a3), some (.int a4)] [] τ) ∧
    (∀ (a0 : Nat) (a1 : Int32) (a2 : Int32) (a3 : Int32) (a4 : Option Value) (τ : St), Ru M_Town_settle d Q 79 [some (.ref a0), some (.int a1), some (.int a2), some (.int a3), a4] [] τ = Q none τ) := ⟨
  fun _ _ _ _ => (R_at ok_Town_settle rfl).trans e_push,
  fun _ _ _ _ _ => (R_at ok_Town_settle rfl).trans e_ist,
  fun _ _ _ _ _ => (R_at ok_Town_settle rfl).trans (e_ild rfl),
  fun _ _ _ _ _ _ => (R_at ok_Town_settle rfl).trans (e_ild rfl),
  fun _ _ _ _ _ _ _ => (R_at ok_Town_settle rfl).trans e_ic,
  fun _ _ _ _ _ => (R_at ok_Town_settle rfl).trans (e_ild rfl),
  fun _ _ _ _ _ _ => (R_at ok_Town_settle rfl).trans e_push,
  fun _ _ _ _ _ _ _ => (R_at ok_Town_settle rfl).trans e_ic,
  fun _ _ _ _ _ => (R_at ok_Town_settle rfl).trans (e_ald rfl),
  fun _ _ _ _ _ _ => (R_at ok_Town_settle rfl).trans e_gR,
  fun _ _ _ _ _ _ => (R_at ok_Town_settle rfl).trans (e_ild rfl),
  fun _ _ _ _ _ _ _ => (R_at ok_Town_settle rfl).trans e_push,
  fun _ _ _ _ _ _ _ _ => (R_at ok_Town_settle rfl).trans e_as,
  fun _ _ _ _ _ => (R_at ok_Town_settle rfl).trans (e_ald rfl),
  fun _ _ _ _ _ _ => (R_at ok_Town_settle rfl).trans e_gR,
  fun _ _ _ _ _ _ => (R_at ok_Town_settle rfl).trans (e_ild rfl),
  fun _ _ _ _ _ _ _ => (R_at ok_Town_settle rfl).trans (e_ild rfl),
  fun _ _ _ _ _ _ _ _ => (R_at ok_Town_settle rfl).trans (e_ild rfl),
  fun _ _ _ _ x0 x1 _ _ _ => (R_at ok_Town_settle rfl).trans (e_cs [.int x1, .int x0] rfl rfl rfl),
  fun _ _ _ _ _ _ _ _ => (R_at ok_Town_settle rfl).trans e_as,
  fun _ _ _ _ _ => (R_at ok_Town_settle rfl).trans (e_iinc rfl),
  fun _ _ _ _ _ => (R_at ok_Town_settle rfl).trans e_goto,
  fun _ _ _ _ _ => (R_at ok_Town_settle rfl).trans e_push,
  fun _ _ _ _ _ _ => (R_at ok_Town_settle rfl).trans e_ist,
  fun _ _ _ _ _ _ => (R_at ok_Town_settle rfl).trans (e_ild rfl),
  fun _ _ _ _ _ _ _ => (R_at ok_Town_settle rfl).trans (e_ild rfl),
  fun _ _ _ _ _ _ _ _ => (R_at ok_Town_settle rfl).trans e_ic,
  fun _ _ _ _ _ _ => (R_at ok_Town_settle rfl).trans e_push,
  fun _ _ _ _ _ _ _ => (R_at ok_Town_settle rfl).trans e_ist,
  fun _ _ _ _ _ _ => (R_at ok_Town_settle rfl).trans (e_ild rfl),
  fun _ _ _ _ _ _ _ => (R_at ok_Town_settle rfl).trans (e_ild rfl),
  fun _ _ _ _ _ _ _ _ => (R_at ok_Town_settle rfl).trans e_ic,
  fun _ _ _ _ _ _ => (R_at ok_Town_settle rfl).trans (e_ild rfl),
  fun _ _ _ _ _ _ _ => (R_at ok_Town_settle rfl).trans e_push,
  fun _ _ _ _ _ _ _ _ => (R_at ok_Town_settle rfl).trans e_ic,
  fun _ _ _ _ _ _ => (R_at ok_Town_settle rfl).trans (e_ald rfl),
  fun _ _ _ _ _ _ _ => (R_at ok_Town_settle rfl).trans (e_ild rfl),
  fun _ _ _ _ _ _ _ _ => (R_at ok_Town_settle rfl).trans (e_ild rfl),
  fun _ _ _ _ _ x0 x1 _ _ => (R_at ok_Town_settle rfl).trans (e_cv [.int x1, .int x0] rfl rfl rfl),
  fun _ _ _ _ _ _ => (R_at ok_Town_settle rfl).trans (e_iinc rfl),
  fun _ _ _ _ _ _ => (R_at ok_Town_settle rfl).trans e_goto,
  fun _ _ _ _ _ _ => (R_at ok_Town_settle rfl).trans (e_iinc rfl),
  fun _ _ _ _ _ _ => (R_at ok_Town_settle rfl).trans e_goto,
  fun _ _ _ _ _ _ => (R_at ok_Town_settle rfl).trans e_vret⟩
set_option maxHeartbeats 4000000 in
theorem N_Town_takeTurn (d : Nat) (Q : Qt) : ∀ (x0 : Nat) (x1 : Int32) (x2 : Int32) (τ : St), Cl (d + 1) m_Town_takeTurn [.ref x0, .int x1, .int x2] τ Q = Ru M_Town_takeTurn d Q 0 [some (.ref x0), some (.int x1), some (.int x2), none, none, none, none] [] τ := fun _ _ _ _ => propext ⟨fun h => h.2, fun h => ⟨Nat.le_of_ble_eq_true rfl, h⟩⟩
set_option maxHeartbeats 4000000 in
theorem E_Town_takeTurn (d : Nat) (Q : Qt) :
    (∀ (a0 : Nat) (a1 : Int32) (a2 : Int32) (τ : St), Ru M_Town_takeTurn d Q 0 [some (.ref a0), some (.int a1), some (.int a2), none, none, none, none] [] τ = Ru M_Town_takeTurn d Q 1 [some (.ref a0), some (.int a1), some (.int a2), none, none, none, none] [.int 0] τ) ∧
    (∀ (a0 : Nat) (a1 : Int32) (a2 : Int32) (x0 : Int32) (τ : St), Ru M_Town_takeTurn d Q 1 [some (.ref a0), some (.int a1), some (.int a2), none, none, none, none] [.int x0] τ = Ru M_Town_takeTurn d Q 2 [some (.ref a0), some (.int a1), some (.int a2), some (.int x0), none, none, none] [] τ) ∧
    (∀ (a0 : Nat) (a1 : Int32) (a2 : Int32) (a3 : Int32) (τ : St), Ru M_Town_takeTurn d Q 2 [some (.ref a0), some (.int a1), some (.int a2), some (.int a3), none, none, none] [] τ = Ru M_Town_takeTurn d Q 3 [some (.ref a0), some (.int a1), some (.int a2), some (.int a3), none, none, none] [.int a1] τ) ∧
    (∀ (a0 : Nat) (a1 : Int32) (a2 : Int32) (a3 : Int32) (x0 : Int32) (τ : St), Ru M_Town_takeTurn d Q 3 [some (.ref a0), some (.int a1), some (.int a2), some (.int a3), none, none, none] [.int x0] τ = Ru M_Town_takeTurn d Q 4 [some (.ref a0), some (.int a1), some (.int a2), some (.int a3), none, none, none] [.int a2, .int x0] τ) ∧
    (∀ (a0 : Nat) (a1 : Int32) (a2 : Int32) (a3 : Int32) (x0 : Int32) (x1 : Int32) (τ : St), Ru M_Town_takeTurn d Q 4 [some (.ref a0), some (.int a1), some (.int a2), some (.int a3), none, none, none] [.int x0, .int x1] τ = Cl d m_Town_leftOf [.int x1, .int x0] τ (fun v τ' => Ru M_Town_takeTurn d Q 7 [some (.ref a0), some (.int a1), some (.int a2), some (.int a3), none, none, none] (v.toList ++ []) τ')) ∧
    (∀ (a0 : Nat) (a1 : Int32) (a2 : Int32) (a3 : Int32) (x0 : Int32) (τ : St), Ru M_Town_takeTurn d Q 7 [some (.ref a0), some (.int a1), some (.int a2), some (.int a3), none, none, none] [.int x0] τ = Ru M_Town_takeTurn d Q 9 [some (.ref a0), some (.int a1), some (.int a2), some (.int a3), some (.int x0), none, none] [] τ) ∧
    (∀ (a0 : Nat) (a1 : Int32) (a2 : Int32) (a3 : Int32) (a4 : Int32) (τ : St), Ru M_Town_takeTurn d Q 9 [some (.ref a0), some (.int a1), some (.int a2), some (.int a3), some (.int a4), none, none] [] τ = Ru M_Town_takeTurn d Q 10 [some (.ref a0), some (.int a1), some (.int a2), some (.int a3), some (.int a4), none, none] [.int 0] τ) ∧
    (∀ (a0 : Nat) (a1 : Int32) (a2 : Int32) (a3 : Int32) (a4 : Int32) (x0 : Int32) (τ : St), Ru M_Town_takeTurn d Q 10 [some (.ref a0), some (.int a1), some (.int a2), some (.int a3), some (.int a4), none, none] [.int x0] τ = Ru M_Town_takeTurn d Q 12 [some (.ref a0), some (.int a1), some (.int a2), some (.int a3), some (.int a4), some (.int x0), none] [] τ) ∧
    (∀ (a0 : Nat) (a1 : Int32) (a2 : Int32) (a3 : Int32) (a4 : Int32) (a5 : Int32) (τ : St), Ru M_Town_takeTurn d Q 12 [some (.ref a0), some (.int a1), some (.int a2), some (.int a3), some (.int a4), some (.int a5), none] [] τ = Ru M_Town_takeTurn d Q 13 [some (.ref a0), some (.int a1), some (.int a2), some (.int a3), some (.int a4), some (.int a5), none] [.int 1] τ) ∧
    (∀ (a0 : Nat) (a1 : Int32) (a2 : Int32) (a3 : Int32) (a4 : Int32) (a5 : Int32) (x0 : Int32) (τ : St), Ru M_Town_takeTurn d Q 13 [some (.ref a0), some (.int a1), some (.int a2), some (.int a3), some (.int a4), some (.int a5), none] [.int x0] τ = Rs M_Town_takeTurn d Q 15 [some (.ref a0), some (.int a1), some (.int a2), some (.int a3), some (.int a4), some (.int a5), some (.int x0)] [] τ) ∧
    (∀ (a0 : Nat) (a1 : Int32) (a2 : Int32) (a3 : Int32) (a4 : Int32) (a5 : Int32) (a6 : Int32) (τ : St), Ru M_Town_takeTurn d Q 15 [some (.ref a0), some (.int a1), some (.int a2), some (.int a3), some (.int a4), some (.int a5), some (.int a6)] [] τ = Ru M_Town_takeTurn d Q 17 [some (.ref a0), some (.int a1), some (.int a2), some (.int a3), some (.int a4), some (.int a5), some (.int a6)] [.int a6] τ) ∧
    (∀ (a0 : Nat) (a1 : Int32) (a2 : Int32) (a3 : Int32) (a4 : Int32) (a5 : Int32) (a6 : Int32) (x0 : Int32) (τ : St), Ru M_Town_takeTurn d Q 17 [some (.ref a0), some (.int a1), some (.int a2), some (.int a3), some (.int a4), some (.int a5), some (.int a6)] [.int x0] τ = Ru M_Town_takeTurn d Q 18 [some (.ref a0), some (.int a1), some (.int a2), some (.int a3), some (.int a4), some (.int a5), some (.int a6)] [.int 3, .int x0] τ) ∧
    (∀ (a0 : Nat) (a1 : Int32) (a2 : Int32) (a3 : Int32) (a4 : Int32) (a5 : Int32) (a6 : Int32) (x0 : Int32) (x1 : Int32) (τ : St), Ru M_Town_takeTurn d Q 18 [some (.ref a0), some (.int a1), some (.int a2), some (.int a3), some (.int a4), some (.int a5), some (.int a6)] [.int x0, .int x1] τ = ((x0 < x1 → Ru M_Town_takeTurn d Q 82 [some (.ref a0), some (.int a1), some (.int a2), some (.int a3), some (.int a4), some (.int a5), some (.int a6)] [] τ) ∧ (¬ x0 < x1 → Ru M_Town_takeTurn d Q 21 [some (.ref a0), some (.int a1), some (.int a2), some (.int a3), some (.int a4), some (.int a5), some (.int a6)] [] τ))) ∧
    (∀ (a0 : Nat) (a1 : Int32) (a2 : Int32) (a3 : Int32) (a4 : Int32) (a5 : Int32) (a6 : Int32) (τ : St), Ru M_Town_takeTurn d Q 21 [some (.ref a0), some (.int a1), some (.int a2), some (.int a3), some (.int a4), some (.int a5), some (.int a6)] [] τ = Ru M_Town_takeTurn d Q 22 [some (.ref a0), some (.int a1), some (.int a2), some (.int a3), some (.int a4), some (.int a5), some (.int a6)] [.int a2] τ) ∧
    (∀ (a0 : Nat) (a1 : Int32) (a2 : Int32) (a3 : Int32) (a4 : Int32) (a5 : Int32) (a6 : Int32) (x0 : Int32) (τ : St), Ru M_Town_takeTurn d Q 22 [some (.ref a0), some (.int a1), some (.int a2), some (.int a3), some (.int a4), some (.int a5), some (.int a6)] [.int x0] τ = Ru M_Town_takeTurn d Q 24 [some (.ref a0), some (.int a1), some (.int a2), some (.int a3), some (.int a4), some (.int a5), some (.int a6)] [.int a6, .int x0] τ) ∧
    (∀ (a0 : Nat) (a1 : Int32) (a2 : Int32) (a3 : Int32) (a4 : Int32) (a5 : Int32) (a6 : Int32) (x0 : Int32) (x1 : Int32) (τ : St), Ru M_Town_takeTurn d Q 24 [some (.ref a0), some (.int a1), some (.int a2), some (.int a3), some (.int a4), some (.int a5), some (.int a6)] [.int x0, .int x1] τ = Ru M_Town_takeTurn d Q 25 [some (.ref a0), some (.int a1), some (.int a2), some (.int a3), some (.int a4), some (.int a5), some (.int a6)] [.int (x1 + x0)] τ) ∧
    (∀ (a0 : Nat) (a1 : Int32) (a2 : Int32) (a3 : Int32) (a4 : Int32) (a5 : Int32) (a6 : Int32) (x0 : Int32) (τ : St), Ru M_Town_takeTurn d Q 25 [some (.ref a0), some (.int a1), some (.int a2), some (.int a3), some (.int a4), some (.int a5), some (.int a6)] [.int x0] τ = Ru M_Town_takeTurn d Q 26 [some (.ref a0), some (.int a1), some (.int a2), some (.int a3), some (.int a4), some (.int a5), some (.int a6)] [.int a1, .int x0] τ) ∧
    (∀ (a0 : Nat) (a1 : Int32) (a2 : Int32) (a3 : Int32) (a4 : Int32) (a5 : Int32) (a6 : Int32) (x0 : Int32) (x1 : Int32) (τ : St), Ru M_Town_takeTurn d Q 26 [some (.ref a0), some (.int a1), some (.int a2), some (.int a3), some (.int a4), some (.int a5), some (.int a6)] [.int x0, .int x1] τ = ((x0 < x1 → Ru M_Town_takeTurn d Q 82 [some (.ref a0), some (.int a1), some (.int a2), some (.int a3), some (.int a4), some (.int a5), some (.int a6)] [] τ) ∧ (¬ x0 < x1 → Ru M_Town_takeTurn d Q 29 [some (.ref a0), some (.int a1), some (.int a2), some (.int a3), some (.int a4), some (.int a5), some (.int a6)] [] τ))) ∧
    (∀ (a0 : Nat) (a1 : Int32) (a2 : Int32) (a3 : Int32) (a4 : Int32) (a5 : Int32) (a6 : Int32) (τ : St), Ru M_Town_takeTurn d Q 29 [some (.ref a0), some (.int a1), some (.int a2), some (.int a3), some (.int a4), some (.int a5), some (.int a6)] [] τ = Ru M_Town_takeTurn d Q 30 [some (.ref a0), some (.int a1), some (.int a2), some (.int a3), some (.int a4), some (.int a5), some (.int a6)] [.int a2] τ) ∧
    (∀ (a0 : Nat) (a1 : Int32) (a2 : Int32) (a3 : Int32) (a4 : Int32) (a5 : Int32) (a6 : Int32) (x0 : Int32) (τ : St), Ru M_Town_takeTurn d Q 30 [some (.ref a0), some (.int a1), some (.int a2), some (.int a3), some (.int a4), some (.int a5), some (.int a6)] [.int x0] τ = Ru M_Town_takeTurn d Q 32 [some (.ref a0), some (.int a1), some (.int a2), some (.int a3), some (.int a4), some (.int a5), some (.int a6)] [.int a6, .int x0] τ) ∧
    (∀ (a0 : Nat) (a1 : Int32) (a2 : Int32) (a3 : Int32) (a4 : Int32) (a5 : Int32) (a6 : Int32) (x0 : Int32) (x1 : Int32) (τ : St), Ru M_Town_takeTurn d Q 32 [some (.ref a0), some (.int a1), some (.int a2), some (.int a3), some (.int a4), some (.int a5), some (.int a6)] [.int x0, .int x1] τ = Ru M_Town_takeTurn d Q 33 [some (.ref a0), some (.int a1), some (.int a2), some (.int a3), some (.int a4), some (.int a5), some (.int a6)] [.int (x1 + x0)] τ) ∧
    (∀ (a0 : Nat) (a1 : Int32) (a2 : Int32) (a3 : Int32) (a4 : Int32) (a5 : Int32) (a6 : Int32) (x0 : Int32) (τ : St), Ru M_Town_takeTurn d Q 33 [some (.ref a0), some (.int a1), some (.int a2), some (.int a3), some (.int a4), some (.int a5), some (.int a6)] [.int x0] τ = Ru M_Town_takeTurn d Q 35 [some (.ref a0), some (.int a1), some (.int a2), some (.int a3), some (.int a4), some (.int a5), some (.int a6)] [.int 60, .int x0] τ) ∧
    (∀ (a0 : Nat) (a1 : Int32) (a2 : Int32) (a3 : Int32) (a4 : Int32) (a5 : Int32) (a6 : Int32) (x0 : Int32) (x1 : Int32) (τ : St), Ru M_Town_takeTurn d Q 35 [some (.ref a0), some (.int a1), some (.int a2), some (.int a3), some (.int a4), some (.int a5), some (.int a6)] [.int x0, .int x1] τ = ((x0 < x1 → Ru M_Town_takeTurn d Q 82 [some (.ref a0), some (.int a1), some (.int a2), some (.int a3), some (.int a4), some (.int a5), some (.int a6)] [] τ) ∧ (¬ x0 < x1 → Ru M_Town_takeTurn d Q 38 [some (.ref a0), some (.int a1), some (.int a2), some (.int a3), some (.int a4), some (.int a5), some (.int a6)] [] τ))) ∧
    (∀ (a0 : Nat) (a1 : Int32) (a2 : Int32) (a3 : Int32) (a4 : Int32) (a5 : Int32) (a6 : Int32) (τ : St), Ru M_Town_takeTurn d Q 38 [some (.ref a0), some (.int a1), some (.int a2), some (.int a3), some (.int a4), some (.int a5), some (.int a6)] [] τ = Ru M_Town_takeTurn d Q 39 [some (.ref a0), some (.int a1), some (.int a2), some (.int a3), some (.int a4), some (.int a5), some (.int a6)] [.ref a0] τ) ∧
    (∀ (a0 : Nat) (a1 : Int32) (a2 : Int32) (a3 : Int32) (a4 : Int32) (a5 : Int32) (a6 : Int32) (x0 : Nat) (τ : St), Ru M_Town_takeTurn d Q 39 [some (.ref a0), some (.int a1), some (.int a2), some (.int a3), some (.int a4), some (.int a5), some (.int a6)] [.ref x0] τ = (isA 7 x0 ∧ Ru M_Town_takeTurn d Q 42 [some (.ref a0), some (.int a1), some (.int a2), some (.int a3), some (.int a4), some (.int a5), some (.int a6)] [.ref (rtab x0 1)] τ)) ∧
    (∀ (a0 : Nat) (a1 : Int32) (a2 : Int32) (a3 : Int32) (a4 : Int32) (a5 : Int32) (a6 : Int32) (x0 : Nat) (τ : St), Ru M_Town_takeTurn d Q 42 [some (.ref a0), some (.int a1), some (.int a2), some (.int a3), some (.int a4), some (.int a5), some (.int a6)] [.ref x0] τ = Ru M_Town_takeTurn d Q 43 [some (.ref a0), some (.int a1), some (.int a2), some (.int a3), some (.int a4), some (.int a5), some (.int a6)] [.int a2, .ref x0] τ) ∧
    (∀ (a0 : Nat) (a1 : Int32) (a2 : Int32) (a3 : Int32) (a4 : Int32) (a5 : Int32) (a6 : Int32) (x0 : Int32) (x1 : Nat) (τ : St), Ru M_Town_takeTurn d Q 43 [some (.ref a0), some (.int a1), some (.int a2), some (.int a3), some (.int a4), some (.int a5), some (.int a6)] [.int x0, .ref x1] τ = Ru M_Town_takeTurn d Q 45 [some (.ref a0), some (.int a1), some (.int a2), some (.int a3), some (.int a4), some (.int a5), some (.int a6)] [.int a6, .int x0, .ref x1] τ) ∧
    (∀ (a0 : Nat) (a1 : Int32) (a2 : Int32) (a3 : Int32) (a4 : Int32) (a5 : Int32) (a6 : Int32) (x0 : Int32) (x1 : Int32) (x2 : Nat) (τ : St), Ru M_Town_takeTurn d Q 45 [some (.ref a0), some (.int a1), some (.int a2), some (.int a3), some (.int a4), some (.int a5), some (.int a6)] [.int x0, .int x1, .ref x2] τ = Ru M_Town_takeTurn d Q 46 [some (.ref a0), some (.int a1), some (.int a2), some (.int a3), some (.int a4), some (.int a5), some (.int a6)] [.int (x1 + x0), .ref x2] τ) ∧
    (∀ (a0 : Nat) (a1 : Int32) (a2 : Int32) (a3 : Int32) (a4 : Int32) (a5 : Int32) (a6 : Int32) (x0 : Int32) (x1 : Nat) (τ : St), Ru M_Town_takeTurn d Q 46 [some (.ref a0), some (.int a1), some (.int a2), some (.int a3), some (.int a4), some (.int a5), some (.int a6)] [.int x0, .ref x1] τ = (isA 14 x1 ∧ vp_in x0 (len x1) ∧ Ru M_Town_takeTurn d Q 47 [some (.ref a0), some (.int a1), some (.int a2), some (.int a3), some (.int a4), some (.int a5), some (.int a6)] [.int (τ.1 x1 x0.toNatClampNeg)] τ)) ∧
    (∀ (a0 : Nat) (a1 : Int32) (a2 : Int32) (a3 : Int32) (a4 : Int32) (a5 : Int32) (a6 : Int32) (x0 : Int32) (τ : St), Ru M_Town_takeTurn d Q 47 [some (.ref a0), some (.int a1), some (.int a2), some (.int a3), some (.int a4), some (.int a5), some (.int a6)] [.int x0] τ = Ru M_Town_takeTurn d Q 48 [some (.ref a0), some (.int a1), some (.int a2), some (.int a3), some (.int a4), some (.int a5), some (.int a6)] [.int a3, .int x0] τ) ∧
    (∀ (a0 : Nat) (a1 : Int32) (a2 : Int32) (a3 : Int32) (a4 : Int32) (a5 : Int32) (a6 : Int32) (x0 : Int32) (x1 : Int32) (τ : St), Ru M_Town_takeTurn d Q 48 [some (.ref a0), some (.int a1), some (.int a2), some (.int a3), some (.int a4), some (.int a5), some (.int a6)] [.int x0, .int x1] τ = ((x1 ≤ x0 → Ru M_Town_takeTurn d Q 76 [some (.ref a0), some (.int a1), some (.int a2), some (.int a3), some (.int a4), some (.int a5), some (.int a6)] [] τ) ∧ (¬ x1 ≤ x0 → Ru M_Town_takeTurn d Q 51 [some (.ref a0), some (.int a1), some (.int a2), some (.int a3), some (.int a4), some (.int a5), some (.int a6)] [] τ))) ∧
    (∀ (a0 : Nat) (a1 : Int32) (a2 : Int32) (a3 : Int32) (a4 : Int32) (a5 : Int32) (a6 : Int32) (τ : St), Ru M_Town_takeTurn d Q 51 [some (.ref a0), some (.int a1), some (.int a2), some (.int a3), some (.int a4), some (.int a5), some (.int a6)] [] τ = Ru M_Town_takeTurn d Q 52 [some (.ref a0), some (.int a1), some (.int a2), some (.int a3), some (.int a4), some (.int a5), some (.int a6)] [.ref a0] τ) ∧
    (∀ (a0 : Nat) (a1 : Int32) (a2 : Int32) (a3 : Int32) (a4 : Int32) (a5 : Int32) (a6 : Int32) (x0 : Nat) (τ : St), Ru M_Town_takeTurn d Q 52 [some (.ref a0), some (.int a1), some (.int a2), some (.int a3), some (.int a4), some (.int a5), some (.int a6)] [.ref x0] τ = (isA 7 x0 ∧ Ru M_Town_takeTurn d Q 55 [some (.ref a0), some (.int a1), some (.int a2), some (.int a3), some (.int a4), some (.int a5), some (.int a6)] [.ref (rtab x0 1)] τ)) ∧
    (∀ (a0 : Nat) (a1 : Int32) (a2 : Int32) (a3 : Int32) (a4 : Int32) (a5 : Int32) (a6 : Int32) (x0 : Nat) (τ : St), Ru M_Town_takeTurn d Q 55 [some (.ref a0), some (.int a1), some (.int a2), some (.int a3), some (.int a4), some (.int a5), some (.int a6)] [.ref x0] τ = Ru M_Town_takeTurn d Q 56 [some (.ref a0), some (.int a1), some (.int a2), some (.int a3), some (.int a4), some (.int a5), some (.int a6)] [.int a2, .ref x0] τ) ∧
    (∀ (a0 : Nat) (a1 : Int32) (a2 : Int32) (a3 : Int32) (a4 : Int32) (a5 : Int32) (a6 : Int32) (x0 : Int32) (x1 : Nat) (τ : St), Ru M_Town_takeTurn d Q 56 [some (.ref a0), some (.int a1), some (.int a2), some (.int a3), some (.int a4), some (.int a5), some (.int a6)] [.int x0, .ref x1] τ = Ru M_Town_takeTurn d Q 58 [some (.ref a0), some (.int a1), some (.int a2), some (.int a3), some (.int a4), some (.int a5), some (.int a6)] [.int a6, .int x0, .ref x1] τ) ∧
    (∀ (a0 : Nat) (a1 : Int32) (a2 : Int32) (a3 : Int32) (a4 : Int32) (a5 : Int32) (a6 : Int32) (x0 : Int32) (x1 : Int32) (x2 : Nat) (τ : St), Ru M_Town_takeTurn d Q 58 [some (.ref a0), some (.int a1), some (.int a2), some (.int a3), some (.int a4), some (.int a5), some (.int a6)] [.int x0, .int x1, .ref x2] τ = Ru M_Town_takeTurn d Q 59 [some (.ref a0), some (.int a1), some (.int a2), some (.int a3), some (.int a4), some (.int a5), some (.int a6)] [.int (x1 + x0), .ref x2] τ) ∧
    (∀ (a0 : Nat) (a1 : Int32) (a2 : Int32) (a3 : Int32) (a4 : Int32) (a5 : Int32) (a6 : Int32) (x0 : Int32) (x1 : Nat) (τ : St), Ru M_Town_takeTurn d Q 59 [some (.ref a0), some (.int a1), some (.int a2), some (.int a3), some (.int a4), some (.int a5), some (.int a6)] [.int x0, .ref x1] τ = (isA 14 x1 ∧ vp_in x0 (len x1) ∧ Ru M_Town_takeTurn d Q 60 [some (.ref a0), some (.int a1), some (.int a2), some (.int a3), some (.int a4), some (.int a5), some (.int a6)] [.int (τ.1 x1 x0.toNatClampNeg)] τ)) ∧
    (∀ (a0 : Nat) (a1 : Int32) (a2 : Int32) (a3 : Int32) (a4 : Int32) (a5 : Int32) (a6 : Int32) (x0 : Int32) (τ : St), Ru M_Town_takeTurn d Q 60 [some (.ref a0), some (.int a1), some (.int a2), some (.int a3), some (.int a4), some (.int a5), some (.int a6)] [.int x0] τ = Ru M_Town_takeTurn d Q 61 [some (.ref a0), some (.int a1), some (.int a2), some (.int x0), some (.int a4), some (.int a5), some (.int a6)] [] τ) ∧
    (∀ (a0 : Nat) (a1 : Int32) (a2 : Int32) (a3 : Int32) (a4 : Int32) (a5 : Int32) (a6 : Int32) (τ : St), Ru M_Town_takeTurn d Q 61 [some (.ref a0), some (.int a1), some (.int a2), some (.int a3), some (.int a4), some (.int a5), some (.int a6)] [] τ = Ru M_Town_takeTurn d Q 62 [some (.ref a0), some (.int a1), some (.int a2), some (.int a3), some (.int a4), some (.int a5), some (.int a6)] [.ref a0] τ) ∧
    (∀ (a0 : Nat) (a1 : Int32) (a2 : Int32) (a3 : Int32) (a4 : Int32) (a5 : Int32) (a6 : Int32) (x0 : Nat) (τ : St), Ru M_Town_takeTurn d Q 62 [some (.ref a0), some (.int a1), some (.int a2), some (.int a3), some (.int a4), some (.int a5), some (.int a6)] [.ref x0] τ = (isA 7 x0 ∧ Ru M_Town_takeTurn d Q 65 [some (.ref a0), some (.int a1), some (.int a2), some (.int a3), some (.int a4), some (.int a5), some (.int a6)] [.ref (rtab x0 0)] τ)) ∧
    (∀ (a0 : Nat) (a1 : Int32) (a2 : Int32) (a3 : Int32) (a4 : Int32) (a5 : Int32) (a6 : Int32) (x0 : Nat) (τ : St), Ru M_Town_takeTurn d Q 65 [some (.ref a0), some (.int a1), some (.int a2), some (.int a3), some (.int a4), some (.int a5), some (.int a6)] [.ref x0] τ = Ru M_Town_takeTurn d Q 66 [some (.ref a0), some (.int a1), some (.int a2), some (.int a3), some (.int a4), some (.int a5), some (.int a6)] [.int a2, .ref x0] τ) ∧
    (∀ (a0 : Nat) (a1 : Int32) (a2 : Int32) (a3 : Int32) (a4 : Int32) (a5 : Int32) (a6 : Int32) (x0 : Int32) (x1 : Nat) (τ : St), Ru M_Town_takeTurn d Q 66 [some (.ref a0), some (.int a1), some (.int a2), some (.int a3), some (.int a4), some (.int a5), some (.int a6)] [.int x0, .ref x1] τ = Ru M_Town_takeTurn d Q 68 [some (.ref a0), some (.int a1), some (.int a2), some (.int a3), some (.int a4), some (.int a5), some (.int a6)] [.int a6, .int x0, .ref x1] τ) ∧
    (∀ (a0 : Nat) (a1 : Int32) (a2 : Int32) (a3 : Int32) (a4 : Int32) (a5 : Int32) (a6 : Int32) (x0 : Int32) (x1 : Int32) (x2 : Nat) (τ : St), Ru M_Town_takeTurn d Q 68 [some (.ref a0), some (.int a1), some (.int a2), some (.int a3), some (.int a4), some (.int a5), some (.int a6)] [.int x0, .int x1, .ref x2] τ = Ru M_Town_takeTurn d Q 69 [some (.ref a0), some (.int a1), some (.int a2), some (.int a3), some (.int a4), some (.int a5), some (.int a6)] [.int (x1 + x0), .ref x2] τ) ∧
    (∀ (a0 : Nat) (a1 : Int32) (a2 : Int32) (a3 : Int32) (a4 : Int32) (a5 : Int32) (a6 : Int32) (x0 : Int32) (x1 : Nat) (τ : St), Ru M_Town_takeTurn d Q 69 [some (.ref a0), some (.int a1), some (.int a2), some (.int a3), some (.int a4), some (.int a5), some (.int a6)] [.int x0, .ref x1] τ = (isA 14 x1 ∧ vp_in x0 (len x1) ∧ Ru M_Town_takeTurn d Q 70 [some (.ref a0), some (.int a1), some (.int a2), some (.int a3), some (.int a4), some (.int a5), some (.int a6)] [.int (τ.1 x1 x0.toNatClampNeg)] τ)) ∧
    (∀ (a0 : Nat) (a1 : Int32) (a2 : Int32) (a3 : Int32) (a4 : Int32) (a5 : Int32) (a6 : Int32) (x0 : Int32) (τ : St), Ru M_Town_takeTurn d Q 70 [some (.ref a0), some (.int a1), some (.int a2), some (.int a3), some (.int a4), some (.int a5), some (.int a6)] [.int x0] τ = Ru M_Town_takeTurn d Q 72 [some (.ref a0), some (.int a1), some (.int a2), some (.int a3), some (.int x0), some (.int a5), some (.int a6)] [] τ) ∧
    (∀ (a0 : Nat) (a1 : Int32) (a2 : Int32) (a3 : Int32) (a4 : Int32) (a5 : Int32) (a6 : Int32) (τ : St), Ru M_Town_takeTurn d Q 72 [some (.ref a0), some (.int a1), some (.int a2), some (.int a3), some (.int a4), some (.int a5), some (.int a6)] [] τ = Ru M_Town_takeTurn d Q 74 [some (.ref a0), some (.int a1), some (.int a2), some (.int a3), some (.int a4), some (.int a5), some (.int a6)] [.int a6] τ) ∧
    (∀ (a0 : Nat) (a1 : Int32) (a2 : Int32) (a3 : Int32) (a4 : Int32) (a5 : Int32) (a6 : Int32) (x0 : Int32) (τ : St), Ru M_Town_takeTurn d Q 74 [some (.ref a0), some (.int a1), some (.int a2), some (.int a3), some (.int a4), some (.int a5), some (.int a6)] [.int x0] τ = Ru M_Town_takeTurn d Q 76 [some (.ref a0), some (.int a1), some (.int a2), some (.int a3), some (.int a4), some (.int x0), some (.int a6)] [] τ) ∧
    (∀ (a0 : Nat) (a1 : Int32) (a2 : Int32) (a3 : Int32) (a4 : Int32) (a5 : Int32) (a6 : Int32) (τ : St), Ru M_Town_takeTurn d Q 76 [some (.ref a0), some (.int a1), some (.int a2), some (.int a3), some (.int a4), some (.int a5), some (.int a6)] [] τ = Ru M_Town_takeTurn d Q 79 [some (.ref a0), some (.int a1), some (.int a2), some (.int a3), some (.int a4), some (.int a5), some (.int (a6 + 1))] [] τ) ∧
    (∀ (a0 : Nat) (a1 : Int32) (a2 : Int32) (a3 : Int32) (a4 : Int32) (a5 : Int32) (a6 : Int32) (τ : St), Ru M_Town_takeTurn d Q 79 [some (.ref a0), some (.int a1), some (.int a2), some (.int a3), some (.int a4), some (.int a5), some (.int a6)] [] τ = Rs M_Town_takeTurn d Q 15 [some (.ref a0), some (.int a1), some (.int a2), some (.int a3), some (.int a4), some (.int a5), some (.int a6)] [] τ) ∧
    (∀ (a0 : Nat) (a1 : Int32) (a2 : Int32) (a3 : Int32) (a4 : Int32) (a5 : Int32) (a6 : Int32) (τ : St), Ru M_Town_takeTurn d Q 82 [some (.ref a0), some (.int a1), some (.int a2), some (.int a3), some (.int a4), some (.int a5), some (.int a6)] [] τ = Ru M_Town_takeTurn d Q 83 [some (.ref a0), some (.int a1), some (.int a2), some (.int a3), some (.int a4), some (.int a5), some (.int a6)] [.ref a0] τ) ∧
    (∀ (a0 : Nat) (a1 : Int32) (a2 : Int32) (a3 : Int32) (a4 : Int32) (a5 : Int32) (a6 : Int32) (x0 : Nat) (τ : St), Ru M_Town_takeTurn d Q 83 [some (.ref a0), some (.int a1), some (.int a2), some (.int a3), some (.int a4), some (.int a5), some (.int a6)] [.ref x0] τ = (isA 7 x0 ∧ Ru M_Town_takeTurn d Q 86 [some (.ref a0), some (.int a1), some (.int a2), some (.int a3), some (.int a4), some (.int a5), some (.int a6)] [.ref (rtab x0 0)] τ)) ∧
    (∀ (a0 : Nat) (a1 : Int32) (a2 : Int32) (a3 : Int32) (a4 : Int32) (a5 : Int32) (a6 : Int32) (x0 : Nat) (τ : St), Ru M_Town_takeTurn d Q 86 [some (.ref a0), some (.int a1), some (.int a2), some (.int a3), some (.int a4), some (.int a5), some (.int a6)] [.ref x0] τ = Ru M_Town_takeTurn d Q 87 [some (.ref a0), some (.int a1), some (.int a2), some (.int a3), some (.int a4), some (.int a5), some (.int a6)] [.int a2, .ref x0] τ) ∧
    (∀ (a0 : Nat) (a1 : Int32) (a2 : Int32) (a3 : Int32) (a4 : Int32) (a5 : Int32) (a6 : Int32) (x0 : Int32) (x1 : Nat) (τ : St), Ru M_Town_takeTurn d Q 87 [some (.ref a0), some (.int a1), some (.int a2), some (.int a3), some (.int a4), some (.int a5), some (.int a6)] [.int x0, .ref x1] τ = Ru M_Town_takeTurn d Q 88 [some (.ref a0), some (.int a1), some (.int a2), some (.int a3), some (.int a4), some (.int a5), some (.int a6)] [.int a3, .int x0, .ref x1] τ) ∧
    (∀ (a0 : Nat) (a1 : Int32) (a2 : Int32) (a3 : Int32) (a4 : Int32) (a5 : Int32) (a6 : Int32) (x0 : Int32) (x1 : Int32) (x2 : Nat) (τ : St), Ru M_Town_takeTurn d Q 88 [some (.ref a0), some (.int a1), some (.int a2), some (.int a3), some (.int a4), some (.int a5), some (.int a6)] [.int x0, .int x1, .ref x2] τ = (isA 14 x2 ∧ vp_in x1 (len x2) ∧ Ru M_Town_takeTurn d Q 89 [some (.ref a0), some (.int a1), some (.int a2), some (.int a3), some (.int a4), some (.int a5), some (.int a6)] [] (sI τ x2 x1.toNatClampNeg (x0)))) ∧
    (∀ (a0 : Nat) (a1 : Int32) (a2 : Int32) (a3 : Int32) (a4 : Int32) (a5 : Int32) (a6 : Int32) (τ : St), Ru M_Town_takeTurn d Q 89 [some (.ref a0), some (.int a1), some (.int a2), some (.int a3), some (.int a4), some (.int a5), some (.int a6)] [] τ = Ru M_Town_takeTurn d Q 90 [some (.ref a0), some (.int a1), some (.int a2), some (.int a3), some (.int a4), some (.int a5), some (.int a6)] [.ref a0] τ) ∧
    (∀ (a0 : Nat) (a1 : Int32) (a2 : Int32) (a3 : Int32) (a4 : Int32) (a5 : Int32) (a6 : Int32) (x0 : Nat) (τ : St), Ru M_Town_takeTurn d Q 90 [some (.ref a0), some (.int a1), some (.int a2), some (.int a3), some (.int a4), some (.int a5), some (.int a6)] [.ref x0] τ = (isA 7 x0 ∧ Ru M_Town_takeTurn d Q 93 [some (.ref a0), some (.int a1), some (.int a2), some (.int a3), some (.int a4), some (.int a5), some (.int a6)] [.ref (rtab x0 1)] τ)) ∧
    (∀ (a0 : Nat) (a1 : Int32) (a2 : Int32) (a3 : Int32) (a4 : Int32) (a5 : Int32) (a6 : Int32) (x0 : Nat) (τ : St), Ru M_Town_takeTurn d Q 93 [some (.ref a0), some (.int a1), some (.int a2), some (.int a3), some (.int a4), some (.int a5), some (.int a6)] [.ref x0] τ = Ru M_Town_takeTurn d Q 94 [some (.ref a0), some (.int a1), some (.int a2), some (.int a3), some (.int a4), some (.int a5), some (.int a6)] [.int a2, .ref x0] τ) ∧
    (∀ (a0 : Nat) (a1 : Int32) (a2 : Int32) (a3 : Int32) (a4 : Int32) (a5 : Int32) (a6 : Int32) (x0 : Int32) (x1 : Nat) (τ : St), Ru M_Town_takeTurn d Q 94 [some (.ref a0), some (.int a1), some (.int a2), some (.int a3), some (.int a4), some (.int a5), some (.int a6)] [.int x0, .ref x1] τ = Ru M_Town_takeTurn d Q 96 [some (.ref a0), some (.int a1), some (.int a2), some (.int a3), some (.int a4), some (.int a5), some (.int a6)] [.int a4, .int x0, .ref x1] τ) ∧
    (∀ (a0 : Nat) (a1 : Int32) (a2 : Int32) (a3 : Int32) (a4 : Int32) (a5 : Int32) (a6 : Int32) (x0 : Int32) (x1 : Int32) (x2 : Nat) (τ : St), Ru M_Town_takeTurn d Q 96 [some (.ref a0), some (.int a1), some (.int a2), some (.int a3), some (.int a4), some (.int a5), some (.int a6)] [.int x0, .int x1, .ref x2] τ = (isA 14 x2 ∧ vp_in x1 (len x2) ∧ Ru M_Town_takeTurn d Q 97 [some (.ref a0), some (.int a1), some (.int a2), some (.int a3), some (.int a4), some (.int a5), some (.int a6)] [] (sI τ x2 x1.toNatClampNeg (x0)))) ∧
    (∀ (a0 : Nat) (a1 : Int32) (a2 : Int32) (a3 : Int32) (a4 : Int32) (a5 : Int32) (a6 : Int32) (τ : St), Ru M_Town_takeTurn d Q 97 [some (.ref a0), some (.int a1), some (.int a2), some (.int a3), some (.int a4), some (.int a5), some (.int a6)] [] τ = Ru M_Town_takeTurn d Q 98 [some (.ref a0), some (.int a1), some (.int a2), some (.int a3), some (.int a4), some (.int a5), some (.int a6)] [.int a2] τ) ∧
    (∀ (a0 : Nat) (a1 : Int32) (a2 : Int32) (a3 : Int32) (a4 : Int32) (a5 : Int32) (a6 : Int32) (x0 : Int32) (τ : St), Ru M_Town_takeTurn d Q 98 [some (.ref a0), some (.int a1), some (.int a2), some (.int a3), some (.int a4), some (.int a5), some (.int a6)] [.int x0] τ = ((¬ x0 = 0 → Ru M_Town_takeTurn d Q 107 [some (.ref a0), some (.int a1), some (.int a2), some (.int a3), some (.int a4), some (.int a5), some (.int a6)] [] τ) ∧ (x0 = 0 → Ru M_Town_takeTurn d Q 101 [some (.ref a0), some (.int a1), some (.int a2), some (.int a3), some (.int a4), some (.int a5), some (.int a6)] [] τ))) ∧
    (∀ (a0 : Nat) (a1 : Int32) (a2 : Int32) (a3 : Int32) (a4 : Int32) (a5 : Int32) (a6 : Int32) (τ : St), Ru M_Town_takeTurn d Q 101 [some (.ref a0), some (.int a1), some (.int a2), some (.int a3), some (.int a4), some (.int a5), some (.int a6)] [] τ = Ru M_Town_takeTurn d Q 102 [some (.ref a0), some (.int a1), some (.int a2), some (.int a3), some (.int a4), some (.int a5), some (.int a6)] [.ref a0] τ) ∧
    (∀ (a0 : Nat) (a1 : Int32) (a2 : Int32) (a3 : Int32) (a4 : Int32) (a5 : Int32) (a6 : Int32) (x0 : Nat) (τ : St), Ru M_Town_takeTurn d Q 102 [some (.ref a0), some (.int a1), some (.int a2), some (.int a3), some (.int a4), some (.int a5), some (.int a6)] [.ref x0] τ = Ru M_Town_takeTurn d Q 104 [some (.ref a0), some (.int a1), some (.int a2), some (.int a3), some (.int a4), some (.int a5), some (.int a6)] [.int a5, .ref x0] τ) ∧
    (∀ (a0 : Nat) (a1 : Int32) (a2 : Int32) (a3 : Int32) (a4 : Int32) (a5 : Int32) (a6 : Int32) (x0 : Int32) (x1 : Nat) (τ : St), Ru M_Town_takeTurn d Q 104 [some (.ref a0), some (.int a1), some (.int a2), some (.int a3), some (.int a4), some (.int a5), some (.int a6)] [.int x0, .ref x1] τ = (isA 7 x1 ∧ Ru M_Town_takeTurn d Q 107 [some (.ref a0), some (.int a1), some (.int a2), some (.int a3), some (.int a4), some (.int a5), some (.int a6)] [] (sI τ x1 2 x0))) ∧
    (∀ (a0 : Nat) (a1 : Int32) (a2 : Int32) (a3 : Int32) (a4 : Int32) (a5 : Int32) (a6 : Int32) (τ : St), Ru M_Town_takeTurn d Q 107 [some (.ref a0), some (.int a1), some (.int a2), some (.int a3), some (.int a4), some (.int a5), some (.int a6)] [] τ = Q none τ) := ⟨
  fun _ _ _ _ => (R_at ok_Town_takeTurn rfl).trans e_push,
  fun _ _ _ _ _ => (R_at ok_Town_takeTurn rfl).trans e_ist,
  fun _ _ _ _ _ => (R_at ok_Town_takeTurn rfl).trans (e_ild rfl),
  fun _ _ _ _ _ _ => (R_at ok_Town_takeTurn rfl).trans (e_ild rfl),
  fun _ _ _ _ x0 x1 _ => (R_at ok_Town_takeTurn rfl).trans (e_cs [.int x1, .int x0] rfl rfl rfl),
  fun _ _ _ _ _ _ => (R_at ok_Town_takeTurn rfl).trans e_ist,
  fun _ _ _ _ _ _ => (R_at ok_Town_takeTurn rfl).trans e_push,
  fun _ _ _ _ _ _ _ => (R_at ok_Town_takeTurn rfl).trans e_ist,
  fun _ _ _ _ _ _ _ => (R_at ok_Town_takeTurn rfl).trans e_push,
  fun _ _ _ _ _ _ _ _ => (R_at ok_Town_takeTurn rfl).trans e_ist,
  fun _ _ _ _ _ _ _ _ => (R_at ok_Town_takeTurn rfl).trans (e_ild rfl),
  fun _ _ _ _ _ _ _ _ _ => (R_at ok_Town_takeTurn rfl).trans e_push,
  fun _ _ _ _ _ _ _ _ _ _ => (R_at ok_Town_takeTurn rfl).trans e_ic,
  fun _ _ _ _ _ _ _ _ => (R_at ok_Town_takeTurn rfl).trans (e_ild rfl),
  fun _ _ _ _ _ _ _ _ _ => (R_at ok_Town_takeTurn rfl).trans (e_ild rfl),
  fun _ _ _ _ _ _ _ _ _ _ => (R_at ok_Town_takeTurn rfl).trans e_bin,
  fun _ _ _ _ _ _ _ _ _ => (R_at ok_Town_takeTurn rfl).trans (e_ild rfl),
  fun _ _ _ _ _ _ _ _ _ _ => (R_at ok_Town_takeTurn rfl).trans e_ic,
  fun _ _ _ _ _ _ _ _ => (R_at ok_Town_takeTurn rfl).trans (e_ild rfl),
  fun _ _ _ _ _ _ _ _ _ => (R_at ok_Town_takeTurn rfl).trans (e_ild rfl),
  fun _ _ _ _ _ _ _ _ _ _ => (R_at ok_Town_takeTurn rfl).trans e_bin,
  fun _ _ _ _ _ _ _ _ _ => (R_at ok_Town_takeTurn rfl).trans e_push,
  fun _ _ _ _ _ _ _ _ _ _ => (R_at ok_Town_takeTurn rfl).trans e_ic,
  fun _ _ _ _ _ _ _ _ => (R_at ok_Town_takeTurn rfl).trans (e_ald rfl),
  fun _ _ _ _ _ _ _ _ _ => (R_at ok_Town_takeTurn rfl).trans e_gR,
  fun _ _ _ _ _ _ _ _ _ => (R_at ok_Town_takeTurn rfl).trans (e_ild rfl),
  fun _ _ _ _ _ _ _ _ _ _ => (R_at ok_Town_takeTurn rfl).trans (e_ild rfl),
  fun _ _ _ _ _ _ _ _ _ _ _ => (R_at ok_Town_takeTurn rfl).trans e_bin,
  fun _ _ _ _ _ _ _ _ _ _ => (R_at ok_Town_takeTurn rfl).trans e_al,
  fun _ _ _ _ _ _ _ _ _ => (R_at ok_Town_takeTurn rfl).trans (e_ild rfl),
  fun _ _ _ _ _ _ _ _ _ _ => (R_at ok_Town_takeTurn rfl).trans e_ic,
  fun _ _ _ _ _ _ _ _ => (R_at ok_Town_takeTurn rfl).trans (e_ald rfl),
  fun _ _ _ _ _ _ _ _ _ => (R_at ok_Town_takeTurn rfl).trans e_gR,
  fun _ _ _ _ _ _ _ _ _ => (R_at ok_Town_takeTurn rfl).trans (e_ild rfl),
  fun _ _ _ _ _ _ _ _ _ _ => (R_at ok_Town_takeTurn rfl).trans (e_ild rfl),
  fun _ _ _ _ _ _ _ _ _ _ _ => (R_at ok_Town_takeTurn rfl).trans e_bin,
  fun _ _ _ _ _ _ _ _ _ _ => (R_at ok_Town_takeTurn rfl).trans e_al,
  fun _ _ _ _ _ _ _ _ _ => (R_at ok_Town_takeTurn rfl).trans e_ist,
  fun _ _ _ _ _ _ _ _ => (R_at ok_Town_takeTurn rfl).trans (e_ald rfl),
  fun _ _ _ _ _ _ _ _ _ => (R_at ok_Town_takeTurn rfl).trans e_gR,
  fun _ _ _ _ _ _ _ _ _ => (R_at ok_Town_takeTurn rfl).trans (e_ild rfl),
  fun _ _ _ _ _ _ _ _ _ _ => (R_at ok_Town_takeTurn rfl).trans (e_ild rfl),
  fun _ _ _ _ _ _ _ _ _ _ _ => (R_at ok_Town_takeTurn rfl).trans e_bin,
  fun _ _ _ _ _ _ _ _ _ _ => (R_at ok_Town_takeTurn rfl).trans e_al,
  fun _ _ _ _ _ _ _ _ _ => (R_at ok_Town_takeTurn rfl).trans e_ist,
  fun _ _ _ _ _ _ _ _ => (R_at ok_Town_takeTurn rfl).trans (e_ild rfl),
  fun _ _ _ _ _ _ _ _ _ => (R_at ok_Town_takeTurn rfl).trans e_ist,
  fun _ _ _ _ _ _ _ _ => (R_at ok_Town_takeTurn rfl).trans (e_iinc rfl),
  fun _ _ _ _ _ _ _ _ => (R_at ok_Town_takeTurn rfl).trans e_goto,
  fun _ _ _ _ _ _ _ _ => (R_at ok_Town_takeTurn rfl).trans (e_ald rfl),
  fun _ _ _ _ _ _ _ _ _ => (R_at ok_Town_takeTurn rfl).trans e_gR,
  fun _ _ _ _ _ _ _ _ _ => (R_at ok_Town_takeTurn rfl).trans (e_ild rfl),
  fun _ _ _ _ _ _ _ _ _ _ => (R_at ok_Town_takeTurn rfl).trans (e_ild rfl),
  fun _ _ _ _ _ _ _ _ _ _ _ => (R_at ok_Town_takeTurn rfl).trans e_as,
  fun _ _ _ _ _ _ _ _ => (R_at ok_Town_takeTurn rfl).trans (e_ald rfl),
  fun _ _ _ _ _ _ _ _ _ => (R_at ok_Town_takeTurn rfl).trans e_gR,
  fun _ _ _ _ _ _ _ _ _ => (R_at ok_Town_takeTurn rfl).trans (e_ild rfl),
  fun _ _ _ _ _ _ _ _ _ _ => (R_at ok_Town_takeTurn rfl).trans (e_ild rfl),
  fun _ _ _ _ _ _ _ _ _ _ _ => (R_at ok_Town_takeTurn rfl).trans e_as,
  fun _ _ _ _ _ _ _ _ => (R_at ok_Town_takeTurn rfl).trans (e_ild rfl),
  fun _ _ _ _ _ _ _ _ _ => (R_at ok_Town_takeTurn rfl).trans e_ifn,
  fun _ _ _ _ _ _ _ _ => (R_at ok_Town_takeTurn rfl).trans (e_ald rfl),
  fun _ _ _ _ _ _ _ _ _ => (R_at ok_Town_takeTurn rfl).trans (e_ild rfl),
  fun _ _ _ _ _ _ _ _ _ _ => (R_at ok_Town_takeTurn rfl).trans e_pI,
  fun _ _ _ _ _ _ _ _ => (R_at ok_Town_takeTurn rfl).trans e_vret⟩
set_option maxHeartbeats 4000000 in
theorem N_Town_leftOf (d : Nat) (Q : Qt) : ∀ (x0 : Int32) (x1 : Int32) (τ : St), Cl (d + 1) m_Town_leftOf [.int x0, .int x1] τ Q = Ru M_Town_leftOf d Q 0 [some (.int x0), some (.int x1)] [] τ := fun _ _ _ => propext ⟨fun h => h.2, fun h => ⟨Nat.le_of_ble_eq_true rfl, h⟩⟩
set_option maxHeartbeats 4000000 in
theorem E_Town_leftOf (d : Nat) (Q : Qt) :
    (∀ (a0 : Int32) (a1 : Int32) (τ : St), Ru M_Town_leftOf d Q 0 [some (.int a0), some (.int a1)] [] τ = Ru M_Town_leftOf d Q 1 [some (.int a0), some (.int a1)] [.int a1] τ) ∧
    (∀ (a0 : Int32) (a1 : Int32) (x0 : Int32) (τ : St), Ru M_Town_leftOf d Q 1 [some (.int a0), some (.int a1)] [.int x0] τ = ((x0 ≤ 0 → Ru M_Town_leftOf d Q 10 [some (.int a0), some (.int a1)] [] τ) ∧ (¬ x0 ≤ 0 → Ru M_Town_leftOf d Q 4 [some (.int a0), some (.int a1)] [] τ))) ∧
    (∀ (a0 : Int32) (a1 : Int32) (τ : St), Ru M_Town_leftOf d Q 4 [some (.int a0), some (.int a1)] [] τ = Ru M_Town_leftOf d Q 5 [some (.int a0), some (.int a1)] [.int a0] τ) ∧
    (∀ (a0 : Int32) (a1 : Int32) (x0 : Int32) (τ : St), Ru M_Town_leftOf d Q 5 [some (.int a0), some (.int a1)] [.int x0] τ = Ru M_Town_leftOf d Q 6 [some (.int a0), some (.int a1)] [.int a1, .int x0] τ) ∧
    (∀ (a0 : Int32) (a1 : Int32) (x0 : Int32) (x1 : Int32) (τ : St), Ru M_Town_leftOf d Q 6 [some (.int a0), some (.int a1)] [.int x0, .int x1] τ = Ru M_Town_leftOf d Q 7 [some (.int a0), some (.int a1)] [.int (x1 - x0)] τ) ∧
    (∀ (a0 : Int32) (a1 : Int32) (x0 : Int32) (τ : St), Ru M_Town_leftOf d Q 7 [some (.int a0), some (.int a1)] [.int x0] τ = Ru M_Town_leftOf d Q 11 [some (.int a0), some (.int a1)] [.int x0] τ) ∧
    (∀ (a0 : Int32) (a1 : Int32) (τ : St), Ru M_Town_leftOf d Q 10 [some (.int a0), some (.int a1)] [] τ = Ru M_Town_leftOf d Q 11 [some (.int a0), some (.int a1)] [.int 0] τ) ∧
    (∀ (a0 : Int32) (a1 : Int32) (x0 : Int32) (τ : St), Ru M_Town_leftOf d Q 11 [some (.int a0), some (.int a1)] [.int x0] τ = Q (some (.int x0)) τ) := ⟨
  fun _ _ _ => (R_at ok_Town_leftOf rfl).trans (e_ild rfl),
  fun _ _ _ _ => (R_at ok_Town_leftOf rfl).trans e_if,
  fun _ _ _ => (R_at ok_Town_leftOf rfl).trans (e_ild rfl),
  fun _ _ _ _ => (R_at ok_Town_leftOf rfl).trans (e_ild rfl),
  fun _ _ _ _ _ => (R_at ok_Town_leftOf rfl).trans e_bin,
  fun _ _ _ _ => (R_at ok_Town_leftOf rfl).trans e_goto,
  fun _ _ _ => (R_at ok_Town_leftOf rfl).trans e_push,
  fun _ _ _ _ => (R_at ok_Town_leftOf rfl).trans e_iret⟩
set_option maxHeartbeats 4000000 in
theorem N_Traces_clear (d : Nat) (Q : Qt) : ∀ (x0 : Nat) (τ : St), Cl (d + 1) m_Traces_clear [.ref x0] τ Q = Ru M_Traces_clear d Q 0 [some (.ref x0)] [] τ := fun _ _ => propext ⟨fun h => h.2, fun h => ⟨Nat.le_of_ble_eq_true rfl, h⟩⟩
set_option maxHeartbeats 4000000 in
theorem E_Traces_clear (d : Nat) (Q : Qt) :
    (∀ (a0 : Nat) (τ : St), Ru M_Traces_clear d Q 0 [some (.ref a0)] [] τ = Ru M_Traces_clear d Q 1 [some (.ref a0)] [.ref a0] τ) ∧
    (∀ (a0 : Nat) (x0 : Nat) (τ : St), Ru M_Traces_clear d Q 1 [some (.ref a0)] [.ref x0] τ = Ru M_Traces_clear d Q 2 [some (.ref a0)] [.int 0, .ref x0] τ) ∧
    (∀ (a0 : Nat) (x0 : Int32) (x1 : Nat) (τ : St), Ru M_Traces_clear d Q 2 [some (.ref a0)] [.int x0, .ref x1] τ = (isA 8 x1 ∧ Ru M_Traces_clear d Q 5 [some (.ref a0)] [] (sI τ x1 0 x0))) ∧
    (∀ (a0 : Nat) (τ : St), Ru M_Traces_clear d Q 5 [some (.ref a0)] [] τ = Ru M_Traces_clear d Q 6 [some (.ref a0)] [.ref a0] τ) ∧
    (∀ (a0 : Nat) (x0 : Nat) (τ : St), Ru M_Traces_clear d Q 6 [some (.ref a0)] [.ref x0] τ = Ru M_Traces_clear d Q 7 [some (.ref a0)] [.int 1, .ref x0] τ) ∧
    (∀ (a0 : Nat) (x0 : Int32) (x1 : Nat) (τ : St), Ru M_Traces_clear d Q 7 [some (.ref a0)] [.int x0, .ref x1] τ = (isA 8 x1 ∧ Ru M_Traces_clear d Q 10 [some (.ref a0)] [] (sI τ x1 1 x0))) ∧
    (∀ (a0 : Nat) (τ : St), Ru M_Traces_clear d Q 10 [some (.ref a0)] [] τ = Ru M_Traces_clear d Q 11 [some (.ref a0)] [.ref a0] τ) ∧
    (∀ (a0 : Nat) (x0 : Nat) (τ : St), Ru M_Traces_clear d Q 11 [some (.ref a0)] [.ref x0] τ = Ru M_Traces_clear d Q 13 [some (.ref a0)] [.int 99, .ref x0] τ) ∧
    (∀ (a0 : Nat) (x0 : Int32) (x1 : Nat) (τ : St), Ru M_Traces_clear d Q 13 [some (.ref a0)] [.int x0, .ref x1] τ = (isA 8 x1 ∧ Ru M_Traces_clear d Q 16 [some (.ref a0)] [] (sI τ x1 2 x0))) ∧
    (∀ (a0 : Nat) (τ : St), Ru M_Traces_clear d Q 16 [some (.ref a0)] [] τ = Q none τ) := ⟨
  fun _ _ => (R_at ok_Traces_clear rfl).trans (e_ald rfl),
  fun _ _ _ => (R_at ok_Traces_clear rfl).trans e_push,
  fun _ _ _ _ => (R_at ok_Traces_clear rfl).trans e_pI,
  fun _ _ => (R_at ok_Traces_clear rfl).trans (e_ald rfl),
  fun _ _ _ => (R_at ok_Traces_clear rfl).trans e_push,
  fun _ _ _ _ => (R_at ok_Traces_clear rfl).trans e_pI,
  fun _ _ => (R_at ok_Traces_clear rfl).trans (e_ald rfl),
  fun _ _ _ => (R_at ok_Traces_clear rfl).trans e_push,
  fun _ _ _ _ => (R_at ok_Traces_clear rfl).trans e_pI,
  fun _ _ => (R_at ok_Traces_clear rfl).trans e_vret⟩
set_option maxHeartbeats 4000000 in
theorem N_Traces_add (d : Nat) (Q : Qt) : ∀ (x0 : Nat) (x1 : Int32) (x2 : Int32) (τ : St), Cl (d + 1) m_Traces_add [.ref x0, .int x1, .int x2] τ Q = Ru M_Traces_add d Q 0 [some (.ref x0), some (.int x1), some (.int x2)] [] τ := fun _ _ _ _ => propext ⟨fun h => h.2, fun h => ⟨Nat.le_of_ble_eq_true rfl, h⟩⟩
set_option maxHeartbeats 4000000 in
theorem E_Traces_add (d : Nat) (Q : Qt) :
    (∀ (a0 : Nat) (a1 : Int32) (a2 : Int32) (τ : St), Ru M_Traces_add d Q 0 [some (.ref a0), some (.int a1), some (.int a2)] [] τ = Ru M_Traces_add d Q 1 [some (.ref a0), some (.int a1), some (.int a2)] [.ref a0] τ) ∧
    (∀ (a0 : Nat) (a1 : Int32) (a2 : Int32) (x0 : Nat) (τ : St), Ru M_Traces_add d Q 1 [some (.ref a0), some (.int a1), some (.int a2)] [.ref x0] τ = Ru M_Traces_add d Q 2 [some (.ref a0), some (.int a1), some (.int a2)] [.ref x0, .ref x0] τ) ∧
    (∀ (a0 : Nat) (a1 : Int32) (a2 : Int32) (x0 : Nat) (x1 : Nat) (τ : St), Ru M_Traces_add d Q 2 [some (.ref a0), some (.int a1), some (.int a2)] [.ref x0, .ref x1] τ = (isA 8 x0 ∧ Ru M_Traces_add d Q 5 [some (.ref a0), some (.int a1), some (.int a2)] [.int (τ.1 x0 0), .ref x1] τ)) ∧
    (∀ (a0 : Nat) (a1 : Int32) (a2 : Int32) (x0 : Int32) (x1 : Nat) (τ : St), Ru M_Traces_add d Q 5 [some (.ref a0), some (.int a1), some (.int a2)] [.int x0, .ref x1] τ = Ru M_Traces_add d Q 6 [some (.ref a0), some (.int a1), some (.int a2)] [.int 1, .int x0, .ref x1] τ) ∧
    (∀ (a0 : Nat) (a1 : Int32) (a2 : Int32) (x0 : Int32) (x1 : Int32) (x2 : Nat) (τ : St), Ru M_Traces_add d Q 6 [some (.ref a0), some (.int a1), some (.int a2)] [.int x0, .int x1, .ref x2] τ = Ru M_Traces_add d Q 7 [some (.ref a0), some (.int a1), some (.int a2)] [.int (x1 + x0), .ref x2] τ) ∧
    (∀ (a0 : Nat) (a1 : Int32) (a2 : Int32) (x0 : Int32) (x1 : Nat) (τ : St), Ru M_Traces_add d Q 7 [some (.ref a0), some (.int a1), some (.int a2)] [.int x0, .ref x1] τ = (isA 8 x1 ∧ Ru M_Traces_add d Q 10 [some (.ref a0), some (.int a1), some (.int a2)] [] (sI τ x1 0 x0))) ∧
    (∀ (a0 : Nat) (a1 : Int32) (a2 : Int32) (τ : St), Ru M_Traces_add d Q 10 [some (.ref a0), some (.int a1), some (.int a2)] [] τ = Ru M_Traces_add d Q 11 [some (.ref a0), some (.int a1), some (.int a2)] [.int a2] τ) ∧
    (∀ (a0 : Nat) (a1 : Int32) (a2 : Int32) (x0 : Int32) (τ : St), Ru M_Traces_add d Q 11 [some (.ref a0), some (.int a1), some (.int a2)] [.int x0] τ = ((x0 = 0 → Ru M_Traces_add d Q 29 [some (.ref a0), some (.int a1), some (.int a2)] [] τ) ∧ (¬ x0 = 0 → Ru M_Traces_add d Q 14 [some (.ref a0), some (.int a1), some (.int a2)] [] τ))) ∧
    (∀ (a0 : Nat) (a1 : Int32) (a2 : Int32) (τ : St), Ru M_Traces_add d Q 14 [some (.ref a0), some (.int a1), some (.int a2)] [] τ = Ru M_Traces_add d Q 15 [some (.ref a0), some (.int a1), some (.int a2)] [.ref a0] τ) ∧
    (∀ (a0 : Nat) (a1 : Int32) (a2 : Int32) (x0 : Nat) (τ : St), Ru M_Traces_add d Q 15 [some (.ref a0), some (.int a1), some (.int a2)] [.ref x0] τ = Ru M_Traces_add d Q 16 [some (.ref a0), some (.int a1), some (.int a2)] [.ref a0, .ref x0] τ) ∧
    (∀ (a0 : Nat) (a1 : Int32) (a2 : Int32) (x0 : Nat) (x1 : Nat) (τ : St), Ru M_Traces_add d Q 16 [some (.ref a0), some (.int a1), some (.int a2)] [.ref x0, .ref x1] τ = (isA 8 x0 ∧ Ru M_Traces_add d Q 19 [some (.ref a0), some (.int a1), some (.int a2)] [.int (τ.1 x0 1), .ref x1] τ)) ∧
    (∀ (a0 : Nat) (a1 : Int32) (a2 : Int32) (x0 : Int32) (x1 : Nat) (τ : St), Ru M_Traces_add d Q 19 [some (.ref a0), some (.int a1), some (.int a2)] [.int x0, .ref x1] τ = Ru M_Traces_add d Q 20 [some (.ref a0), some (.int a1), some (.int a2)] [.int a1, .int x0, .ref x1] τ) ∧
    (∀ (a0 : Nat) (a1 : Int32) (a2 : Int32) (x0 : Int32) (x1 : Int32) (x2 : Nat) (τ : St), Ru M_Traces_add d Q 20 [some (.ref a0), some (.int a1), some (.int a2)] [.int x0, .int x1, .ref x2] τ = Ru M_Traces_add d Q 23 [some (.ref a0), some (.int a1), some (.int a2)] [.int (if x1 < x0 then x0 else x1), .ref x2] τ) ∧
    (∀ (a0 : Nat) (a1 : Int32) (a2 : Int32) (x0 : Int32) (x1 : Nat) (τ : St), Ru M_Traces_add d Q 23 [some (.ref a0), some (.int a1), some (.int a2)] [.int x0, .ref x1] τ = (isA 8 x1 ∧ Ru M_Traces_add d Q 26 [some (.ref a0), some (.int a1), some (.int a2)] [] (sI τ x1 1 x0))) ∧
    (∀ (a0 : Nat) (a1 : Int32) (a2 : Int32) (τ : St), Ru M_Traces_add d Q 26 [some (.ref a0), some (.int a1), some (.int a2)] [] τ = Ru M_Traces_add d Q 43 [some (.ref a0), some (.int a1), some (.int a2)] [] τ) ∧
    (∀ (a0 : Nat) (a1 : Int32) (a2 : Int32) (τ : St), Ru M_Traces_add d Q 29 [some (.ref a0), some (.int a1), some (.int a2)] [] τ = Ru M_Traces_add d Q 30 [some (.ref a0), some (.int a1), some (.int a2)] [.ref a0] τ) ∧
    (∀ (a0 : Nat) (a1 : Int32) (a2 : Int32) (x0 : Nat) (τ : St), Ru M_Traces_add d Q 30 [some (.ref a0), some (.int a1), some (.int a2)] [.ref x0] τ = Ru M_Traces_add d Q 31 [some (.ref a0), some (.int a1), some (.int a2)] [.ref a0, .ref x0] τ) ∧
    (∀ (a0 : Nat) (a1 : Int32) (a2 : Int32) (x0 : Nat) (x1 : Nat) (τ : St), Ru M_Traces_add d Q 31 [some (.ref a0), some (.int a1), some (.int a2)] [.ref x0, .ref x1] τ = (isA 8 x0 ∧ Ru M_Traces_add d Q 34 [some (.ref a0), some (.int a1), some (.int a2)] [.int (τ.1 x0 2), .ref x1] τ)) ∧
    (∀ (a0 : Nat) (a1 : Int32) (a2 : Int32) (x0 : Int32) (x1 : Nat) (τ : St), Ru M_Traces_add d Q 34 [some (.ref a0), some (.int a1), some (.int a2)] [.int x0, .ref x1] τ = Ru M_Traces_add d Q 35 [some (.ref a0), some (.int a1), some (.int a2)] [.int a1, .int x0, .ref x1] τ) ∧
    (∀ (a0 : Nat) (a1 : Int32) (a2 : Int32) (x0 : Int32) (x1 : Int32) (x2 : Nat) (τ : St), Ru M_Traces_add d Q 35 [some (.ref a0), some (.int a1), some (.int a2)] [.int x0, .int x1, .ref x2] τ = Ru M_Traces_add d Q 36 [some (.ref a0), some (.int a1), some (.int a2)] [.int 1, .int x0, .int x1, .ref x2] τ) ∧
    (∀ (a0 : Nat) (a1 : Int32) (a2 : Int32) (x0 : Int32) (x1 : Int32) (x2 : Int32) (x3 : Nat) (τ : St), Ru M_Traces_add d Q 36 [some (.ref a0), some (.int a1), some (.int a2)] [.int x0, .int x1, .int x2, .ref x3] τ = Ru M_Traces_add d Q 37 [some (.ref a0), some (.int a1), some (.int a2)] [.int (x1 - x0), .int x2, .ref x3] τ) ∧
    (∀ (a0 : Nat) (a1 : Int32) (a2 : Int32) (x0 : Int32) (x1 : Int32) (x2 : Nat) (τ : St), Ru M_Traces_add d Q 37 [some (.ref a0), some (.int a1), some (.int a2)] [.int x0, .int x1, .ref x2] τ = Ru M_Traces_add d Q 40 [some (.ref a0), some (.int a1), some (.int a2)] [.int (if x0 < x1 then x0 else x1), .ref x2] τ) ∧
    (∀ (a0 : Nat) (a1 : Int32) (a2 : Int32) (x0 : Int32) (x1 : Nat) (τ : St), Ru M_Traces_add d Q 40 [some (.ref a0), some (.int a1), some (.int a2)] [.int x0, .ref x1] τ = (isA 8 x1 ∧ Ru M_Traces_add d Q 43 [some (.ref a0), some (.int a1), some (.int a2)] [] (sI τ x1 2 x0))) ∧
    (∀ (a0 : Nat) (a1 : Int32) (a2 : Int32) (τ : St), Ru M_Traces_add d Q 43 [some (.ref a0), some (.int a1), some (.int a2)] [] τ = Q none τ) := ⟨
  fun _ _ _ _ => (R_at ok_Traces_add rfl).trans (e_ald rfl),
  fun _ _ _ _ _ => (R_at ok_Traces_add rfl).trans (e_dup rfl),
  fun _ _ _ _ _ _ => (R_at ok_Traces_add rfl).trans e_gI,
  fun _ _ _ _ _ _ => (R_at ok_Traces_add rfl).trans e_push,
  fun _ _ _ _ _ _ _ => (R_at ok_Traces_add rfl).trans e_bin,
  fun _ _ _ _ _ _ => (R_at ok_Traces_add rfl).trans e_pI,
  fun _ _ _ _ => (R_at ok_Traces_add rfl).trans (e_ild rfl),
  fun _ _ _ _ _ => (R_at ok_Traces_add rfl).trans e_if,
  fun _ _ _ _ => (R_at ok_Traces_add rfl).trans (e_ald rfl),
  fun _ _ _ _ _ => (R_at ok_Traces_add rfl).trans (e_ald rfl),
  fun _ _ _ _ _ _ => (R_at ok_Traces_add rfl).trans e_gI,
  fun _ _ _ _ _ _ => (R_at ok_Traces_add rfl).trans (e_ild rfl),
  fun _ _ _ _ _ _ _ => (R_at ok_Traces_add rfl).trans (e_mm rfl),
  fun _ _ _ _ _ _ => (R_at ok_Traces_add rfl).trans e_pI,
  fun _ _ _ _ => (R_at ok_Traces_add rfl).trans e_goto,
  fun _ _ _ _ => (R_at ok_Traces_add rfl).trans (e_ald rfl),
  fun _ _ _ _ _ => (R_at ok_Traces_add rfl).trans (e_ald rfl),
  fun _ _ _ _ _ _ => (R_at ok_Traces_add rfl).trans e_gI,
  fun _ _ _ _ _ _ => (R_at ok_Traces_add rfl).trans (e_ild rfl),
  fun _ _ _ _ _ _ _ => (R_at ok_Traces_add rfl).trans e_push,
  fun _ _ _ _ _ _ _ _ => (R_at ok_Traces_add rfl).trans e_bin,
  fun _ _ _ _ _ _ _ => (R_at ok_Traces_add rfl).trans (e_mm rfl),
  fun _ _ _ _ _ _ => (R_at ok_Traces_add rfl).trans e_pI,
  fun _ _ _ _ => (R_at ok_Traces_add rfl).trans e_vret⟩
set_option maxHeartbeats 4000000 in
theorem N_Traces_allow (d : Nat) (Q : Qt) : ∀ (x0 : Nat) (x1 : Int32) (τ : St), Cl (d + 1) m_Traces_allow [.ref x0, .int x1] τ Q = Ru M_Traces_allow d Q 0 [some (.ref x0), some (.int x1)] [] τ := fun _ _ _ => propext ⟨fun h => h.2, fun h => ⟨Nat.le_of_ble_eq_true rfl, h⟩⟩
set_option maxHeartbeats 4000000 in
theorem E_Traces_allow (d : Nat) (Q : Qt) :
    (∀ (a0 : Nat) (a1 : Int32) (τ : St), Ru M_Traces_allow d Q 0 [some (.ref a0), some (.int a1)] [] τ = Ru M_Traces_allow d Q 1 [some (.ref a0), some (.int a1)] [.int a1] τ) ∧
    (∀ (a0 : Nat) (a1 : Int32) (x0 : Int32) (τ : St), Ru M_Traces_allow d Q 1 [some (.ref a0), some (.int a1)] [.int x0] τ = Ru M_Traces_allow d Q 2 [some (.ref a0), some (.int a1)] [.ref a0, .int x0] τ) ∧
    (∀ (a0 : Nat) (a1 : Int32) (x0 : Nat) (x1 : Int32) (τ : St), Ru M_Traces_allow d Q 2 [some (.ref a0), some (.int a1)] [.ref x0, .int x1] τ = (isA 8 x0 ∧ Ru M_Traces_allow d Q 5 [some (.ref a0), some (.int a1)] [.int (τ.1 x0 1), .int x1] τ)) ∧
    (∀ (a0 : Nat) (a1 : Int32) (x0 : Int32) (x1 : Int32) (τ : St), Ru M_Traces_allow d Q 5 [some (.ref a0), some (.int a1)] [.int x0, .int x1] τ = ((x1 < x0 → Ru M_Traces_allow d Q 20 [some (.ref a0), some (.int a1)] [] τ) ∧ (¬ x1 < x0 → Ru M_Traces_allow d Q 8 [some (.ref a0), some (.int a1)] [] τ))) ∧
    (∀ (a0 : Nat) (a1 : Int32) (τ : St), Ru M_Traces_allow d Q 8 [some (.ref a0), some (.int a1)] [] τ = Ru M_Traces_allow d Q 9 [some (.ref a0), some (.int a1)] [.int a1] τ) ∧
    (∀ (a0 : Nat) (a1 : Int32) (x0 : Int32) (τ : St), Ru M_Traces_allow d Q 9 [some (.ref a0), some (.int a1)] [.int x0] τ = Ru M_Traces_allow d Q 10 [some (.ref a0), some (.int a1)] [.ref a0, .int x0] τ) ∧
    (∀ (a0 : Nat) (a1 : Int32) (x0 : Nat) (x1 : Int32) (τ : St), Ru M_Traces_allow d Q 10 [some (.ref a0), some (.int a1)] [.ref x0, .int x1] τ = (isA 8 x0 ∧ Ru M_Traces_allow d Q 13 [some (.ref a0), some (.int a1)] [.int (τ.1 x0 2), .int x1] τ)) ∧
    (∀ (a0 : Nat) (a1 : Int32) (x0 : Int32) (x1 : Int32) (τ : St), Ru M_Traces_allow d Q 13 [some (.ref a0), some (.int a1)] [.int x0, .int x1] τ = ((x0 < x1 → Ru M_Traces_allow d Q 20 [some (.ref a0), some (.int a1)] [] τ) ∧ (¬ x0 < x1 → Ru M_Traces_allow d Q 16 [some (.ref a0), some (.int a1)] [] τ))) ∧
    (∀ (a0 : Nat) (a1 : Int32) (τ : St), Ru M_Traces_allow d Q 16 [some (.ref a0), some (.int a1)] [] τ = Ru M_Traces_allow d Q 17 [some (.ref a0), some (.int a1)] [.int 1] τ) ∧
    (∀ (a0 : Nat) (a1 : Int32) (x0 : Int32) (τ : St), Ru M_Traces_allow d Q 17 [some (.ref a0), some (.int a1)] [.int x0] τ = Ru M_Traces_allow d Q 21 [some (.ref a0), some (.int a1)] [.int x0] τ) ∧
    (∀ (a0 : Nat) (a1 : Int32) (τ : St), Ru M_Traces_allow d Q 20 [some (.ref a0), some (.int a1)] [] τ = Ru M_Traces_allow d Q 21 [some (.ref a0), some (.int a1)] [.int 0] τ) ∧
    (∀ (a0 : Nat) (a1 : Int32) (x0 : Int32) (τ : St), Ru M_Traces_allow d Q 21 [some (.ref a0), some (.int a1)] [.int x0] τ = ((x0 = 0 ∨ x0 = 1) ∧ Q (some (.int x0)) τ)) := ⟨
  fun _ _ _ => (R_at ok_Traces_allow rfl).trans (e_ild rfl),
  fun _ _ _ _ => (R_at ok_Traces_allow rfl).trans (e_ald rfl),
  fun _ _ _ _ _ => (R_at ok_Traces_allow rfl).trans e_gI,
  fun _ _ _ _ _ => (R_at ok_Traces_allow rfl).trans e_ic,
  fun _ _ _ => (R_at ok_Traces_allow rfl).trans (e_ild rfl),
  fun _ _ _ _ => (R_at ok_Traces_allow rfl).trans (e_ald rfl),
  fun _ _ _ _ _ => (R_at ok_Traces_allow rfl).trans e_gI,
  fun _ _ _ _ _ => (R_at ok_Traces_allow rfl).trans e_ic,
  fun _ _ _ => (R_at ok_Traces_allow rfl).trans e_push,
  fun _ _ _ _ => (R_at ok_Traces_allow rfl).trans e_goto,
  fun _ _ _ => (R_at ok_Traces_allow rfl).trans e_push,
  fun _ _ _ _ => (R_at ok_Traces_allow rfl).trans e_zret⟩
set_option maxHeartbeats 4000000 in
theorem N_Wall_read (d : Nat) (Q : Qt) : ∀ (x0 : Nat) (x1 : Nat) (τ : St), Cl (d + 1) m_Wall_read [.ref x0, .ref x1] τ Q = Ru M_Wall_read d Q 0 [some (.ref x0), some (.ref x1), none, none] [] τ := fun _ _ _ => propext ⟨fun h => h.2, fun h => ⟨Nat.le_of_ble_eq_true rfl, h⟩⟩
set_option maxHeartbeats 4000000 in
theorem E_Wall_read (d : Nat) (Q : Qt) :
    (∀ (a0 : Nat) (a1 : Nat) (τ : St), Ru M_Wall_read d Q 0 [some (.ref a0), some (.ref a1), none, none] [] τ = Ru M_Wall_read d Q 1 [some (.ref a0), some (.ref a1), none, none] [.ref a0] τ) ∧
    (∀ (a0 : Nat) (a1 : Nat) (x0 : Nat) (τ : St), Ru M_Wall_read d Q 1 [some (.ref a0), some (.ref a1), none, none] [.ref x0] τ = Ru M_Wall_read d Q 2 [some (.ref a0), some (.ref a1), none, none] [.int 0, .ref x0] τ) ∧
    (∀ (a0 : Nat) (a1 : Nat) (x0 : Int32) (x1 : Nat) (τ : St), Ru M_Wall_read d Q 2 [some (.ref a0), some (.ref a1), none, none] [.int x0, .ref x1] τ = (isA 9 x1 ∧ Ru M_Wall_read d Q 5 [some (.ref a0), some (.ref a1), none, none] [] (sI τ x1 1 x0))) ∧
    (∀ (a0 : Nat) (a1 : Nat) (τ : St), Ru M_Wall_read d Q 5 [some (.ref a0), some (.ref a1), none, none] [] τ = Ru M_Wall_read d Q 6 [some (.ref a0), some (.ref a1), none, none] [.ref a1] τ) ∧
    (∀ (a0 : Nat) (a1 : Nat) (x0 : Nat) (τ : St), Ru M_Wall_read d Q 6 [some (.ref a0), some (.ref a1), none, none] [.ref x0] τ = Ru M_Wall_read d Q 8 [some (.ref a0), some (.ref a1), none, none] [.int 80, .ref x0] τ) ∧
    (∀ (a0 : Nat) (a1 : Nat) (x0 : Int32) (x1 : Nat) (τ : St), Ru M_Wall_read d Q 8 [some (.ref a0), some (.ref a1), none, none] [.int x0, .ref x1] τ = (isA 6 x1 ∧ Cl d m_Text_open [.ref x1, .int x0] τ (fun v τ' => Ru M_Wall_read d Q 11 [some (.ref a0), some (.ref a1), none, none] (v.toList ++ []) τ'))) ∧
    (∀ (a0 : Nat) (a1 : Nat) (τ : St), Ru M_Wall_read d Q 11 [some (.ref a0), some (.ref a1), none, none] [] τ = Ru M_Wall_read d Q 12 [some (.ref a0), some (.ref a1), none, none] [.int 0] τ) ∧
    (∀ (a0 : Nat) (a1 : Nat) (x0 : Int32) (τ : St), Ru M_Wall_read d Q 12 [some (.ref a0), some (.ref a1), none, none] [.int x0] τ = Rs M_Wall_read d Q 13 [some (.ref a0), some (.ref a1), some (.int x0), none] [] τ) ∧
    (∀ (a0 : Nat) (a1 : Nat) (a2 : Int32) (a3 : Option Value) (τ : St), Ru M_Wall_read d Q 13 [some (.ref a0), some (.ref a1), some (.int a2), a3] [] τ = Ru M_Wall_read d Q 14 [some (.ref a0), some (.ref a1), some (.int a2), a3] [.int a2] τ) ∧
    (∀ (a0 : Nat) (a1 : Nat) (a2 : Int32) (a3 : Option Value) (x0 : Int32) (τ : St), Ru M_Wall_read d Q 14 [some (.ref a0), some (.ref a1), some (.int a2), a3] [.int x0] τ = Ru M_Wall_read d Q 15 [some (.ref a0), some (.ref a1), some (.int a2), a3] [.int 4, .int x0] τ) ∧
    (∀ (a0 : Nat) (a1 : Nat) (a2 : Int32) (a3 : Option Value) (x0 : Int32) (x1 : Int32) (τ : St), Ru M_Wall_read d Q 15 [some (.ref a0), some (.ref a1), some (.int a2), a3] [.int x0, .int x1] τ = ((x0 ≤ x1 → Ru M_Wall_read d Q 57 [some (.ref a0), some (.ref a1), some (.int a2), a3] [] τ) ∧ (¬ x0 ≤ x1 → Ru M_Wall_read d Q 18 [some (.ref a0), some (.ref a1), some (.int a2), a3] [] τ))) ∧
    (∀ (a0 : Nat) (a1 : Nat) (a2 : Int32) (a3 : Option Value) (τ : St), Ru M_Wall_read d Q 18 [some (.ref a0), some (.ref a1), some (.int a2), a3] [] τ = Ru M_Wall_read d Q 19 [some (.ref a0), some (.ref a1), some (.int a2), a3] [.ref a1] τ) ∧
    (∀ (a0 : Nat) (a1 : Nat) (a2 : Int32) (a3 : Option Value) (x0 : Nat) (τ : St), Ru M_Wall_read d Q 19 [some (.ref a0), some (.ref a1), some (.int a2), a3] [.ref x0] τ = Ru M_Wall_read d Q 20 [some (.ref a0), some (.ref a1), some (.int a2), a3] [.int 1, .ref x0] τ) ∧
    (∀ (a0 : Nat) (a1 : Nat) (a2 : Int32) (a3 : Option Value) (x0 : Int32) (x1 : Nat) (τ : St), Ru M_Wall_read d Q 20 [some (.ref a0), some (.ref a1), some (.int a2), a3] [.int x0, .ref x1] τ = Ru M_Wall_read d Q 22 [some (.ref a0), some (.ref a1), some (.int a2), a3] [.int 9, .int x0, .ref x1] τ) ∧
    (∀ (a0 : Nat) (a1 : Nat) (a2 : Int32) (a3 : Option Value) (x0 : Int32) (x1 : Int32) (x2 : Nat) (τ : St), Ru M_Wall_read d Q 22 [some (.ref a0), some (.ref a1), some (.int a2), a3] [.int x0, .int x1, .ref x2] τ = (isA 6 x2 ∧ Cl d m_Text_takeDigit [.ref x2, .int x1, .int x0] τ (fun v τ' => Ru M_Wall_read d Q 25 [some (.ref a0), some (.ref a1), some (.int a2), a3] (v.toList ++ []) τ'))) ∧
    (∀ (a0 : Nat) (a1 : Nat) (a2 : Int32) (a3 : Option Value) (x0 : Int32) (τ : St), Ru M_Wall_read d Q 25 [some (.ref a0), some (.ref a1), some (.int a2), a3] [.int x0] τ = Ru M_Wall_read d Q 26 [some (.ref a0), some (.ref a1), some (.int a2), some (.int x0)] [] τ) ∧
    (∀ (a0 : Nat) (a1 : Nat) (a2 : Int32) (a3 : Int32) (τ : St), Ru M_Wall_read d Q 26 [some (.ref a0), some (.ref a1), some (.int a2), some (.int a3)] [] τ = Ru M_Wall_read d Q 27 [some (.ref a0), some (.ref a1), some (.int a2), some (.int a3)] [.int a3] τ) ∧
    (∀ (a0 : Nat) (a1 : Nat) (a2 : Int32) (a3 : Int32) (x0 : Int32) (τ : St), Ru M_Wall_read d Q 27 [some (.ref a0), some (.ref a1), some (.int a2), some (.int a3)] [.int x0] τ = Ru M_Wall_read d Q 28 [some (.ref a0), some (.ref a1), some (.int a2), some (.int a3)] [.int (-1), .int x0] τ) ∧
    (∀ (a0 : Nat) (a1 : Nat) (a2 : Int32) (a3 : Int32) (x0 : Int32) (x1 : Int32) (τ : St), Ru M_Wall_read d Q 28 [some (.ref a0), some (.ref a1), some (.int a2), some (.int a3)] [.int x0, .int x1] τ = ((¬ x1 = x0 → Ru M_Wall_read d Q 34 [some (.ref a0), some (.ref a1), some (.int a2), some (.int a3)] [] τ) ∧ (x1 = x0 → Ru M_Wall_read d Q 31 [some (.ref a0), some (.ref a1), some (.int a2), some (.int a3)] [] τ))) ∧
    (∀ (a0 : Nat) (a1 : Nat) (a2 : Int32) (a3 : Int32) (τ : St), Ru M_Wall_read d Q 31 [some (.ref a0), some (.ref a1), some (.int a2), some (.int a3)] [] τ = Ru M_Wall_read d Q 57 [some (.ref a0), some (.ref a1), some (.int a2), some (.int a3)] [] τ) ∧
    (∀ (a0 : Nat) (a1 : Nat) (a2 : Int32) (a3 : Int32) (τ : St), Ru M_Wall_read d Q 34 [some (.ref a0), some (.ref a1), some (.int a2), some (.int a3)] [] τ = Ru M_Wall_read d Q 35 [some (.ref a0), some (.ref a1), some (.int a2), some (.int a3)] [.ref a0] τ) ∧
    (∀ (a0 : Nat) (a1 : Nat) (a2 : Int32) (a3 : Int32) (x0 : Nat) (τ : St), Ru M_Wall_read d Q 35 [some (.ref a0), some (.ref a1), some (.int a2), some (.int a3)] [.ref x0] τ = (isA 9 x0 ∧ Ru M_Wall_read d Q 38 [some (.ref a0), some (.ref a1), some (.int a2), some (.int a3)] [.ref (rtab x0 0)] τ)) ∧
    (∀ (a0 : Nat) (a1 : Nat) (a2 : Int32) (a3 : Int32) (x0 : Nat) (τ : St), Ru M_Wall_read d Q 38 [some (.ref a0), some (.ref a1), some (.int a2), some (.int a3)] [.ref x0] τ = Ru M_Wall_read d Q 39 [some (.ref a0), some (.ref a1), some (.int a2), some (.int a3)] [.int a2, .ref x0] τ) ∧
    (∀ (a0 : Nat) (a1 : Nat) (a2 : Int32) (a3 : Int32) (x0 : Int32) (x1 : Nat) (τ : St), Ru M_Wall_read d Q 39 [some (.ref a0), some (.ref a1), some (.int a2), some (.int a3)] [.int x0, .ref x1] τ = Ru M_Wall_read d Q 40 [some (.ref a0), some (.ref a1), some (.int a2), some (.int a3)] [.int a3, .int x0, .ref x1] τ) ∧
    (∀ (a0 : Nat) (a1 : Nat) (a2 : Int32) (a3 : Int32) (x0 : Int32) (x1 : Int32) (x2 : Nat) (τ : St), Ru M_Wall_read d Q 40 [some (.ref a0), some (.ref a1), some (.int a2), some (.int a3)] [.int x0, .int x1, .ref x2] τ = (isA 14 x2 ∧ vp_in x1 (len x2) ∧ Ru M_Wall_read d Q 41 [some (.ref a0), some (.ref a1), some (.int a2), some (.int a3)] [] (sI τ x2 x1.toNatClampNeg (x0)))) ∧
    (∀ (a0 : Nat) (a1 : Nat) (a2 : Int32) (a3 : Int32) (τ : St), Ru M_Wall_read d Q 41 [some (.ref a0), some (.ref a1), some (.int a2), some (.int a3)] [] τ = Ru M_Wall_read d Q 42 [some (.ref a0), some (.ref a1), some (.int a2), some (.int a3)] [.ref a0] τ) ∧
    (∀ (a0 : Nat) (a1 : Nat) (a2 : Int32) (a3 : Int32) (x0 : Nat) (τ : St), Ru M_Wall_read d Q 42 [some (.ref a0), some (.ref a1), some (.int a2), some (.int a3)] [.ref x0] τ = Ru M_Wall_read d Q 43 [some (.ref a0), some (.ref a1), some (.int a2), some (.int a3)] [.ref x0, .ref x0] τ) ∧
    (∀ (a0 : Nat) (a1 : Nat) (a2 : Int32) (a3 : Int32) (x0 : Nat) (x1 : Nat) (τ : St), Ru M_Wall_read d Q 43 [some (.ref a0), some (.ref a1), some (.int a2), some (.int a3)] [.ref x0, .ref x1] τ = (isA 9 x0 ∧ Ru M_Wall_read d Q 46 [some (.ref a0), some (.ref a1), some (.int a2), some (.int a3)] [.int (τ.1 x0 1), .ref x1] τ)) ∧
    (∀ (a0 : Nat) (a1 : Nat) (a2 : Int32) (a3 : Int32) (x0 : Int32) (x1 : Nat) (τ : St), Ru M_Wall_read d Q 46 [some (.ref a0), some (.ref a1), some (.int a2), some (.int a3)] [.int x0, .ref x1] τ = Ru M_Wall_read d Q 47 [some (.ref a0), some (.ref a1), some (.int a2), some (.int a3)] [.int 1, .int x0, .ref x1] τ) ∧
    (∀ (a0 : Nat) (a1 : Nat) (a2 : Int32) (a3 : Int32) (x0 : Int32) (x1 : Int32) (x2 : Nat) (τ : St), Ru M_Wall_read d Q 47 [some (.ref a0), some (.ref a1), some (.int a2), some (.int a3)] [.int x0, .int x1, .ref x2] τ = Ru M_Wall_read d Q 48 [some (.ref a0), some (.ref a1), some (.int a2), some (.int a3)] [.int (x1 + x0), .ref x2] τ) ∧
    (∀ (a0 : Nat) (a1 : Nat) (a2 : Int32) (a3 : Int32) (x0 : Int32) (x1 : Nat) (τ : St), Ru M_Wall_read d Q 48 [some (.ref a0), some (.ref a1), some (.int a2), some (.int a3)] [.int x0, .ref x1] τ = (isA 9 x1 ∧ Ru M_Wall_read d Q 51 [some (.ref a0), some (.ref a1), some (.int a2), some (.int a3)] [] (sI τ x1 1 x0))) ∧
    (∀ (a0 : Nat) (a1 : Nat) (a2 : Int32) (a3 : Int32) (τ : St), Ru M_Wall_read d Q 51 [some (.ref a0), some (.ref a1), some (.int a2), some (.int a3)] [] τ = Ru M_Wall_read d Q 54 [some (.ref a0), some (.ref a1), some (.int (a2 + 1)), some (.int a3)] [] τ) ∧
    (∀ (a0 : Nat) (a1 : Nat) (a2 : Int32) (a3 : Int32) (τ : St), Ru M_Wall_read d Q 54 [some (.ref a0), some (.ref a1), some (.int a2), some (.int a3)] [] τ = Rs M_Wall_read d Q 13 [some (.ref a0), some (.ref a1), some (.int a2), some (.int a3)] [] τ) ∧
    (∀ (a0 : Nat) (a1 : Nat) (a2 : Int32) (a3 : Option Value) (τ : St), Ru M_Wall_read d Q 57 [some (.ref a0), some (.ref a1), some (.int a2), a3] [] τ = Ru M_Wall_read d Q 58 [some (.ref a0), some (.ref a1), some (.int a2), a3] [.ref a0] τ) ∧
    (∀ (a0 : Nat) (a1 : Nat) (a2 : Int32) (a3 : Option Value) (x0 : Nat) (τ : St), Ru M_Wall_read d Q 58 [some (.ref a0), some (.ref a1), some (.int a2), a3] [.ref x0] τ = (isA 9 x0 ∧ Ru M_Wall_read d Q 61 [some (.ref a0), some (.ref a1), some (.int a2), a3] [.int (τ.1 x0 1)] τ)) ∧
    (∀ (a0 : Nat) (a1 : Nat) (a2 : Int32) (a3 : Option Value) (x0 : Int32) (τ : St), Ru M_Wall_read d Q 61 [some (.ref a0), some (.ref a1), some (.int a2), a3] [.int x0] τ = ((x0 ≤ 0 → Ru M_Wall_read d Q 75 [some (.ref a0), some (.ref a1), some (.int a2), a3] [] τ) ∧ (¬ x0 ≤ 0 → Ru M_Wall_read d Q 64 [some (.ref a0), some (.ref a1), some (.int a2), a3] [] τ))) ∧
    (∀ (a0 : Nat) (a1 : Nat) (a2 : Int32) (a3 : Option Value) (τ : St), Ru M_Wall_read d Q 64 [some (.ref a0), some (.ref a1), some (.int a2), a3] [] τ = Ru M_Wall_read d Q 65 [some (.ref a0), some (.ref a1), some (.int a2), a3] [.ref a1] τ) ∧
    (∀ (a0 : Nat) (a1 : Nat) (a2 : Int32) (a3 : Option Value) (x0 : Nat) (τ : St), Ru M_Wall_read d Q 65 [some (.ref a0), some (.ref a1), some (.int a2), a3] [.ref x0] τ = (isA 6 x0 ∧ Cl d m_Text_finished [.ref x0] τ (fun v τ' => Ru M_Wall_read d Q 68 [some (.ref a0), some (.ref a1), some (.int a2), a3] (v.toList ++ []) τ'))) ∧
    (∀ (a0 : Nat) (a1 : Nat) (a2 : Int32) (a3 : Option Value) (x0 : Int32) (τ : St), Ru M_Wall_read d Q 68 [some (.ref a0), some (.ref a1), some (.int a2), a3] [.int x0] τ = ((x0 = 0 → Ru M_Wall_read d Q 75 [some (.ref a0), some (.ref a1), some (.int a2), a3] [] τ) ∧ (¬ x0 = 0 → Ru M_Wall_read d Q 71 [some (.ref a0), some (.ref a1), some (.int a2), a3] [] τ))) ∧
    (∀ (a0 : Nat) (a1 : Nat) (a2 : Int32) (a3 : Option Value) (τ : St), Ru M_Wall_read d Q 71 [some (.ref a0), some (.ref a1), some (.int a2), a3] [] τ = Ru M_Wall_read d Q 72 [some (.ref a0), some (.ref a1), some (.int a2), a3] [.int 1] τ) ∧
    (∀ (a0 : Nat) (a1 : Nat) (a2 : Int32) (a3 : Option Value) (x0 : Int32) (τ : St), Ru M_Wall_read d Q 72 [some (.ref a0), some (.ref a1), some (.int a2), a3] [.int x0] τ = Ru M_Wall_read d Q 76 [some (.ref a0), some (.ref a1), some (.int a2), a3] [.int x0] τ) ∧
    (∀ (a0 : Nat) (a1 : Nat) (a2 : Int32) (a3 : Option Value) (τ : St), Ru M_Wall_read d Q 75 [some (.ref a0), some (.ref a1), some (.int a2), a3] [] τ = Ru M_Wall_read d Q 76 [some (.ref a0), some (.ref a1), some (.int a2), a3] [.int 0] τ) ∧
    (∀ (a0 : Nat) (a1 : Nat) (a2 : Int32) (a3 : Option Value) (x0 : Int32) (τ : St), Ru M_Wall_read d Q 76 [some (.ref a0), some (.ref a1), some (.int a2), a3] [.int x0] τ = ((x0 = 0 ∨ x0 = 1) ∧ Q (some (.int x0)) τ)) := ⟨
  fun _ _ _ => (R_at ok_Wall_read rfl).trans (e_ald rfl),
  fun _ _ _ _ => (R_at ok_Wall_read rfl).trans e_push,
  fun _ _ _ _ _ => (R_at ok_Wall_read rfl).trans e_pI,
  fun _ _ _ => (R_at ok_Wall_read rfl).trans (e_ald rfl),
  fun _ _ _ _ => (R_at ok_Wall_read rfl).trans e_push,
  fun _ _ x0 _ _ => (R_at ok_Wall_read rfl).trans (e_cv [.int x0] rfl rfl rfl),
  fun _ _ _ => (R_at ok_Wall_read rfl).trans e_push,
  fun _ _ _ _ => (R_at ok_Wall_read rfl).trans e_ist,
  fun _ _ _ _ _ => (R_at ok_Wall_read rfl).trans (e_ild rfl),
  fun _ _ _ _ _ _ => (R_at ok_Wall_read rfl).trans e_push,
  fun _ _ _ _ _ _ _ => (R_at ok_Wall_read rfl).trans e_ic,
  fun _ _ _ _ _ => (R_at ok_Wall_read rfl).trans (e_ald rfl),
  fun _ _ _ _ _ _ => (R_at ok_Wall_read rfl).trans e_push,
  fun _ _ _ _ _ _ _ => (R_at ok_Wall_read rfl).trans e_push,
  fun _ _ _ _ x0 x1 _ _ => (R_at ok_Wall_read rfl).trans (e_cv [.int x1, .int x0] rfl rfl rfl),
  fun _ _ _ _ _ _ => (R_at ok_Wall_read rfl).trans e_ist,
  fun _ _ _ _ _ => (R_at ok_Wall_read rfl).trans (e_ild rfl),
  fun _ _ _ _ _ _ => (R_at ok_Wall_read rfl).trans e_push,
  fun _ _ _ _ _ _ _ => (R_at ok_Wall_read rfl).trans e_icn,
  fun _ _ _ _ _ => (R_at ok_Wall_read rfl).trans e_goto,
  fun _ _ _ _ _ => (R_at ok_Wall_read rfl).trans (e_ald rfl),
  fun _ _ _ _ _ _ => (R_at ok_Wall_read rfl).trans e_gR,
  fun _ _ _ _ _ _ => (R_at ok_Wall_read rfl).trans (e_ild rfl),
  fun _ _ _ _ _ _ _ => (R_at ok_Wall_read rfl).trans (e_ild rfl),
  fun _ _ _ _ _ _ _ _ => (R_at ok_Wall_read rfl).trans e_as,
  fun _ _ _ _ _ => (R_at ok_Wall_read rfl).trans (e_ald rfl),
  fun _ _ _ _ _ _ => (R_at ok_Wall_read rfl).trans (e_dup rfl),
  fun _ _ _ _ _ _ _ => (R_at ok_Wall_read rfl).trans e_gI,
  fun _ _ _ _ _ _ _ => (R_at ok_Wall_read rfl).trans e_push,
  fun _ _ _ _ _ _ _ _ => (R_at ok_Wall_read rfl).trans e_bin,
  fun _ _ _ _ _ _ _ => (R_at ok_Wall_read rfl).trans e_pI,
  fun _ _ _ _ _ => (R_at ok_Wall_read rfl).trans (e_iinc rfl),
  fun _ _ _ _ _ => (R_at ok_Wall_read rfl).trans e_goto,
  fun _ _ _ _ _ => (R_at ok_Wall_read rfl).trans (e_ald rfl),
  fun _ _ _ _ _ _ => (R_at ok_Wall_read rfl).trans e_gI,
  fun _ _ _ _ _ _ => (R_at ok_Wall_read rfl).trans e_if,
  fun _ _ _ _ _ => (R_at ok_Wall_read rfl).trans (e_ald rfl),
  fun _ _ _ _ _ _ => (R_at ok_Wall_read rfl).trans (e_cv [] rfl rfl rfl),
  fun _ _ _ _ _ _ => (R_at ok_Wall_read rfl).trans e_if,
  fun _ _ _ _ _ => (R_at ok_Wall_read rfl).trans e_push,
  fun _ _ _ _ _ _ => (R_at ok_Wall_read rfl).trans e_goto,
  fun _ _ _ _ _ => (R_at ok_Wall_read rfl).trans e_push,
  fun _ _ _ _ _ _ => (R_at ok_Wall_read rfl).trans e_zret⟩
set_option maxHeartbeats 4000000 in
theorem N_Wall_man (d : Nat) (Q : Qt) : ∀ (x0 : Nat) (x1 : Int32) (x2 : Nat) (τ : St), Cl (d + 1) m_Wall_man [.ref x0, .int x1, .ref x2] τ Q = Ru M_Wall_man d Q 0 [some (.ref x0), some (.int x1), some (.ref x2), none, none, none, none] [] τ := fun _ _ _ _ => propext ⟨fun h => h.2, fun h => ⟨Nat.le_of_ble_eq_true rfl, h⟩⟩
set_option maxHeartbeats 4000000 in
theorem E_Wall_man (d : Nat) (Q : Qt) :
    (∀ (a0 : Nat) (a1 : Int32) (a2 : Nat) (τ : St), Ru M_Wall_man d Q 0 [some (.ref a0), some (.int a1), some (.ref a2), none, none, none, none] [] τ = Ru M_Wall_man d Q 1 [some (.ref a0), some (.int a1), some (.ref a2), none, none, none, none] [.ref a0] τ) ∧
    (∀ (a0 : Nat) (a1 : Int32) (a2 : Nat) (x0 : Nat) (τ : St), Ru M_Wall_man d Q 1 [some (.ref a0), some (.int a1), some (.ref a2), none, none, none, none] [.ref x0] τ = Ru M_Wall_man d Q 2 [some (.ref a0), some (.int a1), some (.ref a2), none, none, none, none] [.int a1, .ref x0] τ) ∧
    (∀ (a0 : Nat) (a1 : Int32) (a2 : Nat) (x0 : Int32) (x1 : Nat) (τ : St), Ru M_Wall_man d Q 2 [some (.ref a0), some (.int a1), some (.ref a2), none, none, none, none] [.int x0, .ref x1] τ = (isA 9 x1 ∧ Cl d m_Wall_bestShare [.ref x1, .int x0] τ (fun v τ' => Ru M_Wall_man d Q 5 [some (.ref a0), some (.int a1), some (.ref a2), none, none, none, none] (v.toList ++ []) τ'))) ∧
    (∀ (a0 : Nat) (a1 : Int32) (a2 : Nat) (x0 : Int32) (τ : St), Ru M_Wall_man d Q 5 [some (.ref a0), some (.int a1), some (.ref a2), none, none, none, none] [.int x0] τ = Ru M_Wall_man d Q 6 [some (.ref a0), some (.int a1), some (.ref a2), some (.int x0), none, none, none] [] τ) ∧
    (∀ (a0 : Nat) (a1 : Int32) (a2 : Nat) (a3 : Int32) (τ : St), Ru M_Wall_man d Q 6 [some (.ref a0), some (.int a1), some (.ref a2), some (.int a3), none, none, none] [] τ = Ru M_Wall_man d Q 7 [some (.ref a0), some (.int a1), some (.ref a2), some (.int a3), none, none, none] [.int a1] τ) ∧
    (∀ (a0 : Nat) (a1 : Int32) (a2 : Nat) (a3 : Int32) (x0 : Int32) (τ : St), Ru M_Wall_man d Q 7 [some (.ref a0), some (.int a1), some (.ref a2), some (.int a3), none, none, none] [.int x0] τ = Ru M_Wall_man d Q 9 [some (.ref a0), some (.int a1), some (.ref a2), some (.int a3), some (.int x0), none, none] [] τ) ∧
    (∀ (a0 : Nat) (a1 : Int32) (a2 : Nat) (a3 : Int32) (a4 : Int32) (τ : St), Ru M_Wall_man d Q 9 [some (.ref a0), some (.int a1), some (.ref a2), some (.int a3), some (.int a4), none, none] [] τ = Ru M_Wall_man d Q 10 [some (.ref a0), some (.int a1), some (.ref a2), some (.int a3), some (.int a4), none, none] [.ref a2] τ) ∧
    (∀ (a0 : Nat) (a1 : Int32) (a2 : Nat) (a3 : Int32) (a4 : Int32) (x0 : Nat) (τ : St), Ru M_Wall_man d Q 10 [some (.ref a0), some (.int a1), some (.ref a2), some (.int a3), some (.int a4), none, none] [.ref x0] τ = (isA 4 x0 ∧ Cl d m_Row_clear [.ref x0] τ (fun v τ' => Ru M_Wall_man d Q 13 [some (.ref a0), some (.int a1), some (.ref a2), some (.int a3), some (.int a4), none, none] (v.toList ++ []) τ'))) ∧
    (∀ (a0 : Nat) (a1 : Int32) (a2 : Nat) (a3 : Int32) (a4 : Int32) (τ : St), Ru M_Wall_man d Q 13 [some (.ref a0), some (.int a1), some (.ref a2), some (.int a3), some (.int a4), none, none] [] τ = Ru M_Wall_man d Q 14 [some (.ref a0), some (.int a1), some (.ref a2), some (.int a3), some (.int a4), none, none] [.int 0] τ) ∧
    (∀ (a0 : Nat) (a1 : Int32) (a2 : Nat) (a3 : Int32) (a4 : Int32) (x0 : Int32) (τ : St), Ru M_Wall_man d Q 14 [some (.ref a0), some (.int a1), some (.ref a2), some (.int a3), some (.int a4), none, none] [.int x0] τ = Rs M_Wall_man d Q 16 [some (.ref a0), some (.int a1), some (.ref a2), some (.int a3), some (.int a4), some (.int x0), none] [] τ) ∧
    (∀ (a0 : Nat) (a1 : Int32) (a2 : Nat) (a3 : Int32) (a4 : Int32) (a5 : Int32) (a6 : Option Value) (τ : St), Ru M_Wall_man d Q 16 [some (.ref a0), some (.int a1), some (.ref a2), some (.int a3), some (.int a4), some (.int a5), a6] [] τ = Ru M_Wall_man d Q 18 [some (.ref a0), some (.int a1), some (.ref a2), some (.int a3), some (.int a4), some (.int a5), a6] [.int a5] τ) ∧
    (∀ (a0 : Nat) (a1 : Int32) (a2 : Nat) (a3 : Int32) (a4 : Int32) (a5 : Int32) (a6 : Option Value) (x0 : Int32) (τ : St), Ru M_Wall_man d Q 18 [some (.ref a0), some (.int a1), some (.ref a2), some (.int a3), some (.int a4), some (.int a5), a6] [.int x0] τ = Ru M_Wall_man d Q 19 [some (.ref a0), some (.int a1), some (.ref a2), some (.int a3), some (.int a4), some (.int a5), a6] [.ref a0, .int x0] τ) ∧
    (∀ (a0 : Nat) (a1 : Int32) (a2 : Nat) (a3 : Int32) (a4 : Int32) (a5 : Int32) (a6 : Option Value) (x0 : Nat) (x1 : Int32) (τ : St), Ru M_Wall_man d Q 19 [some (.ref a0), some (.int a1), some (.ref a2), some (.int a3), some (.int a4), some (.int a5), a6] [.ref x0, .int x1] τ = (isA 9 x0 ∧ Ru M_Wall_man d Q 22 [some (.ref a0), some (.int a1), some (.ref a2), some (.int a3), some (.int a4), some (.int a5), a6] [.int (τ.1 x0 1), .int x1] τ)) ∧
    (∀ (a0 : Nat) (a1 : Int32) (a2 : Nat) (a3 : Int32) (a4 : Int32) (a5 : Int32) (a6 : Option Value) (x0 : Int32) (x1 : Int32) (τ : St), Ru M_Wall_man d Q 22 [some (.ref a0), some (.int a1), some (.ref a2), some (.int a3), some (.int a4), some (.int a5), a6] [.int x0, .int x1] τ = ((x0 ≤ x1 → Ru M_Wall_man d Q 70 [some (.ref a0), some (.int a1), some (.ref a2), some (.int a3), some (.int a4), some (.int a5), a6] [] τ) ∧ (¬ x0 ≤ x1 → Ru M_Wall_man d Q 25 [some (.ref a0), some (.int a1), some (.ref a2), some (.int a3), some (.int a4), some (.int a5), a6] [] τ))) ∧
    (∀ (a0 : Nat) (a1 : Int32) (a2 : Nat) (a3 : Int32) (a4 : Int32) (a5 : Int32) (a6 : Option Value) (τ : St), Ru M_Wall_man d Q 25 [some (.ref a0), some (.int a1), some (.ref a2), some (.int a3), some (.int a4), some (.int a5), a6] [] τ = Ru M_Wall_man d Q 27 [some (.ref a0), some (.int a1), some (.ref a2), some (.int a3), some (.int a4), some (.int a5), a6] [.int a5] τ) ∧
    (∀ (a0 : Nat) (a1 : Int32) (a2 : Nat) (a3 : Int32) (a4 : Int32) (a5 : Int32) (a6 : Option Value) (x0 : Int32) (τ : St), Ru M_Wall_man d Q 27 [some (.ref a0), some (.int a1), some (.ref a2), some (.int a3), some (.int a4), some (.int a5), a6] [.int x0] τ = Ru M_Wall_man d Q 28 [some (.ref a0), some (.int a1), some (.ref a2), some (.int a3), some (.int a4), some (.int a5), a6] [.ref a0, .int x0] τ) ∧
    (∀ (a0 : Nat) (a1 : Int32) (a2 : Nat) (a3 : Int32) (a4 : Int32) (a5 : Int32) (a6 : Option Value) (x0 : Nat) (x1 : Int32) (τ : St), Ru M_Wall_man d Q 28 [some (.ref a0), some (.int a1), some (.ref a2), some (.int a3), some (.int a4), some (.int a5), a6] [.ref x0, .int x1] τ = (isA 9 x0 ∧ Ru M_Wall_man d Q 31 [some (.ref a0), some (.int a1), some (.ref a2), some (.int a3), some (.int a4), some (.int a5), a6] [.int (τ.1 x0 1), .int x1] τ)) ∧
    (∀ (a0 : Nat) (a1 : Int32) (a2 : Nat) (a3 : Int32) (a4 : Int32) (a5 : Int32) (a6 : Option Value) (x0 : Int32) (x1 : Int32) (τ : St), Ru M_Wall_man d Q 31 [some (.ref a0), some (.int a1), some (.ref a2), some (.int a3), some (.int a4), some (.int a5), a6] [.int x0, .int x1] τ = Ru M_Wall_man d Q 32 [some (.ref a0), some (.int a1), some (.ref a2), some (.int a3), some (.int a4), some (.int a5), a6] [.int 1, .int x0, .int x1] τ) ∧
    (∀ (a0 : Nat) (a1 : Int32) (a2 : Nat) (a3 : Int32) (a4 : Int32) (a5 : Int32) (a6 : Option Value) (x0 : Int32) (x1 : Int32) (x2 : Int32) (τ : St), Ru M_Wall_man d Q 32 [some (.ref a0), some (.int a1), some (.ref a2), some (.int a3), some (.int a4), some (.int a5), a6] [.int x0, .int x1, .int x2] τ = Ru M_Wall_man d Q 33 [some (.ref a0), some (.int a1), some (.ref a2), some (.int a3), some (.int a4), some (.int a5), a6] [.int (x1 - x0), .int x2] τ) ∧
    (∀ (a0 : Nat) (a1 : Int32) (a2 : Nat) (a3 : Int32) (a4 : Int32) (a5 : Int32) (a6 : Option Value) (x0 : Int32) (x1 : Int32) (τ : St), Ru M_Wall_man d Q 33 [some (.ref a0), some (.int a1), some (.ref a2), some (.int a3), some (.int a4), some (.int a5), a6] [.int x0, .int x1] τ = ((¬ x1 = x0 → Ru M_Wall_man d Q 41 [some (.ref a0), some (.int a1), some (.ref a2), some (.int a3), some (.int a4), some (.int a5), a6] [] τ) ∧ (x1 = x0 → Ru M_Wall_man d Q 36 [some (.ref a0), some (.int a1), some (.ref a2), some (.int a3), some (.int a4), some (.int a5), a6] [] τ))) ∧
    (∀ (a0 : Nat) (a1 : Int32) (a2 : Nat) (a3 : Int32) (a4 : Int32) (a5 : Int32) (a6 : Option Value) (τ : St), Ru M_Wall_man d Q 36 [some (.ref a0), some (.int a1), some (.ref a2), some (.int a3), some (.int a4), some (.int a5), a6] [] τ = Ru M_Wall_man d Q 38 [some (.ref a0), some (.int a1), some (.ref a2), some (.int a3), some (.int a4), some (.int a5), a6] [.int a4] τ) ∧
    (∀ (a0 : Nat) (a1 : Int32) (a2 : Nat) (a3 : Int32) (a4 : Int32) (a5 : Int32) (a6 : Option Value) (x0 : Int32) (τ : St), Ru M_Wall_man d Q 38 [some (.ref a0), some (.int a1), some (.ref a2), some (.int a3), some (.int a4), some (.int a5), a6] [.int x0] τ = Ru M_Wall_man d Q 48 [some (.ref a0), some (.int a1), some (.ref a2), some (.int a3), some (.int a4), some (.int a5), a6] [.int x0] τ) ∧
    (∀ (a0 : Nat) (a1 : Int32) (a2 : Nat) (a3 : Int32) (a4 : Int32) (a5 : Int32) (a6 : Option Value) (τ : St), Ru M_Wall_man d Q 41 [some (.ref a0), some (.int a1), some (.ref a2), some (.int a3), some (.int a4), some (.int a5), a6] [] τ = Ru M_Wall_man d Q 42 [some (.ref a0), some (.int a1), some (.ref a2), some (.int a3), some (.int a4), some (.int a5), a6] [.ref a0] τ) ∧
    (∀ (a0 : Nat) (a1 : Int32) (a2 : Nat) (a3 : Int32) (a4 : Int32) (a5 : Int32) (a6 : Option Value) (x0 : Nat) (τ : St), Ru M_Wall_man d Q 42 [some (.ref a0), some (.int a1), some (.ref a2), some (.int a3), some (.int a4), some (.int a5), a6] [.ref x0] τ = Ru M_Wall_man d Q 44 [some (.ref a0), some (.int a1), some (.ref a2), some (.int a3), some (.int a4), some (.int a5), a6] [.int a5, .ref x0] τ) ∧
    (∀ (a0 : Nat) (a1 : Int32) (a2 : Nat) (a3 : Int32) (a4 : Int32) (a5 : Int32) (a6 : Option Value) (x0 : Int32) (x1 : Nat) (τ : St), Ru M_Wall_man d Q 44 [some (.ref a0), some (.int a1), some (.ref a2), some (.int a3), some (.int a4), some (.int a5), a6] [.int x0, .ref x1] τ = Ru M_Wall_man d Q 45 [some (.ref a0), some (.int a1), some (.ref a2), some (.int a3), some (.int a4), some (.int a5), a6] [.int a3, .int x0, .ref x1] τ) ∧
    (∀ (a0 : Nat) (a1 : Int32) (a2 : Nat) (a3 : Int32) (a4 : Int32) (a5 : Int32) (a6 : Option Value) (x0 : Int32) (x1 : Int32) (x2 : Nat) (τ : St), Ru M_Wall_man d Q 45 [some (.ref a0), some (.int a1), some (.ref a2), some (.int a3), some (.int a4), some (.int a5), a6] [.int x0, .int x1, .ref x2] τ = (isA 9 x2 ∧ Cl d m_Wall_menFor [.ref x2, .int x1, .int x0] τ (fun v τ' => Ru M_Wall_man d Q 48 [some (.ref a0), some (.int a1), some (.ref a2), some (.int a3), some (.int a4), some (.int a5), a6] (v.toList ++ []) τ'))) ∧
    (∀ (a0 : Nat) (a1 : Int32) (a2 : Nat) (a3 : Int32) (a4 : Int32) (a5 : Int32) (a6 : Option Value) (x0 : Int32) (τ : St), Ru M_Wall_man d Q 48 [some (.ref a0), some (.int a1), some (.ref a2), some (.int a3), some (.int a4), some (.int a5), a6] [.int x0] τ = Ru M_Wall_man d Q 50 [some (.ref a0), some (.int a1), some (.ref a2), some (.int a3), some (.int a4), some (.int a5), some (.int x0)] [] τ) ∧
    (∀ (a0 : Nat) (a1 : Int32) (a2 : Nat) (a3 : Int32) (a4 : Int32) (a5 : Int32) (a6 : Int32) (τ : St), Ru M_Wall_man d Q 50 [some (.ref a0), some (.int a1), some (.ref a2), some (.int a3), some (.int a4), some (.int a5), some (.int a6)] [] τ = Ru M_Wall_man d Q 51 [some (.ref a0), some (.int a1), some (.ref a2), some (.int a3), some (.int a4), some (.int a5), some (.int a6)] [.ref a2] τ) ∧
    (∀ (a0 : Nat) (a1 : Int32) (a2 : Nat) (a3 : Int32) (a4 : Int32) (a5 : Int32) (a6 : Int32) (x0 : Nat) (τ : St), Ru M_Wall_man d Q 51 [some (.ref a0), some (.int a1), some (.ref a2), some (.int a3), some (.int a4), some (.int a5), some (.int a6)] [.ref x0] τ = Ru M_Wall_man d Q 53 [some (.ref a0), some (.int a1), some (.ref a2), some (.int a3), some (.int a4), some (.int a5), some (.int a6)] [.int a6, .ref x0] τ) ∧
    (∀ (a0 : Nat) (a1 : Int32) (a2 : Nat) (a3 : Int32) (a4 : Int32) (a5 : Int32) (a6 : Int32) (x0 : Int32) (x1 : Nat) (τ : St), Ru M_Wall_man d Q 53 [some (.ref a0), some (.int a1), some (.ref a2), some (.int a3), some (.int a4), some (.int a5), some (.int a6)] [.int x0, .ref x1] τ = Ru M_Wall_man d Q 54 [some (.ref a0), some (.int a1), some (.ref a2), some (.int a3), some (.int a4), some (.int a5), some (.int a6)] [.long x0.toInt64, .ref x1] τ) ∧
    (∀ (a0 : Nat) (a1 : Int32) (a2 : Nat) (a3 : Int32) (a4 : Int32) (a5 : Int32) (a6 : Int32) (x0 : Int64) (x1 : Nat) (τ : St), Ru M_Wall_man d Q 54 [some (.ref a0), some (.int a1), some (.ref a2), some (.int a3), some (.int a4), some (.int a5), some (.int a6)] [.long x0, .ref x1] τ = (isA 4 x1 ∧ Cl d m_Row_add [.ref x1, .long x0] τ (fun v τ' => Ru M_Wall_man d Q 57 [some (.ref a0), some (.int a1), some (.ref a2), some (.int a3), some (.int a4), some (.int a5), some (.int a6)] (v.toList ++ []) τ'))) ∧
    (∀ (a0 : Nat) (a1 : Int32) (a2 : Nat) (a3 : Int32) (a4 : Int32) (a5 : Int32) (a6 : Int32) (τ : St), Ru M_Wall_man d Q 57 [some (.ref a0), some (.int a1), some (.ref a2), some (.int a3), some (.int a4), some (.int a5), some (.int a6)] [] τ = Ru M_Wall_man d Q 59 [some (.ref a0), some (.int a1), some (.ref a2), some (.int a3), some (.int a4), some (.int a5), some (.int a6)] [.int a4] τ) ∧
    (∀ (a0 : Nat) (a1 : Int32) (a2 : Nat) (a3 : Int32) (a4 : Int32) (a5 : Int32) (a6 : Int32) (x0 : Int32) (τ : St), Ru M_Wall_man d Q 59 [some (.ref a0), some (.int a1), some (.ref a2), some (.int a3), some (.int a4), some (.int a5), some (.int a6)] [.int x0] τ = Ru M_Wall_man d Q 61 [some (.ref a0), some (.int a1), some (.ref a2), some (.int a3), some (.int a4), some (.int a5), some (.int a6)] [.int a6, .int x0] τ) ∧
    (∀ (a0 : Nat) (a1 : Int32) (a2 : Nat) (a3 : Int32) (a4 : Int32) (a5 : Int32) (a6 : Int32) (x0 : Int32) (x1 : Int32) (τ : St), Ru M_Wall_man d Q 61 [some (.ref a0), some (.int a1), some (.ref a2), some (.int a3), some (.int a4), some (.int a5), some (.int a6)] [.int x0, .int x1] τ = Ru M_Wall_man d Q 62 [some (.ref a0), some (.int a1), some (.ref a2), some (.int a3), some (.int a4), some (.int a5), some (.int a6)] [.int (x1 - x0)] τ) ∧
    (∀ (a0 : Nat) (a1 : Int32) (a2 : Nat) (a3 : Int32) (a4 : Int32) (a5 : Int32) (a6 : Int32) (x0 : Int32) (τ : St), Ru M_Wall_man d Q 62 [some (.ref a0), some (.int a1), some (.ref a2), some (.int a3), some (.int a4), some (.int a5), some (.int a6)] [.int x0] τ = Ru M_Wall_man d Q 64 [some (.ref a0), some (.int a1), some (.ref a2), some (.int a3), some (.int x0), some (.int a5), some (.int a6)] [] τ) ∧
    (∀ (a0 : Nat) (a1 : Int32) (a2 : Nat) (a3 : Int32) (a4 : Int32) (a5 : Int32) (a6 : Int32) (τ : St), Ru M_Wall_man d Q 64 [some (.ref a0), some (.int a1), some (.ref a2), some (.int a3), some (.int a4), some (.int a5), some (.int a6)] [] τ = Ru M_Wall_man d Q 67 [some (.ref a0), some (.int a1), some (.ref a2), some (.int a3), some (.int a4), some (.int (a5 + 1)), some (.int a6)] [] τ) ∧
    (∀ (a0 : Nat) (a1 : Int32) (a2 : Nat) (a3 : Int32) (a4 : Int32) (a5 : Int32) (a6 : Int32) (τ : St), Ru M_Wall_man d Q 67 [some (.ref a0), some (.int a1), some (.ref a2), some (.int a3), some (.int a4), some (.int a5), some (.int a6)] [] τ = Rs M_Wall_man d Q 16 [some (.ref a0), some (.int a1), some (.ref a2), some (.int a3), some (.int a4), some (.int a5), some (.int a6)] [] τ) ∧
    (∀ (a0 : Nat) (a1 : Int32) (a2 : Nat) (a3 : Int32) (a4 : Int32) (a5 : Int32) (a6 : Option Value) (τ : St), Ru M_Wall_man d Q 70 [some (.ref a0), some (.int a1), some (.ref a2), some (.int a3), some (.int a4), some (.int a5), a6] [] τ = Ru M_Wall_man d Q 71 [some (.ref a0), some (.int a1), some (.ref a2), some (.int a3), some (.int a4), some (.int a5), a6] [.int a3] τ) ∧
    (∀ (a0 : Nat) (a1 : Int32) (a2 : Nat) (a3 : Int32) (a4 : Int32) (a5 : Int32) (a6 : Option Value) (x0 : Int32) (τ : St), Ru M_Wall_man d Q 71 [some (.ref a0), some (.int a1), some (.ref a2), some (.int a3), some (.int a4), some (.int a5), a6] [.int x0] τ = Q (some (.int x0)) τ) := ⟨
  fun _ _ _ _ => (R_at ok_Wall_man rfl).trans (e_ald rfl),
  fun _ _ _ _ _ => (R_at ok_Wall_man rfl).trans (e_ild rfl),
  fun _ _ _ x0 _ _ => (R_at ok_Wall_man rfl).trans (e_cv [.int x0] rfl rfl rfl),
  fun _ _ _ _ _ => (R_at ok_Wall_man rfl).trans e_ist,
  fun _ _ _ _ _ => (R_at ok_Wall_man rfl).trans (e_ild rfl),
  fun _ _ _ _ _ _ => (R_at ok_Wall_man rfl).trans e_ist,
  fun _ _ _ _ _ _ => (R_at ok_Wall_man rfl).trans (e_ald rfl),
  fun _ _ _ _ _ _ _ => (R_at ok_Wall_man rfl).trans (e_cv [] rfl rfl rfl),
  fun _ _ _ _ _ _ => (R_at ok_Wall_man rfl).trans e_push,
  fun _ _ _ _ _ _ _ => (R_at ok_Wall_man rfl).trans e_ist,
  fun _ _ _ _ _ _ _ _ => (R_at ok_Wall_man rfl).trans (e_ild rfl),
  fun _ _ _ _ _ _ _ _ _ => (R_at ok_Wall_man rfl).trans (e_ald rfl),
  fun _ _ _ _ _ _ _ _ _ _ => (R_at ok_Wall_man rfl).trans e_gI,
  fun _ _ _ _ _ _ _ _ _ _ => (R_at ok_Wall_man rfl).trans e_ic,
  fun _ _ _ _ _ _ _ _ => (R_at ok_Wall_man rfl).trans (e_ild rfl),
  fun _ _ _ _ _ _ _ _ _ => (R_at ok_Wall_man rfl).trans (e_ald rfl),
  fun _ _ _ _ _ _ _ _ _ _ => (R_at ok_Wall_man rfl).trans e_gI,
  fun _ _ _ _ _ _ _ _ _ _ => (R_at ok_Wall_man rfl).trans e_push,
  fun _ _ _ _ _ _ _ _ _ _ _ => (R_at ok_Wall_man rfl).trans e_bin,
  fun _ _ _ _ _ _ _ _ _ _ => (R_at ok_Wall_man rfl).trans e_icn,
  fun _ _ _ _ _ _ _ _ => (R_at ok_Wall_man rfl).trans (e_ild rfl),
  fun _ _ _ _ _ _ _ _ _ => (R_at ok_Wall_man rfl).trans e_goto,
  fun _ _ _ _ _ _ _ _ => (R_at ok_Wall_man rfl).trans (e_ald rfl),
  fun _ _ _ _ _ _ _ _ _ => (R_at ok_Wall_man rfl).trans (e_ild rfl),
  fun _ _ _ _ _ _ _ _ _ _ => (R_at ok_Wall_man rfl).trans (e_ild rfl),
  fun _ _ _ _ _ _ _ x0 x1 _ _ => (R_at ok_Wall_man rfl).trans (e_cv [.int x1, .int x0] rfl rfl rfl),
  fun _ _ _ _ _ _ _ _ _ => (R_at ok_Wall_man rfl).trans e_ist,
  fun _ _ _ _ _ _ _ _ => (R_at ok_Wall_man rfl).trans (e_ald rfl),
  fun _ _ _ _ _ _ _ _ _ => (R_at ok_Wall_man rfl).trans (e_ild rfl),
  fun _ _ _ _ _ _ _ _ _ _ => (R_at ok_Wall_man rfl).trans e_il,
  fun _ _ _ _ _ _ _ x0 _ _ => (R_at ok_Wall_man rfl).trans (e_cv [.long x0] rfl rfl rfl),
  fun _ _ _ _ _ _ _ _ => (R_at ok_Wall_man rfl).trans (e_ild rfl),
  fun _ _ _ _ _ _ _ _ _ => (R_at ok_Wall_man rfl).trans (e_ild rfl),
  fun _ _ _ _ _ _ _ _ _ _ => (R_at ok_Wall_man rfl).trans e_bin,
  fun _ _ _ _ _ _ _ _ _ => (R_at ok_Wall_man rfl).trans e_ist,
  fun _ _ _ _ _ _ _ _ => (R_at ok_Wall_man rfl).trans (e_iinc rfl),
  fun _ _ _ _ _ _ _ _ => (R_at ok_Wall_man rfl).trans e_goto,
  fun _ _ _ _ _ _ _ _ => (R_at ok_Wall_man rfl).trans (e_ild rfl),
  fun _ _ _ _ _ _ _ _ _ => (R_at ok_Wall_man rfl).trans e_iret⟩
set_option maxHeartbeats 4000000 in
theorem N_Wall_bestShare (d : Nat) (Q : Qt) : ∀ (x0 : Nat) (x1 : Int32) (τ : St), Cl (d + 1) m_Wall_bestShare [.ref x0, .int x1] τ Q = Ru M_Wall_bestShare d Q 0 [some (.ref x0), some (.int x1), none, none, none, none] [] τ := fun _ _ _ => propext ⟨fun h => h.2, fun h => ⟨Nat.le_of_ble_eq_true rfl, h⟩⟩
set_option maxHeartbeats 4000000 in
theorem E_Wall_bestShare (d : Nat) (Q : Qt) :
    (∀ (a0 : Nat) (a1 : Int32) (τ : St), Ru M_Wall_bestShare d Q 0 [some (.ref a0), some (.int a1), none, none, none, none] [] τ = Ru M_Wall_bestShare d Q 1 [some (.ref a0), some (.int a1), none, none, none, none] [.int 0] τ) ∧
    (∀ (a0 : Nat) (a1 : Int32) (x0 : Int32) (τ : St), Ru M_Wall_bestShare d Q 1 [some (.ref a0), some (.int a1), none, none, none, none] [.int x0] τ = Ru M_Wall_bestShare d Q 2 [some (.ref a0), some (.int a1), some (.int x0), none, none, none] [] τ) ∧
    (∀ (a0 : Nat) (a1 : Int32) (a2 : Int32) (τ : St), Ru M_Wall_bestShare d Q 2 [some (.ref a0), some (.int a1), some (.int a2), none, none, none] [] τ = Ru M_Wall_bestShare d Q 3 [some (.ref a0), some (.int a1), some (.int a2), none, none, none] [.int a1] τ) ∧
    (∀ (a0 : Nat) (a1 : Int32) (a2 : Int32) (x0 : Int32) (τ : St), Ru M_Wall_bestShare d Q 3 [some (.ref a0), some (.int a1), some (.int a2), none, none, none] [.int x0] τ = Ru M_Wall_bestShare d Q 5 [some (.ref a0), some (.int a1), some (.int a2), none, none, none] [.int 100, .int x0] τ) ∧
    (∀ (a0 : Nat) (a1 : Int32) (a2 : Int32) (x0 : Int32) (x1 : Int32) (τ : St), Ru M_Wall_bestShare d Q 5 [some (.ref a0), some (.int a1), some (.int a2), none, none, none] [.int x0, .int x1] τ = Ru M_Wall_bestShare d Q 6 [some (.ref a0), some (.int a1), some (.int a2), none, none, none] [.int (x1 * x0)] τ) ∧
    (∀ (a0 : Nat) (a1 : Int32) (a2 : Int32) (x0 : Int32) (τ : St), Ru M_Wall_bestShare d Q 6 [some (.ref a0), some (.int a1), some (.int a2), none, none, none] [.int x0] τ = Ru M_Wall_bestShare d Q 7 [some (.ref a0), some (.int a1), some (.int a2), some (.int x0), none, none] [] τ) ∧
    (∀ (a0 : Nat) (a1 : Int32) (a2 : Int32) (a3 : Int32) (τ : St), Ru M_Wall_bestShare d Q 7 [some (.ref a0), some (.int a1), some (.int a2), some (.int a3), none, none] [] τ = Ru M_Wall_bestShare d Q 8 [some (.ref a0), some (.int a1), some (.int a2), some (.int a3), none, none] [.int 0] τ) ∧
    (∀ (a0 : Nat) (a1 : Int32) (a2 : Int32) (a3 : Int32) (x0 : Int32) (τ : St), Ru M_Wall_bestShare d Q 8 [some (.ref a0), some (.int a1), some (.int a2), some (.int a3), none, none] [.int x0] τ = Rs M_Wall_bestShare d Q 10 [some (.ref a0), some (.int a1), some (.int a2), some (.int a3), some (.int x0), none] [] τ) ∧
    (∀ (a0 : Nat) (a1 : Int32) (a2 : Int32) (a3 : Int32) (a4 : Int32) (a5 : Option Value) (τ : St), Ru M_Wall_bestShare d Q 10 [some (.ref a0), some (.int a1), some (.int a2), some (.int a3), some (.int a4), a5] [] τ = Ru M_Wall_bestShare d Q 12 [some (.ref a0), some (.int a1), some (.int a2), some (.int a3), some (.int a4), a5] [.int a4] τ) ∧
    (∀ (a0 : Nat) (a1 : Int32) (a2 : Int32) (a3 : Int32) (a4 : Int32) (a5 : Option Value) (x0 : Int32) (τ : St), Ru M_Wall_bestShare d Q 12 [some (.ref a0), some (.int a1), some (.int a2), some (.int a3), some (.int a4), a5] [.int x0] τ = Ru M_Wall_bestShare d Q 14 [some (.ref a0), some (.int a1), some (.int a2), some (.int a3), some (.int a4), a5] [.int 14, .int x0] τ) ∧
    (∀ (a0 : Nat) (a1 : Int32) (a2 : Int32) (a3 : Int32) (a4 : Int32) (a5 : Option Value) (x0 : Int32) (x1 : Int32) (τ : St), Ru M_Wall_bestShare d Q 14 [some (.ref a0), some (.int a1), some (.int a2), some (.int a3), some (.int a4), a5] [.int x0, .int x1] τ = ((x0 ≤ x1 → Ru M_Wall_bestShare d Q 58 [some (.ref a0), some (.int a1), some (.int a2), some (.int a3), some (.int a4), a5] [] τ) ∧ (¬ x0 ≤ x1 → Ru M_Wall_bestShare d Q 17 [some (.ref a0), some (.int a1), some (.int a2), some (.int a3), some (.int a4), a5] [] τ))) ∧
    (∀ (a0 : Nat) (a1 : Int32) (a2 : Int32) (a3 : Int32) (a4 : Int32) (a5 : Option Value) (τ : St), Ru M_Wall_bestShare d Q 17 [some (.ref a0), some (.int a1), some (.int a2), some (.int a3), some (.int a4), a5] [] τ = Ru M_Wall_bestShare d Q 18 [some (.ref a0), some (.int a1), some (.int a2), some (.int a3), some (.int a4), a5] [.int a2] τ) ∧
    (∀ (a0 : Nat) (a1 : Int32) (a2 : Int32) (a3 : Int32) (a4 : Int32) (a5 : Option Value) (x0 : Int32) (τ : St), Ru M_Wall_bestShare d Q 18 [some (.ref a0), some (.int a1), some (.int a2), some (.int a3), some (.int a4), a5] [.int x0] τ = Ru M_Wall_bestShare d Q 19 [some (.ref a0), some (.int a1), some (.int a2), some (.int a3), some (.int a4), a5] [.int a3, .int x0] τ) ∧
    (∀ (a0 : Nat) (a1 : Int32) (a2 : Int32) (a3 : Int32) (a4 : Int32) (a5 : Option Value) (x0 : Int32) (x1 : Int32) (τ : St), Ru M_Wall_bestShare d Q 19 [some (.ref a0), some (.int a1), some (.int a2), some (.int a3), some (.int a4), a5] [.int x0, .int x1] τ = ((x0 ≤ x1 → Ru M_Wall_bestShare d Q 58 [some (.ref a0), some (.int a1), some (.int a2), some (.int a3), some (.int a4), a5] [] τ) ∧ (¬ x0 ≤ x1 → Ru M_Wall_bestShare d Q 22 [some (.ref a0), some (.int a1), some (.int a2), some (.int a3), some (.int a4), a5] [] τ))) ∧
    (∀ (a0 : Nat) (a1 : Int32) (a2 : Int32) (a3 : Int32) (a4 : Int32) (a5 : Option Value) (τ : St), Ru M_Wall_bestShare d Q 22 [some (.ref a0), some (.int a1), some (.int a2), some (.int a3), some (.int a4), a5] [] τ = Ru M_Wall_bestShare d Q 23 [some (.ref a0), some (.int a1), some (.int a2), some (.int a3), some (.int a4), a5] [.int a2] τ) ∧
    (∀ (a0 : Nat) (a1 : Int32) (a2 : Int32) (a3 : Int32) (a4 : Int32) (a5 : Option Value) (x0 : Int32) (τ : St), Ru M_Wall_bestShare d Q 23 [some (.ref a0), some (.int a1), some (.int a2), some (.int a3), some (.int a4), a5] [.int x0] τ = Ru M_Wall_bestShare d Q 24 [some (.ref a0), some (.int a1), some (.int a2), some (.int a3), some (.int a4), a5] [.int a3, .int x0] τ) ∧
    (∀ (a0 : Nat) (a1 : Int32) (a2 : Int32) (a3 : Int32) (a4 : Int32) (a5 : Option Value) (x0 : Int32) (x1 : Int32) (τ : St), Ru M_Wall_bestShare d Q 24 [some (.ref a0), some (.int a1), some (.int a2), some (.int a3), some (.int a4), a5] [.int x0, .int x1] τ = Ru M_Wall_bestShare d Q 25 [some (.ref a0), some (.int a1), some (.int a2), some (.int a3), some (.int a4), a5] [.int (x1 + x0)] τ) ∧
    (∀ (a0 : Nat) (a1 : Int32) (a2 : Int32) (a3 : Int32) (a4 : Int32) (a5 : Option Value) (x0 : Int32) (τ : St), Ru M_Wall_bestShare d Q 25 [some (.ref a0), some (.int a1), some (.int a2), some (.int a3), some (.int a4), a5] [.int x0] τ = Ru M_Wall_bestShare d Q 26 [some (.ref a0), some (.int a1), some (.int a2), some (.int a3), some (.int a4), a5] [.int 1, .int x0] τ) ∧
    (∀ (a0 : Nat) (a1 : Int32) (a2 : Int32) (a3 : Int32) (a4 : Int32) (a5 : Option Value) (x0 : Int32) (x1 : Int32) (τ : St), Ru M_Wall_bestShare d Q 26 [some (.ref a0), some (.int a1), some (.int a2), some (.int a3), some (.int a4), a5] [.int x0, .int x1] τ = Ru M_Wall_bestShare d Q 27 [some (.ref a0), some (.int a1), some (.int a2), some (.int a3), some (.int a4), a5] [.int (x1 + x0)] τ) ∧
    (∀ (a0 : Nat) (a1 : Int32) (a2 : Int32) (a3 : Int32) (a4 : Int32) (a5 : Option Value) (x0 : Int32) (τ : St), Ru M_Wall_bestShare d Q 27 [some (.ref a0), some (.int a1), some (.int a2), some (.int a3), some (.int a4), a5] [.int x0] τ = Ru M_Wall_bestShare d Q 28 [some (.ref a0), some (.int a1), some (.int a2), some (.int a3), some (.int a4), a5] [.int 2, .int x0] τ) ∧
    (∀ (a0 : Nat) (a1 : Int32) (a2 : Int32) (a3 : Int32) (a4 : Int32) (a5 : Option Value) (x0 : Int32) (x1 : Int32) (τ : St), Ru M_Wall_bestShare d Q 28 [some (.ref a0), some (.int a1), some (.int a2), some (.int a3), some (.int a4), a5] [.int x0, .int x1] τ = (¬ x0 = 0 ∧ Ru M_Wall_bestShare d Q 29 [some (.ref a0), some (.int a1), some (.int a2), some (.int a3), some (.int a4), a5] [.int (x1 / x0)] τ)) ∧
    (∀ (a0 : Nat) (a1 : Int32) (a2 : Int32) (a3 : Int32) (a4 : Int32) (a5 : Option Value) (x0 : Int32) (τ : St), Ru M_Wall_bestShare d Q 29 [some (.ref a0), some (.int a1), some (.int a2), some (.int a3), some (.int a4), a5] [.int x0] τ = Ru M_Wall_bestShare d Q 31 [some (.ref a0), some (.int a1), some (.int a2), some (.int a3), some (.int a4), some (.int x0)] [] τ) ∧
    (∀ (a0 : Nat) (a1 : Int32) (a2 : Int32) (a3 : Int32) (a4 : Int32) (a5 : Int32) (τ : St), Ru M_Wall_bestShare d Q 31 [some (.ref a0), some (.int a1), some (.int a2), some (.int a3), some (.int a4), some (.int a5)] [] τ = Ru M_Wall_bestShare d Q 32 [some (.ref a0), some (.int a1), some (.int a2), some (.int a3), some (.int a4), some (.int a5)] [.ref a0] τ) ∧
    (∀ (a0 : Nat) (a1 : Int32) (a2 : Int32) (a3 : Int32) (a4 : Int32) (a5 : Int32) (x0 : Nat) (τ : St), Ru M_Wall_bestShare d Q 32 [some (.ref a0), some (.int a1), some (.int a2), some (.int a3), some (.int a4), some (.int a5)] [.ref x0] τ = Ru M_Wall_bestShare d Q 34 [some (.ref a0), some (.int a1), some (.int a2), some (.int a3), some (.int a4), some (.int a5)] [.int a5, .ref x0] τ) ∧
    (∀ (a0 : Nat) (a1 : Int32) (a2 : Int32) (a3 : Int32) (a4 : Int32) (a5 : Int32) (x0 : Int32) (x1 : Nat) (τ : St), Ru M_Wall_bestShare d Q 34 [some (.ref a0), some (.int a1), some (.int a2), some (.int a3), some (.int a4), some (.int a5)] [.int x0, .ref x1] τ = (isA 9 x1 ∧ Cl d m_Wall_menForAll [.ref x1, .int x0] τ (fun v τ' => Ru M_Wall_bestShare d Q 37 [some (.ref a0), some (.int a1), some (.int a2), some (.int a3), some (.int a4), some (.int a5)] (v.toList ++ []) τ'))) ∧
    (∀ (a0 : Nat) (a1 : Int32) (a2 : Int32) (a3 : Int32) (a4 : Int32) (a5 : Int32) (x0 : Int32) (τ : St), Ru M_Wall_bestShare d Q 37 [some (.ref a0), some (.int a1), some (.int a2), some (.int a3), some (.int a4), some (.int a5)] [.int x0] τ = Ru M_Wall_bestShare d Q 38 [some (.ref a0), some (.int a1), some (.int a2), some (.int a3), some (.int a4), some (.int a5)] [.int a1, .int x0] τ) ∧
    (∀ (a0 : Nat) (a1 : Int32) (a2 : Int32) (a3 : Int32) (a4 : Int32) (a5 : Int32) (x0 : Int32) (x1 : Int32) (τ : St), Ru M_Wall_bestShare d Q 38 [some (.ref a0), some (.int a1), some (.int a2), some (.int a3), some (.int a4), some (.int a5)] [.int x0, .int x1] τ = ((x0 < x1 → Ru M_Wall_bestShare d Q 47 [some (.ref a0), some (.int a1), some (.int a2), some (.int a3), some (.int a4), some (.int a5)] [] τ) ∧ (¬ x0 < x1 → Ru M_Wall_bestShare d Q 41 [some (.ref a0), some (.int a1), some (.int a2), some (.int a3), some (.int a4), some (.int a5)] [] τ))) ∧
    (∀ (a0 : Nat) (a1 : Int32) (a2 : Int32) (a3 : Int32) (a4 : Int32) (a5 : Int32) (τ : St), Ru M_Wall_bestShare d Q 41 [some (.ref a0), some (.int a1), some (.int a2), some (.int a3), some (.int a4), some (.int a5)] [] τ = Ru M_Wall_bestShare d Q 43 [some (.ref a0), some (.int a1), some (.int a2), some (.int a3), some (.int a4), some (.int a5)] [.int a5] τ) ∧
    (∀ (a0 : Nat) (a1 : Int32) (a2 : Int32) (a3 : Int32) (a4 : Int32) (a5 : Int32) (x0 : Int32) (τ : St), Ru M_Wall_bestShare d Q 43 [some (.ref a0), some (.int a1), some (.int a2), some (.int a3), some (.int a4), some (.int a5)] [.int x0] τ = Ru M_Wall_bestShare d Q 44 [some (.ref a0), some (.int a1), some (.int x0), some (.int a3), some (.int a4), some (.int a5)] [] τ) ∧
    (∀ (a0 : Nat) (a1 : Int32) (a2 : Int32) (a3 : Int32) (a4 : Int32) (a5 : Int32) (τ : St), Ru M_Wall_bestShare d Q 44 [some (.ref a0), some (.int a1), some (.int a2), some (.int a3), some (.int a4), some (.int a5)] [] τ = Ru M_Wall_bestShare d Q 52 [some (.ref a0), some (.int a1), some (.int a2), some (.int a3), some (.int a4), some (.int a5)] [] τ) ∧
    (∀ (a0 : Nat) (a1 : Int32) (a2 : Int32) (a3 : Int32) (a4 : Int32) (a5 : Int32) (τ : St), Ru M_Wall_bestShare d Q 47 [some (.ref a0), some (.int a1), some (.int a2), some (.int a3), some (.int a4), some (.int a5)] [] τ = Ru M_Wall_bestShare d Q 49 [some (.ref a0), some (.int a1), some (.int a2), some (.int a3), some (.int a4), some (.int a5)] [.int a5] τ) ∧
    (∀ (a0 : Nat) (a1 : Int32) (a2 : Int32) (a3 : Int32) (a4 : Int32) (a5 : Int32) (x0 : Int32) (τ : St), Ru M_Wall_bestShare d Q 49 [some (.ref a0), some (.int a1), some (.int a2), some (.int a3), some (.int a4), some (.int a5)] [.int x0] τ = Ru M_Wall_bestShare d Q 50 [some (.ref a0), some (.int a1), some (.int a2), some (.int a3), some (.int a4), some (.int a5)] [.int 1, .int x0] τ) ∧
    (∀ (a0 : Nat) (a1 : Int32) (a2 : Int32) (a3 : Int32) (a4 : Int32) (a5 : Int32) (x0 : Int32) (x1 : Int32) (τ : St), Ru M_Wall_bestShare d Q 50 [some (.ref a0), some (.int a1), some (.int a2), some (.int a3), some (.int a4), some (.int a5)] [.int x0, .int x1] τ = Ru M_Wall_bestShare d Q 51 [some (.ref a0), some (.int a1), some (.int a2), some (.int a3), some (.int a4), some (.int a5)] [.int (x1 - x0)] τ) ∧
    (∀ (a0 : Nat) (a1 : Int32) (a2 : Int32) (a3 : Int32) (a4 : Int32) (a5 : Int32) (x0 : Int32) (τ : St), Ru M_Wall_bestShare d Q 51 [some (.ref a0), some (.int a1), some (.int a2), some (.int a3), some (.int a4), some (.int a5)] [.int x0] τ = Ru M_Wall_bestShare d Q 52 [some (.ref a0), some (.int a1), some (.int a2), some (.int x0), some (.int a4), some (.int a5)] [] τ) ∧
    (∀ (a0 : Nat) (a1 : Int32) (a2 : Int32) (a3 : Int32) (a4 : Int32) (a5 : Int32) (τ : St), Ru M_Wall_bestShare d Q 52 [some (.ref a0), some (.int a1), some (.int a2), some (.int a3), some (.int a4), some (.int a5)] [] τ = Ru M_Wall_bestShare d Q 55 [some (.ref a0), some (.int a1), some (.int a2), some (.int a3), some (.int (a4 + 1)), some (.int a5)] [] τ) ∧
    (∀ (a0 : Nat) (a1 : Int32) (a2 : Int32) (a3 : Int32) (a4 : Int32) (a5 : Int32) (τ : St), Ru M_Wall_bestShare d Q 55 [some (.ref a0), some (.int a1), some (.int a2), some (.int a3), some (.int a4), some (.int a5)] [] τ = Rs M_Wall_bestShare d Q 10 [some (.ref a0), some (.int a1), some (.int a2), some (.int a3), some (.int a4), some (.int a5)] [] τ) ∧
    (∀ (a0 : Nat) (a1 : Int32) (a2 : Int32) (a3 : Int32) (a4 : Int32) (a5 : Option Value) (τ : St), Ru M_Wall_bestShare d Q 58 [some (.ref a0), some (.int a1), some (.int a2), some (.int a3), some (.int a4), a5] [] τ = Ru M_Wall_bestShare d Q 59 [some (.ref a0), some (.int a1), some (.int a2), some (.int a3), some (.int a4), a5] [.int a2] τ) ∧
    (∀ (a0 : Nat) (a1 : Int32) (a2 : Int32) (a3 : Int32) (a4 : Int32) (a5 : Option Value) (x0 : Int32) (τ : St), Ru M_Wall_bestShare d Q 59 [some (.ref a0), some (.int a1), some (.int a2), some (.int a3), some (.int a4), a5] [.int x0] τ = Q (some (.int x0)) τ) := ⟨
  fun _ _ _ => (R_at ok_Wall_bestShare rfl).trans e_push,
  fun _ _ _ _ => (R_at ok_Wall_bestShare rfl).trans e_ist,
  fun _ _ _ _ => (R_at ok_Wall_bestShare rfl).trans (e_ild rfl),
  fun _ _ _ _ _ => (R_at ok_Wall_bestShare rfl).trans e_push,
  fun _ _ _ _ _ _ => (R_at ok_Wall_bestShare rfl).trans e_bin,
  fun _ _ _ _ _ => (R_at ok_Wall_bestShare rfl).trans e_ist,
  fun _ _ _ _ _ => (R_at ok_Wall_bestShare rfl).trans e_push,
  fun _ _ _ _ _ _ => (R_at ok_Wall_bestShare rfl).trans e_ist,
  fun _ _ _ _ _ _ _ => (R_at ok_Wall_bestShare rfl).trans (e_ild rfl),
  fun _ _ _ _ _ _ _ _ => (R_at ok_Wall_bestShare rfl).trans e_push,
  fun _ _ _ _ _ _ _ _ _ => (R_at ok_Wall_bestShare rfl).trans e_ic,
  fun _ _ _ _ _ _ _ => (R_at ok_Wall_bestShare rfl).trans (e_ild rfl),
  fun _ _ _ _ _ _ _ _ => (R_at ok_Wall_bestShare rfl).trans (e_ild rfl),
  fun _ _ _ _ _ _ _ _ _ => (R_at ok_Wall_bestShare rfl).trans e_ic,
  fun _ _ _ _ _ _ _ => (R_at ok_Wall_bestShare rfl).trans (e_ild rfl),
  fun _ _ _ _ _ _ _ _ => (R_at ok_Wall_bestShare rfl).trans (e_ild rfl),
  fun _ _ _ _ _ _ _ _ _ => (R_at ok_Wall_bestShare rfl).trans e_bin,
  fun _ _ _ _ _ _ _ _ => (R_at ok_Wall_bestShare rfl).trans e_push,
  fun _ _ _ _ _ _ _ _ _ => (R_at ok_Wall_bestShare rfl).trans e_bin,
  fun _ _ _ _ _ _ _ _ => (R_at ok_Wall_bestShare rfl).trans e_push,
  fun _ _ _ _ _ _ _ _ _ => (R_at ok_Wall_bestShare rfl).trans e_binz,
  fun _ _ _ _ _ _ _ _ => (R_at ok_Wall_bestShare rfl).trans e_ist,
  fun _ _ _ _ _ _ _ => (R_at ok_Wall_bestShare rfl).trans (e_ald rfl),
  fun _ _ _ _ _ _ _ _ => (R_at ok_Wall_bestShare rfl).trans (e_ild rfl),
  fun _ _ _ _ _ _ x0 _ _ => (R_at ok_Wall_bestShare rfl).trans (e_cv [.int x0] rfl rfl rfl),
  fun _ _ _ _ _ _ _ _ => (R_at ok_Wall_bestShare rfl).trans (e_ild rfl),
  fun _ _ _ _ _ _ _ _ _ => (R_at ok_Wall_bestShare rfl).trans e_ic,
  fun _ _ _ _ _ _ _ => (R_at ok_Wall_bestShare rfl).trans (e_ild rfl),
  fun _ _ _ _ _ _ _ _ => (R_at ok_Wall_bestShare rfl).trans e_ist,
  fun _ _ _ _ _ _ _ => (R_at ok_Wall_bestShare rfl).trans e_goto,
  fun _ _ _ _ _ _ _ => (R_at ok_Wall_bestShare rfl).trans (e_ild rfl),
  fun _ _ _ _ _ _ _ _ => (R_at ok_Wall_bestShare rfl).trans e_push,
  fun _ _ _ _ _ _ _ _ _ => (R_at ok_Wall_bestShare rfl).trans e_bin,
  fun _ _ _ _ _ _ _ _ => (R_at ok_Wall_bestShare rfl).trans e_ist,
  fun _ _ _ _ _ _ _ => (R_at ok_Wall_bestShare rfl).trans (e_iinc rfl),
  fun _ _ _ _ _ _ _ => (R_at ok_Wall_bestShare rfl).trans e_goto,
  fun _ _ _ _ _ _ _ => (R_at ok_Wall_bestShare rfl).trans (e_ild rfl),
  fun _ _ _ _ _ _ _ _ => (R_at ok_Wall_bestShare rfl).trans e_iret⟩
set_option maxHeartbeats 4000000 in
theorem N_Wall_menForAll (d : Nat) (Q : Qt) : ∀ (x0 : Nat) (x1 : Int32) (τ : St), Cl (d + 1) m_Wall_menForAll [.ref x0, .int x1] τ Q = Ru M_Wall_menForAll d Q 0 [some (.ref x0), some (.int x1), none, none] [] τ := fun _ _ _ => propext ⟨fun h => h.2, fun h => ⟨Nat.le_of_ble_eq_true rfl, h⟩⟩
set_option maxHeartbeats 4000000 in
theorem E_Wall_menForAll (d : Nat) (Q : Qt) :
    (∀ (a0 : Nat) (a1 : Int32) (τ : St), Ru M_Wall_menForAll d Q 0 [some (.ref a0), some (.int a1), none, none] [] τ = Ru M_Wall_menForAll d Q 1 [some (.ref a0), some (.int a1), none, none] [.int 0] τ) ∧
    (∀ (a0 : Nat) (a1 : Int32) (x0 : Int32) (τ : St), Ru M_Wall_menForAll d Q 1 [some (.ref a0), some (.int a1), none, none] [.int x0] τ = Ru M_Wall_menForAll d Q 2 [some (.ref a0), some (.int a1), some (.int x0), none] [] τ) ∧
    (∀ (a0 : Nat) (a1 : Int32) (a2 : Int32) (τ : St), Ru M_Wall_menForAll d Q 2 [some (.ref a0), some (.int a1), some (.int a2), none] [] τ = Ru M_Wall_menForAll d Q 3 [some (.ref a0), some (.int a1), some (.int a2), none] [.int 0] τ) ∧
    (∀ (a0 : Nat) (a1 : Int32) (a2 : Int32) (x0 : Int32) (τ : St), Ru M_Wall_menForAll d Q 3 [some (.ref a0), some (.int a1), some (.int a2), none] [.int x0] τ = Rs M_Wall_menForAll d Q 4 [some (.ref a0), some (.int a1), some (.int a2), some (.int x0)] [] τ) ∧
    (∀ (a0 : Nat) (a1 : Int32) (a2 : Int32) (a3 : Int32) (τ : St), Ru M_Wall_menForAll d Q 4 [some (.ref a0), some (.int a1), some (.int a2), some (.int a3)] [] τ = Ru M_Wall_menForAll d Q 5 [some (.ref a0), some (.int a1), some (.int a2), some (.int a3)] [.int a3] τ) ∧
    (∀ (a0 : Nat) (a1 : Int32) (a2 : Int32) (a3 : Int32) (x0 : Int32) (τ : St), Ru M_Wall_menForAll d Q 5 [some (.ref a0), some (.int a1), some (.int a2), some (.int a3)] [.int x0] τ = Ru M_Wall_menForAll d Q 6 [some (.ref a0), some (.int a1), some (.int a2), some (.int a3)] [.ref a0, .int x0] τ) ∧
    (∀ (a0 : Nat) (a1 : Int32) (a2 : Int32) (a3 : Int32) (x0 : Nat) (x1 : Int32) (τ : St), Ru M_Wall_menForAll d Q 6 [some (.ref a0), some (.int a1), some (.int a2), some (.int a3)] [.ref x0, .int x1] τ = (isA 9 x0 ∧ Ru M_Wall_menForAll d Q 9 [some (.ref a0), some (.int a1), some (.int a2), some (.int a3)] [.int (τ.1 x0 1), .int x1] τ)) ∧
    (∀ (a0 : Nat) (a1 : Int32) (a2 : Int32) (a3 : Int32) (x0 : Int32) (x1 : Int32) (τ : St), Ru M_Wall_menForAll d Q 9 [some (.ref a0), some (.int a1), some (.int a2), some (.int a3)] [.int x0, .int x1] τ = ((x0 ≤ x1 → Ru M_Wall_menForAll d Q 27 [some (.ref a0), some (.int a1), some (.int a2), some (.int a3)] [] τ) ∧ (¬ x0 ≤ x1 → Ru M_Wall_menForAll d Q 12 [some (.ref a0), some (.int a1), some (.int a2), some (.int a3)] [] τ))) ∧
    (∀ (a0 : Nat) (a1 : Int32) (a2 : Int32) (a3 : Int32) (τ : St), Ru M_Wall_menForAll d Q 12 [some (.ref a0), some (.int a1), some (.int a2), some (.int a3)] [] τ = Ru M_Wall_menForAll d Q 13 [some (.ref a0), some (.int a1), some (.int a2), some (.int a3)] [.int a2] τ) ∧
    (∀ (a0 : Nat) (a1 : Int32) (a2 : Int32) (a3 : Int32) (x0 : Int32) (τ : St), Ru M_Wall_menForAll d Q 13 [some (.ref a0), some (.int a1), some (.int a2), some (.int a3)] [.int x0] τ = Ru M_Wall_menForAll d Q 14 [some (.ref a0), some (.int a1), some (.int a2), some (.int a3)] [.ref a0, .int x0] τ) ∧
    (∀ (a0 : Nat) (a1 : Int32) (a2 : Int32) (a3 : Int32) (x0 : Nat) (x1 : Int32) (τ : St), Ru M_Wall_menForAll d Q 14 [some (.ref a0), some (.int a1), some (.int a2), some (.int a3)] [.ref x0, .int x1] τ = Ru M_Wall_menForAll d Q 15 [some (.ref a0), some (.int a1), some (.int a2), some (.int a3)] [.int a3, .ref x0, .int x1] τ) ∧
    (∀ (a0 : Nat) (a1 : Int32) (a2 : Int32) (a3 : Int32) (x0 : Int32) (x1 : Nat) (x2 : Int32) (τ : St), Ru M_Wall_menForAll d Q 15 [some (.ref a0), some (.int a1), some (.int a2), some (.int a3)] [.int x0, .ref x1, .int x2] τ = Ru M_Wall_menForAll d Q 16 [some (.ref a0), some (.int a1), some (.int a2), some (.int a3)] [.int a1, .int x0, .ref x1, .int x2] τ) ∧
    (∀ (a0 : Nat) (a1 : Int32) (a2 : Int32) (a3 : Int32) (x0 : Int32) (x1 : Int32) (x2 : Nat) (x3 : Int32) (τ : St), Ru M_Wall_menForAll d Q 16 [some (.ref a0), some (.int a1), some (.int a2), some (.int a3)] [.int x0, .int x1, .ref x2, .int x3] τ = (isA 9 x2 ∧ Cl d m_Wall_menFor [.ref x2, .int x1, .int x0] τ (fun v τ' => Ru M_Wall_menForAll d Q 19 [some (.ref a0), some (.int a1), some (.int a2), some (.int a3)] (v.toList ++ [.int x3]) τ'))) ∧
    (∀ (a0 : Nat) (a1 : Int32) (a2 : Int32) (a3 : Int32) (x0 : Int32) (x1 : Int32) (τ : St), Ru M_Wall_menForAll d Q 19 [some (.ref a0), some (.int a1), some (.int a2), some (.int a3)] [.int x0, .int x1] τ = Ru M_Wall_menForAll d Q 20 [some (.ref a0), some (.int a1), some (.int a2), some (.int a3)] [.int (x1 + x0)] τ) ∧
    (∀ (a0 : Nat) (a1 : Int32) (a2 : Int32) (a3 : Int32) (x0 : Int32) (τ : St), Ru M_Wall_menForAll d Q 20 [some (.ref a0), some (.int a1), some (.int a2), some (.int a3)] [.int x0] τ = Ru M_Wall_menForAll d Q 21 [some (.ref a0), some (.int a1), some (.int x0), some (.int a3)] [] τ) ∧
    (∀ (a0 : Nat) (a1 : Int32) (a2 : Int32) (a3 : Int32) (τ : St), Ru M_Wall_menForAll d Q 21 [some (.ref a0), some (.int a1), some (.int a2), some (.int a3)] [] τ = Ru M_Wall_menForAll d Q 24 [some (.ref a0), some (.int a1), some (.int a2), some (.int (a3 + 1))] [] τ) ∧
    (∀ (a0 : Nat) (a1 : Int32) (a2 : Int32) (a3 : Int32) (τ : St), Ru M_Wall_menForAll d Q 24 [some (.ref a0), some (.int a1), some (.int a2), some (.int a3)] [] τ = Rs M_Wall_menForAll d Q 4 [some (.ref a0), some (.int a1), some (.int a2), some (.int a3)] [] τ) ∧
    (∀ (a0 : Nat) (a1 : Int32) (a2 : Int32) (a3 : Int32) (τ : St), Ru M_Wall_menForAll d Q 27 [some (.ref a0), some (.int a1), some (.int a2), some (.int a3)] [] τ = Ru M_Wall_menForAll d Q 28 [some (.ref a0), some (.int a1), some (.int a2), some (.int a3)] [.int a2] τ) ∧
    (∀ (a0 : Nat) (a1 : Int32) (a2 : Int32) (a3 : Int32) (x0 : Int32) (τ : St), Ru M_Wall_menForAll d Q 28 [some (.ref a0), some (.int a1), some (.int a2), some (.int a3)] [.int x0] τ = Q (some (.int x0)) τ) := ⟨
  fun _ _ _ => (R_at ok_Wall_menForAll rfl).trans e_push,
  fun _ _ _ _ => (R_at ok_Wall_menForAll rfl).trans e_ist,
  fun _ _ _ _ => (R_at ok_Wall_menForAll rfl).trans e_push,
  fun _ _ _ _ _ => (R_at ok_Wall_menForAll rfl).trans e_ist,
  fun _ _ _ _ _ => (R_at ok_Wall_menForAll rfl).trans (e_ild rfl),
  fun _ _ _ _ _ _ => (R_at ok_Wall_menForAll rfl).trans (e_ald rfl),
  fun _ _ _ _ _ _ _ => (R_at ok_Wall_menForAll rfl).trans e_gI,
  fun _ _ _ _ _ _ _ => (R_at ok_Wall_menForAll rfl).trans e_ic,
  fun _ _ _ _ _ => (R_at ok_Wall_menForAll rfl).trans (e_ild rfl),
  fun _ _ _ _ _ _ => (R_at ok_Wall_menForAll rfl).trans (e_ald rfl),
  fun _ _ _ _ _ _ _ => (R_at ok_Wall_menForAll rfl).trans (e_ild rfl),
  fun _ _ _ _ _ _ _ _ => (R_at ok_Wall_menForAll rfl).trans (e_ild rfl),
  fun _ _ _ _ x0 x1 _ _ _ => (R_at ok_Wall_menForAll rfl).trans (e_cv [.int x1, .int x0] rfl rfl rfl),
  fun _ _ _ _ _ _ _ => (R_at ok_Wall_menForAll rfl).trans e_bin,
  fun _ _ _ _ _ _ => (R_at ok_Wall_menForAll rfl).trans e_ist,
  fun _ _ _ _ _ => (R_at ok_Wall_menForAll rfl).trans (e_iinc rfl),
  fun _ _ _ _ _ => (R_at ok_Wall_menForAll rfl).trans e_goto,
  fun _ _ _ _ _ => (R_at ok_Wall_menForAll rfl).trans (e_ild rfl),
  fun _ _ _ _ _ _ => (R_at ok_Wall_menForAll rfl).trans e_iret⟩
set_option maxHeartbeats 4000000 in
theorem N_Wall_menFor (d : Nat) (Q : Qt) : ∀ (x0 : Nat) (x1 : Int32) (x2 : Int32) (τ : St), Cl (d + 1) m_Wall_menFor [.ref x0, .int x1, .int x2] τ Q = Ru M_Wall_menFor d Q 0 [some (.ref x0), some (.int x1), some (.int x2)] [] τ := fun _ _ _ _ => propext ⟨fun h => h.2, fun h => ⟨Nat.le_of_ble_eq_true rfl, h⟩⟩
set_option maxHeartbeats 4000000 in
theorem E_Wall_menFor (d : Nat) (Q : Qt) :
    (∀ (a0 : Nat) (a1 : Int32) (a2 : Int32) (τ : St), Ru M_Wall_menFor d Q 0 [some (.ref a0), some (.int a1), some (.int a2)] [] τ = Ru M_Wall_menFor d Q 1 [some (.ref a0), some (.int a1), some (.int a2)] [.int a1] τ) ∧
    (∀ (a0 : Nat) (a1 : Int32) (a2 : Int32) (x0 : Int32) (τ : St), Ru M_Wall_menFor d Q 1 [some (.ref a0), some (.int a1), some (.int a2)] [.int x0] τ = ((x0 < 0 → Ru M_Wall_menFor d Q 26 [some (.ref a0), some (.int a1), some (.int a2)] [] τ) ∧ (¬ x0 < 0 → Ru M_Wall_menFor d Q 4 [some (.ref a0), some (.int a1), some (.int a2)] [] τ))) ∧
    (∀ (a0 : Nat) (a1 : Int32) (a2 : Int32) (τ : St), Ru M_Wall_menFor d Q 4 [some (.ref a0), some (.int a1), some (.int a2)] [] τ = Ru M_Wall_menFor d Q 5 [some (.ref a0), some (.int a1), some (.int a2)] [.int a1] τ) ∧
    (∀ (a0 : Nat) (a1 : Int32) (a2 : Int32) (x0 : Int32) (τ : St), Ru M_Wall_menFor d Q 5 [some (.ref a0), some (.int a1), some (.int a2)] [.int x0] τ = Ru M_Wall_menFor d Q 6 [some (.ref a0), some (.int a1), some (.int a2)] [.int 4, .int x0] τ) ∧
    (∀ (a0 : Nat) (a1 : Int32) (a2 : Int32) (x0 : Int32) (x1 : Int32) (τ : St), Ru M_Wall_menFor d Q 6 [some (.ref a0), some (.int a1), some (.int a2)] [.int x0, .int x1] τ = ((x0 ≤ x1 → Ru M_Wall_menFor d Q 26 [some (.ref a0), some (.int a1), some (.int a2)] [] τ) ∧ (¬ x0 ≤ x1 → Ru M_Wall_menFor d Q 9 [some (.ref a0), some (.int a1), some (.int a2)] [] τ))) ∧
    (∀ (a0 : Nat) (a1 : Int32) (a2 : Int32) (τ : St), Ru M_Wall_menFor d Q 9 [some (.ref a0), some (.int a1), some (.int a2)] [] τ = Ru M_Wall_menFor d Q 10 [some (.ref a0), some (.int a1), some (.int a2)] [.int a2] τ) ∧
    (∀ (a0 : Nat) (a1 : Int32) (a2 : Int32) (x0 : Int32) (τ : St), Ru M_Wall_menFor d Q 10 [some (.ref a0), some (.int a1), some (.int a2)] [.int x0] τ = Ru M_Wall_menFor d Q 11 [some (.ref a0), some (.int a1), some (.int a2)] [.ref a0, .int x0] τ) ∧
    (∀ (a0 : Nat) (a1 : Int32) (a2 : Int32) (x0 : Nat) (x1 : Int32) (τ : St), Ru M_Wall_menFor d Q 11 [some (.ref a0), some (.int a1), some (.int a2)] [.ref x0, .int x1] τ = (isA 9 x0 ∧ Ru M_Wall_menFor d Q 14 [some (.ref a0), some (.int a1), some (.int a2)] [.ref (rtab x0 0), .int x1] τ)) ∧
    (∀ (a0 : Nat) (a1 : Int32) (a2 : Int32) (x0 : Nat) (x1 : Int32) (τ : St), Ru M_Wall_menFor d Q 14 [some (.ref a0), some (.int a1), some (.int a2)] [.ref x0, .int x1] τ = Ru M_Wall_menFor d Q 15 [some (.ref a0), some (.int a1), some (.int a2)] [.int a1, .ref x0, .int x1] τ) ∧
    (∀ (a0 : Nat) (a1 : Int32) (a2 : Int32) (x0 : Int32) (x1 : Nat) (x2 : Int32) (τ : St), Ru M_Wall_menFor d Q 15 [some (.ref a0), some (.int a1), some (.int a2)] [.int x0, .ref x1, .int x2] τ = (isA 14 x1 ∧ vp_in x0 (len x1) ∧ Ru M_Wall_menFor d Q 16 [some (.ref a0), some (.int a1), some (.int a2)] [.int (τ.1 x1 x0.toNatClampNeg), .int x2] τ)) ∧
    (∀ (a0 : Nat) (a1 : Int32) (a2 : Int32) (x0 : Int32) (x1 : Int32) (τ : St), Ru M_Wall_menFor d Q 16 [some (.ref a0), some (.int a1), some (.int a2)] [.int x0, .int x1] τ = Ru M_Wall_menFor d Q 17 [some (.ref a0), some (.int a1), some (.int a2)] [.int (x1 * x0)] τ) ∧
    (∀ (a0 : Nat) (a1 : Int32) (a2 : Int32) (x0 : Int32) (τ : St), Ru M_Wall_menFor d Q 17 [some (.ref a0), some (.int a1), some (.int a2)] [.int x0] τ = Ru M_Wall_menFor d Q 19 [some (.ref a0), some (.int a1), some (.int a2)] [.int 99, .int x0] τ) ∧
    (∀ (a0 : Nat) (a1 : Int32) (a2 : Int32) (x0 : Int32) (x1 : Int32) (τ : St), Ru M_Wall_menFor d Q 19 [some (.ref a0), some (.int a1), some (.int a2)] [.int x0, .int x1] τ = Ru M_Wall_menFor d Q 20 [some (.ref a0), some (.int a1), some (.int a2)] [.int (x1 + x0)] τ) ∧
    (∀ (a0 : Nat) (a1 : Int32) (a2 : Int32) (x0 : Int32) (τ : St), Ru M_Wall_menFor d Q 20 [some (.ref a0), some (.int a1), some (.int a2)] [.int x0] τ = Ru M_Wall_menFor d Q 22 [some (.ref a0), some (.int a1), some (.int a2)] [.int 100, .int x0] τ) ∧
    (∀ (a0 : Nat) (a1 : Int32) (a2 : Int32) (x0 : Int32) (x1 : Int32) (τ : St), Ru M_Wall_menFor d Q 22 [some (.ref a0), some (.int a1), some (.int a2)] [.int x0, .int x1] τ = (¬ x0 = 0 ∧ Ru M_Wall_menFor d Q 23 [some (.ref a0), some (.int a1), some (.int a2)] [.int (x1 / x0)] τ)) ∧
    (∀ (a0 : Nat) (a1 : Int32) (a2 : Int32) (x0 : Int32) (τ : St), Ru M_Wall_menFor d Q 23 [some (.ref a0), some (.int a1), some (.int a2)] [.int x0] τ = Ru M_Wall_menFor d Q 27 [some (.ref a0), some (.int a1), some (.int a2)] [.int x0] τ) ∧
    (∀ (a0 : Nat) (a1 : Int32) (a2 : Int32) (τ : St), Ru M_Wall_menFor d Q 26 [some (.ref a0), some (.int a1), some (.int a2)] [] τ = Ru M_Wall_menFor d Q 27 [some (.ref a0), some (.int a1), some (.int a2)] [.int 0] τ) ∧
    (∀ (a0 : Nat) (a1 : Int32) (a2 : Int32) (x0 : Int32) (τ : St), Ru M_Wall_menFor d Q 27 [some (.ref a0), some (.int a1), some (.int a2)] [.int x0] τ = Q (some (.int x0)) τ) := ⟨
  fun _ _ _ _ => (R_at ok_Wall_menFor rfl).trans (e_ild rfl),
  fun _ _ _ _ _ => (R_at ok_Wall_menFor rfl).trans e_if,
  fun _ _ _ _ => (R_at ok_Wall_menFor rfl).trans (e_ild rfl),
  fun _ _ _ _ _ => (R_at ok_Wall_menFor rfl).trans e_push,
  fun _ _ _ _ _ _ => (R_at ok_Wall_menFor rfl).trans e_ic,
  fun _ _ _ _ => (R_at ok_Wall_menFor rfl).trans (e_ild rfl),
  fun _ _ _ _ _ => (R_at ok_Wall_menFor rfl).trans (e_ald rfl),
  fun _ _ _ _ _ _ => (R_at ok_Wall_menFor rfl).trans e_gR,
  fun _ _ _ _ _ _ => (R_at ok_Wall_menFor rfl).trans (e_ild rfl),
  fun _ _ _ _ _ _ _ => (R_at ok_Wall_menFor rfl).trans e_al,
  fun _ _ _ _ _ _ => (R_at ok_Wall_menFor rfl).trans e_bin,
  fun _ _ _ _ _ => (R_at ok_Wall_menFor rfl).trans e_push,
  fun _ _ _ _ _ _ => (R_at ok_Wall_menFor rfl).trans e_bin,
  fun _ _ _ _ _ => (R_at ok_Wall_menFor rfl).trans e_push,
  fun _ _ _ _ _ _ => (R_at ok_Wall_menFor rfl).trans e_binz,
  fun _ _ _ _ _ => (R_at ok_Wall_menFor rfl).trans e_goto,
  fun _ _ _ _ => (R_at ok_Wall_menFor rfl).trans e_push,
  fun _ _ _ _ _ => (R_at ok_Wall_menFor rfl).trans e_iret⟩
set_option maxHeartbeats 4000000 in
theorem N_Ways_start (d : Nat) (Q : Qt) : ∀ (x0 : Nat) (x1 : Nat) (x2 : Int32) (x3 : Int64) (τ : St), Cl (d + 1) m_Ways_start [.ref x0, .ref x1, .int x2, .long x3] τ Q = Ru M_Ways_start d Q 0 [some (.ref x0), some (.ref x1), some (.int x2), some (.long x3), none] [] τ := fun _ _ _ _ _ => propext ⟨fun h => h.2, fun h => ⟨Nat.le_of_ble_eq_true rfl, h⟩⟩
set_option maxHeartbeats 4000000 in
theorem E_Ways_start (d : Nat) (Q : Qt) :
    (∀ (a0 : Nat) (a1 : Nat) (a2 : Int32) (a3 : Int64) (τ : St), Ru M_Ways_start d Q 0 [some (.ref a0), some (.ref a1), some (.int a2), some (.long a3), none] [] τ = Ru M_Ways_start d Q 1 [some (.ref a0), some (.ref a1), some (.int a2), some (.long a3), none] [.ref a0] τ) ∧
    (∀ (a0 : Nat) (a1 : Nat) (a2 : Int32) (a3 : Int64) (x0 : Nat) (τ : St), Ru M_Ways_start d Q 1 [some (.ref a0), some (.ref a1), some (.int a2), some (.long a3), none] [.ref x0] τ = Ru M_Ways_start d Q 2 [some (.ref a0), some (.ref a1), some (.int a2), some (.long a3), none] [.ref a1, .ref x0] τ) ∧
    (∀ (a0 : Nat) (a1 : Nat) (a2 : Int32) (a3 : Int64) (x0 : Nat) (τ : St), Ru M_Ways_start d Q 2 [some (.ref a0), some (.ref a1), some (.int a2), some (.long a3), none] [.ref x0, .ref 59] τ = ((Int32.ofNat x0 ≠ 0 ∧ (Int32.ofNat x0).toNatClampNeg = x0) ∧ Ru M_Ways_start d Q 5 [some (.ref a0), some (.ref a1), some (.int a2), some (.long a3), none] [] (sI τ 59 2 (Int32.ofNat x0)))) ∧
    (∀ (a0 : Nat) (a1 : Nat) (a2 : Int32) (a3 : Int64) (τ : St), Ru M_Ways_start d Q 5 [some (.ref a0), some (.ref a1), some (.int a2), some (.long a3), none] [] τ = Ru M_Ways_start d Q 6 [some (.ref a0), some (.ref a1), some (.int a2), some (.long a3), none] [.ref a0] τ) ∧
    (∀ (a0 : Nat) (a1 : Nat) (a2 : Int32) (a3 : Int64) (x0 : Nat) (τ : St), Ru M_Ways_start d Q 6 [some (.ref a0), some (.ref a1), some (.int a2), some (.long a3), none] [.ref x0] τ = Ru M_Ways_start d Q 7 [some (.ref a0), some (.ref a1), some (.int a2), some (.long a3), none] [.int a2, .ref x0] τ) ∧
    (∀ (a0 : Nat) (a1 : Nat) (a2 : Int32) (a3 : Int64) (x0 : Int32) (x1 : Nat) (τ : St), Ru M_Ways_start d Q 7 [some (.ref a0), some (.ref a1), some (.int a2), some (.long a3), none] [.int x0, .ref x1] τ = (isA 10 x1 ∧ Ru M_Ways_start d Q 10 [some (.ref a0), some (.ref a1), some (.int a2), some (.long a3), none] [] (sI τ x1 3 x0))) ∧
    (∀ (a0 : Nat) (a1 : Nat) (a2 : Int32) (a3 : Int64) (τ : St), Ru M_Ways_start d Q 10 [some (.ref a0), some (.ref a1), some (.int a2), some (.long a3), none] [] τ = Ru M_Ways_start d Q 11 [some (.ref a0), some (.ref a1), some (.int a2), some (.long a3), none] [.ref a0] τ) ∧
    (∀ (a0 : Nat) (a1 : Nat) (a2 : Int32) (a3 : Int64) (x0 : Nat) (τ : St), Ru M_Ways_start d Q 11 [some (.ref a0), some (.ref a1), some (.int a2), some (.long a3), none] [.ref x0] τ = Ru M_Ways_start d Q 12 [some (.ref a0), some (.ref a1), some (.int a2), some (.long a3), none] [.long a3, .ref x0] τ) ∧
    (∀ (a0 : Nat) (a1 : Nat) (a2 : Int32) (a3 : Int64) (x0 : Int64) (x1 : Nat) (τ : St), Ru M_Ways_start d Q 12 [some (.ref a0), some (.ref a1), some (.int a2), some (.long a3), none] [.long x0, .ref x1] τ = (isA 10 x1 ∧ Ru M_Ways_start d Q 15 [some (.ref a0), some (.ref a1), some (.int a2), some (.long a3), none] [] (sL τ x1 4 x0))) ∧
    (∀ (a0 : Nat) (a1 : Nat) (a2 : Int32) (a3 : Int64) (τ : St), Ru M_Ways_start d Q 15 [some (.ref a0), some (.ref a1), some (.int a2), some (.long a3), none] [] τ = Ru M_Ways_start d Q 16 [some (.ref a0), some (.ref a1), some (.int a2), some (.long a3), none] [.ref a0] τ) ∧
    (∀ (a0 : Nat) (a1 : Nat) (a2 : Int32) (a3 : Int64) (x0 : Nat) (τ : St), Ru M_Ways_start d Q 16 [some (.ref a0), some (.ref a1), some (.int a2), some (.long a3), none] [.ref x0] τ = (isA 10 x0 ∧ Ru M_Ways_start d Q 19 [some (.ref a0), some (.ref a1), some (.int a2), some (.long a3), none] [.ref (rtab x0 1)] τ)) ∧
    (∀ (a0 : Nat) (a1 : Nat) (a2 : Int32) (a3 : Int64) (x0 : Nat) (τ : St), Ru M_Ways_start d Q 19 [some (.ref a0), some (.ref a1), some (.int a2), some (.long a3), none] [.ref x0] τ = (isA 3 x0 ∧ Cl d m_Pulls_start [.ref x0] τ (fun v τ' => Ru M_Ways_start d Q 22 [some (.ref a0), some (.ref a1), some (.int a2), some (.long a3), none] (v.toList ++ []) τ'))) ∧
    (∀ (a0 : Nat) (a1 : Nat) (a2 : Int32) (a3 : Int64) (τ : St), Ru M_Ways_start d Q 22 [some (.ref a0), some (.ref a1), some (.int a2), some (.long a3), none] [] τ = Q none τ) := ⟨
  fun _ _ _ _ _ => (R_at ok_Ways_start rfl).trans (e_ald rfl),
  fun _ _ _ _ _ _ => (R_at ok_Ways_start rfl).trans (e_ald rfl),
  fun _ _ _ _ _ _ => (R_at ok_Ways_start rfl).trans e_pD,
  fun _ _ _ _ _ => (R_at ok_Ways_start rfl).trans (e_ald rfl),
  fun _ _ _ _ _ _ => (R_at ok_Ways_start rfl).trans (e_ild rfl),
  fun _ _ _ _ _ _ _ => (R_at ok_Ways_start rfl).trans e_pI,
  fun _ _ _ _ _ => (R_at ok_Ways_start rfl).trans (e_ald rfl),
  fun _ _ _ _ _ _ => (R_at ok_Ways_start rfl).trans (e_lld rfl),
  fun _ _ _ _ _ _ _ => (R_at ok_Ways_start rfl).trans e_pL,
  fun _ _ _ _ _ => (R_at ok_Ways_start rfl).trans (e_ald rfl),
  fun _ _ _ _ _ _ => (R_at ok_Ways_start rfl).trans e_gR,
  fun _ _ _ _ _ _ => (R_at ok_Ways_start rfl).trans (e_cv [] rfl rfl rfl),
  fun _ _ _ _ _ => (R_at ok_Ways_start rfl).trans e_vret⟩
set_option maxHeartbeats 4000000 in
theorem N_Ways_turnTo (d : Nat) (Q : Qt) : ∀ (x0 : Nat) (x1 : Int32) (x2 : Int32) (τ : St), Cl (d + 1) m_Ways_turnTo [.ref x0, .int x1, .int x2] τ Q = Ru M_Ways_turnTo d Q 0 [some (.ref x0), some (.int x1), some (.int x2)] [] τ := fun _ _ _ _ => propext ⟨fun h => h.2, fun h => ⟨Nat.le_of_ble_eq_true rfl, h⟩⟩
set_option maxHeartbeats 4000000 in
theorem E_Ways_turnTo (d : Nat) (Q : Qt) :
    (∀ (a0 : Nat) (a1 : Int32) (a2 : Int32) (τ : St), Ru M_Ways_turnTo d Q 0 [some (.ref a0), some (.int a1), some (.int a2)] [] τ = Ru M_Ways_turnTo d Q 1 [some (.ref a0), some (.int a1), some (.int a2)] [.ref a0] τ) ∧
    (∀ (a0 : Nat) (a1 : Int32) (a2 : Int32) (τ : St), Ru M_Ways_turnTo d Q 1 [some (.ref a0), some (.int a1), some (.int a2)] [.ref 59] τ = Ru M_Ways_turnTo d Q 4 [some (.ref a0), some (.int a1), some (.int a2)] [(if τ.1 59 2 = 0 then Value.null else .ref (τ.1 59 2).toNatClampNeg)] τ) ∧
    (∀ (a0 : Nat) (a1 : Int32) (a2 : Int32) (τ : St), Ru M_Ways_turnTo d Q 4 [some (.ref a0), some (.int a1), some (.int a2)] [.null] τ = Ru M_Ways_turnTo d Q 24 [some (.ref a0), some (.int a1), some (.int a2)] [] τ) ∧
    (∀ (a0 : Nat) (a1 : Int32) (a2 : Int32) (x0 : Nat) (τ : St), Ru M_Ways_turnTo d Q 4 [some (.ref a0), some (.int a1), some (.int a2)] [.ref x0] τ = Ru M_Ways_turnTo d Q 7 [some (.ref a0), some (.int a1), some (.int a2)] [] τ) ∧
    (∀ (a0 : Nat) (a1 : Int32) (a2 : Int32) (τ : St), Ru M_Ways_turnTo d Q 7 [some (.ref a0), some (.int a1), some (.int a2)] [] τ = Ru M_Ways_turnTo d Q 8 [some (.ref a0), some (.int a1), some (.int a2)] [.ref a0] τ) ∧
    (∀ (a0 : Nat) (a1 : Int32) (a2 : Int32) (x0 : Nat) (τ : St), Ru M_Ways_turnTo d Q 8 [some (.ref a0), some (.int a1), some (.int a2)] [.ref x0] τ = (isA 10 x0 ∧ Ru M_Ways_turnTo d Q 11 [some (.ref a0), some (.int a1), some (.int a2)] [.ref (rtab x0 1)] τ)) ∧
    (∀ (a0 : Nat) (a1 : Int32) (a2 : Int32) (x0 : Nat) (τ : St), Ru M_Ways_turnTo d Q 11 [some (.ref a0), some (.int a1), some (.int a2)] [.ref x0] τ = Ru M_Ways_turnTo d Q 12 [some (.ref a0), some (.int a1), some (.int a2)] [.int a1, .ref x0] τ) ∧
    (∀ (a0 : Nat) (a1 : Int32) (a2 : Int32) (x0 : Int32) (x1 : Nat) (τ : St), Ru M_Ways_turnTo d Q 12 [some (.ref a0), some (.int a1), some (.int a2)] [.int x0, .ref x1] τ = Ru M_Ways_turnTo d Q 13 [some (.ref a0), some (.int a1), some (.int a2)] [.int a2, .int x0, .ref x1] τ) ∧
    (∀ (a0 : Nat) (a1 : Int32) (a2 : Int32) (x0 : Int32) (x1 : Int32) (x2 : Nat) (τ : St), Ru M_Ways_turnTo d Q 13 [some (.ref a0), some (.int a1), some (.int a2)] [.int x0, .int x1, .ref x2] τ = Ru M_Ways_turnTo d Q 14 [some (.ref a0), some (.int a1), some (.int a2)] [.ref a0, .int x0, .int x1, .ref x2] τ) ∧
    (∀ (a0 : Nat) (a1 : Int32) (a2 : Int32) (x1 : Int32) (x2 : Int32) (x3 : Nat) (τ : St), Ru M_Ways_turnTo d Q 14 [some (.ref a0), some (.int a1), some (.int a2)] [.ref 59, .int x1, .int x2, .ref x3] τ = Ru M_Ways_turnTo d Q 17 [some (.ref a0), some (.int a1), some (.int a2)] [(if τ.1 59 2 = 0 then Value.null else .ref (τ.1 59 2).toNatClampNeg), .int x1, .int x2, .ref x3] τ) ∧
    (∀ (a0 : Nat) (a1 : Int32) (a2 : Int32) (x0 : Value) (x1 : Int32) (x2 : Int32) (x3 : Nat) (τ : St), Ru M_Ways_turnTo d Q 17 [some (.ref a0), some (.int a1), some (.int a2)] [x0, .int x1, .int x2, .ref x3] τ = Ru M_Ways_turnTo d Q 18 [some (.ref a0), some (.int a1), some (.int a2)] [.ref a0, x0, .int x1, .int x2, .ref x3] τ) ∧
    (∀ (a0 : Nat) (a1 : Int32) (a2 : Int32) (x0 : Nat) (x1 : Value) (x2 : Int32) (x3 : Int32) (x4 : Nat) (τ : St), Ru M_Ways_turnTo d Q 18 [some (.ref a0), some (.int a1), some (.int a2)] [.ref x0, x1, .int x2, .int x3, .ref x4] τ = (isA 10 x0 ∧ Ru M_Ways_turnTo d Q 21 [some (.ref a0), some (.int a1), some (.int a2)] [.int (τ.1 x0 3), x1, .int x2, .int x3, .ref x4] τ)) ∧
    (∀ (a0 : Nat) (a1 : Int32) (a2 : Int32) (x0 : Int32) (x1 : Value) (x2 : Int32) (x3 : Int32) (x4 : Nat) (τ : St), Ru M_Ways_turnTo d Q 21 [some (.ref a0), some (.int a1), some (.int a2)] [.int x0, x1, .int x2, .int x3, .ref x4] τ = (isA 3 x4 ∧ Cl d m_Pulls_turnTo [.ref x4, .int x3, .int x2, x1, .int x0] τ (fun v τ' => Ru M_Ways_turnTo d Q 24 [some (.ref a0), some (.int a1), some (.int a2)] (v.toList ++ []) τ'))) ∧
    (∀ (a0 : Nat) (a1 : Int32) (a2 : Int32) (τ : St), Ru M_Ways_turnTo d Q 24 [some (.ref a0), some (.int a1), some (.int a2)] [] τ = Q none τ) := ⟨
  fun _ _ _ _ => (R_at ok_Ways_turnTo rfl).trans (e_ald rfl),
  fun _ _ _ _ => (R_at ok_Ways_turnTo rfl).trans e_gD,
  fun _ _ _ _ => (R_at ok_Ways_turnTo rfl).trans e_ifnullN,
  fun _ _ _ _ _ => (R_at ok_Ways_turnTo rfl).trans e_ifnullR,
  fun _ _ _ _ => (R_at ok_Ways_turnTo rfl).trans (e_ald rfl),
  fun _ _ _ _ _ => (R_at ok_Ways_turnTo rfl).trans e_gR,
  fun _ _ _ _ _ => (R_at ok_Ways_turnTo rfl).trans (e_ild rfl),
  fun _ _ _ _ _ _ => (R_at ok_Ways_turnTo rfl).trans (e_ild rfl),
  fun _ _ _ _ _ _ _ => (R_at ok_Ways_turnTo rfl).trans (e_ald rfl),
  fun _ _ _ _ _ _ _ => (R_at ok_Ways_turnTo rfl).trans e_gD,
  fun _ _ _ _ _ _ _ _ => (R_at ok_Ways_turnTo rfl).trans (e_ald rfl),
  fun _ _ _ _ _ _ _ _ _ => (R_at ok_Ways_turnTo rfl).trans e_gI,
  fun _ _ _ x0 x1 x2 x3 _ _ => (R_at ok_Ways_turnTo rfl).trans (e_cv [.int x3, .int x2, x1, .int x0] rfl rfl rfl),
  fun _ _ _ _ => (R_at ok_Ways_turnTo rfl).trans e_vret⟩
set_option maxHeartbeats 4000000 in
theorem N_Ways_pullTo (d : Nat) (Q : Qt) : ∀ (x0 : Nat) (x1 : Int32) (x2 : Int32) (τ : St), Cl (d + 1) m_Ways_pullTo [.ref x0, .int x1, .int x2] τ Q = Ru M_Ways_pullTo d Q 0 [some (.ref x0), some (.int x1), some (.int x2)] [] τ := fun _ _ _ _ => propext ⟨fun h => h.2, fun h => ⟨Nat.le_of_ble_eq_true rfl, h⟩⟩
set_option maxHeartbeats 4000000 in
theorem E_Ways_pullTo (d : Nat) (Q : Qt) :
    (∀ (a0 : Nat) (a1 : Int32) (a2 : Int32) (τ : St), Ru M_Ways_pullTo d Q 0 [some (.ref a0), some (.int a1), some (.int a2)] [] τ = Ru M_Ways_pullTo d Q 1 [some (.ref a0), some (.int a1), some (.int a2)] [.ref a0] τ) ∧
    (∀ (a0 : Nat) (a1 : Int32) (a2 : Int32) (x0 : Nat) (τ : St), Ru M_Ways_pullTo d Q 1 [some (.ref a0), some (.int a1), some (.int a2)] [.ref x0] τ = (isA 10 x0 ∧ Ru M_Ways_pullTo d Q 4 [some (.ref a0), some (.int a1), some (.int a2)] [.ref (rtab x0 1)] τ)) ∧
    (∀ (a0 : Nat) (a1 : Int32) (a2 : Int32) (x0 : Nat) (τ : St), Ru M_Ways_pullTo d Q 4 [some (.ref a0), some (.int a1), some (.int a2)] [.ref x0] τ = Ru M_Ways_pullTo d Q 5 [some (.ref a0), some (.int a1), some (.int a2)] [.ref a0, .ref x0] τ) ∧
    (∀ (a0 : Nat) (a1 : Int32) (a2 : Int32) (x0 : Nat) (x1 : Nat) (τ : St), Ru M_Ways_pullTo d Q 5 [some (.ref a0), some (.int a1), some (.int a2)] [.ref x0, .ref x1] τ = (isA 10 x0 ∧ Ru M_Ways_pullTo d Q 8 [some (.ref a0), some (.int a1), some (.int a2)] [.ref (rtab x0 0), .ref x1] τ)) ∧
    (∀ (a0 : Nat) (a1 : Int32) (a2 : Int32) (x0 : Nat) (x1 : Nat) (τ : St), Ru M_Ways_pullTo d Q 8 [some (.ref a0), some (.int a1), some (.int a2)] [.ref x0, .ref x1] τ = Ru M_Ways_pullTo d Q 9 [some (.ref a0), some (.int a1), some (.int a2)] [.int a2, .ref x0, .ref x1] τ) ∧
    (∀ (a0 : Nat) (a1 : Int32) (a2 : Int32) (x0 : Int32) (x1 : Nat) (x2 : Nat) (τ : St), Ru M_Ways_pullTo d Q 9 [some (.ref a0), some (.int a1), some (.int a2)] [.int x0, .ref x1, .ref x2] τ = (isA 0 x1 ∧ Cl d m_Ground_heightOf [.ref x1, .int x0] τ (fun v τ' => Ru M_Ways_pullTo d Q 12 [some (.ref a0), some (.int a1), some (.int a2)] (v.toList ++ [.ref x2]) τ'))) ∧
    (∀ (a0 : Nat) (a1 : Int32) (a2 : Int32) (x0 : Int32) (x1 : Nat) (τ : St), Ru M_Ways_pullTo d Q 12 [some (.ref a0), some (.int a1), some (.int a2)] [.int x0, .ref x1] τ = Ru M_Ways_pullTo d Q 13 [some (.ref a0), some (.int a1), some (.int a2)] [.ref a0, .int x0, .ref x1] τ) ∧
    (∀ (a0 : Nat) (a1 : Int32) (a2 : Int32) (x0 : Nat) (x1 : Int32) (x2 : Nat) (τ : St), Ru M_Ways_pullTo d Q 13 [some (.ref a0), some (.int a1), some (.int a2)] [.ref x0, .int x1, .ref x2] τ = (isA 10 x0 ∧ Ru M_Ways_pullTo d Q 16 [some (.ref a0), some (.int a1), some (.int a2)] [.ref (rtab x0 0), .int x1, .ref x2] τ)) ∧
    (∀ (a0 : Nat) (a1 : Int32) (a2 : Int32) (x0 : Nat) (x1 : Int32) (x2 : Nat) (τ : St), Ru M_Ways_pullTo d Q 16 [some (.ref a0), some (.int a1), some (.int a2)] [.ref x0, .int x1, .ref x2] τ = Ru M_Ways_pullTo d Q 17 [some (.ref a0), some (.int a1), some (.int a2)] [.int a1, .ref x0, .int x1, .ref x2] τ) ∧
    (∀ (a0 : Nat) (a1 : Int32) (a2 : Int32) (x0 : Int32) (x1 : Nat) (x2 : Int32) (x3 : Nat) (τ : St), Ru M_Ways_pullTo d Q 17 [some (.ref a0), some (.int a1), some (.int a2)] [.int x0, .ref x1, .int x2, .ref x3] τ = (isA 0 x1 ∧ Cl d m_Ground_heightOf [.ref x1, .int x0] τ (fun v τ' => Ru M_Ways_pullTo d Q 20 [some (.ref a0), some (.int a1), some (.int a2)] (v.toList ++ [.int x2, .ref x3]) τ'))) ∧
    (∀ (a0 : Nat) (a1 : Int32) (a2 : Int32) (x0 : Int32) (x1 : Int32) (x2 : Nat) (τ : St), Ru M_Ways_pullTo d Q 20 [some (.ref a0), some (.int a1), some (.int a2)] [.int x0, .int x1, .ref x2] τ = Ru M_Ways_pullTo d Q 21 [some (.ref a0), some (.int a1), some (.int a2)] [.int (x1 - x0), .ref x2] τ) ∧
    (∀ (a0 : Nat) (a1 : Int32) (a2 : Int32) (x0 : Int32) (x1 : Nat) (τ : St), Ru M_Ways_pullTo d Q 21 [some (.ref a0), some (.int a1), some (.int a2)] [.int x0, .ref x1] τ = Ru M_Ways_pullTo d Q 22 [some (.ref a0), some (.int a1), some (.int a2)] [.ref a0, .int x0, .ref x1] τ) ∧
    (∀ (a0 : Nat) (a1 : Int32) (a2 : Int32) (x0 : Nat) (x1 : Int32) (x2 : Nat) (τ : St), Ru M_Ways_pullTo d Q 22 [some (.ref a0), some (.int a1), some (.int a2)] [.ref x0, .int x1, .ref x2] τ = (isA 10 x0 ∧ Ru M_Ways_pullTo d Q 25 [some (.ref a0), some (.int a1), some (.int a2)] [.long (τ.2 x0 4), .int x1, .ref x2] τ)) ∧
    (∀ (a0 : Nat) (a1 : Int32) (a2 : Int32) (x0 : Int64) (x1 : Int32) (x2 : Nat) (τ : St), Ru M_Ways_pullTo d Q 25 [some (.ref a0), some (.int a1), some (.int a2)] [.long x0, .int x1, .ref x2] τ = Ru M_Ways_pullTo d Q 26 [some (.ref a0), some (.int a1), some (.int a2)] [.int a2, .long x0, .int x1, .ref x2] τ) ∧
    (∀ (a0 : Nat) (a1 : Int32) (a2 : Int32) (x0 : Int32) (x1 : Int64) (x2 : Int32) (x3 : Nat) (τ : St), Ru M_Ways_pullTo d Q 26 [some (.ref a0), some (.int a1), some (.int a2)] [.int x0, .long x1, .int x2, .ref x3] τ = Ru M_Ways_pullTo d Q 27 [some (.ref a0), some (.int a1), some (.int a2)] [.long ((x1.toUInt64 >>> (x0.toInt64.toUInt64 &&& Int64.toUInt64 63)).toInt64), .int x2, .ref x3] τ) ∧
    (∀ (a0 : Nat) (a1 : Int32) (a2 : Int32) (x0 : Int64) (x1 : Int32) (x2 : Nat) (τ : St), Ru M_Ways_pullTo d Q 27 [some (.ref a0), some (.int a1), some (.int a2)] [.long x0, .int x1, .ref x2] τ = Ru M_Ways_pullTo d Q 28 [some (.ref a0), some (.int a1), some (.int a2)] [.long 1, .long x0, .int x1, .ref x2] τ) ∧
    (∀ (a0 : Nat) (a1 : Int32) (a2 : Int32) (x0 : Int64) (x1 : Int64) (x2 : Int32) (x3 : Nat) (τ : St), Ru M_Ways_pullTo d Q 28 [some (.ref a0), some (.int a1), some (.int a2)] [.long x0, .long x1, .int x2, .ref x3] τ = Ru M_Ways_pullTo d Q 29 [some (.ref a0), some (.int a1), some (.int a2)] [.long (x1 &&& x0), .int x2, .ref x3] τ) ∧
    (∀ (a0 : Nat) (a1 : Int32) (a2 : Int32) (x0 : Int64) (x1 : Int32) (x2 : Nat) (τ : St), Ru M_Ways_pullTo d Q 29 [some (.ref a0), some (.int a1), some (.int a2)] [.long x0, .int x1, .ref x2] τ = Ru M_Ways_pullTo d Q 30 [some (.ref a0), some (.int a1), some (.int a2)] [.int x0.toInt32, .int x1, .ref x2] τ) ∧
    (∀ (a0 : Nat) (a1 : Int32) (a2 : Int32) (x0 : Int32) (x1 : Int32) (x2 : Nat) (τ : St), Ru M_Ways_pullTo d Q 30 [some (.ref a0), some (.int a1), some (.int a2)] [.int x0, .int x1, .ref x2] τ = (isA 3 x2 ∧ Cl d m_Pulls_of [.ref x2, .int x1, .int x0] τ (fun v τ' => Ru M_Ways_pullTo d Q 33 [some (.ref a0), some (.int a1), some (.int a2)] (v.toList ++ []) τ'))) ∧
    (∀ (a0 : Nat) (a1 : Int32) (a2 : Int32) (x0 : Int32) (τ : St), Ru M_Ways_pullTo d Q 33 [some (.ref a0), some (.int a1), some (.int a2)] [.int x0] τ = Q (some (.int x0)) τ) := ⟨
  fun _ _ _ _ => (R_at ok_Ways_pullTo rfl).trans (e_ald rfl),
  fun _ _ _ _ _ => (R_at ok_Ways_pullTo rfl).trans e_gR,
  fun _ _ _ _ _ => (R_at ok_Ways_pullTo rfl).trans (e_ald rfl),
  fun _ _ _ _ _ _ => (R_at ok_Ways_pullTo rfl).trans e_gR,
  fun _ _ _ _ _ _ => (R_at ok_Ways_pullTo rfl).trans (e_ild rfl),
  fun _ _ _ x0 _ _ _ => (R_at ok_Ways_pullTo rfl).trans (e_cv [.int x0] rfl rfl rfl),
  fun _ _ _ _ _ _ => (R_at ok_Ways_pullTo rfl).trans (e_ald rfl),
  fun _ _ _ _ _ _ _ => (R_at ok_Ways_pullTo rfl).trans e_gR,
  fun _ _ _ _ _ _ _ => (R_at ok_Ways_pullTo rfl).trans (e_ild rfl),
  fun _ _ _ x0 _ _ _ _ => (R_at ok_Ways_pullTo rfl).trans (e_cv [.int x0] rfl rfl rfl),
  fun _ _ _ _ _ _ _ => (R_at ok_Ways_pullTo rfl).trans e_bin,
  fun _ _ _ _ _ _ => (R_at ok_Ways_pullTo rfl).trans (e_ald rfl),
  fun _ _ _ _ _ _ _ => (R_at ok_Ways_pullTo rfl).trans e_gL,
  fun _ _ _ _ _ _ _ => (R_at ok_Ways_pullTo rfl).trans (e_ild rfl),
  fun _ _ _ _ _ _ _ _ => (R_at ok_Ways_pullTo rfl).trans e_lsh,
  fun _ _ _ _ _ _ _ => (R_at ok_Ways_pullTo rfl).trans e_push,
  fun _ _ _ _ _ _ _ _ => (R_at ok_Ways_pullTo rfl).trans e_lbin,
  fun _ _ _ _ _ _ _ => (R_at ok_Ways_pullTo rfl).trans e_li,
  fun _ _ _ x0 x1 _ _ => (R_at ok_Ways_pullTo rfl).trans (e_cv [.int x1, .int x0] rfl rfl rfl),
  fun _ _ _ _ _ => (R_at ok_Ways_pullTo rfl).trans e_iret⟩
set_option maxHeartbeats 4000000 in
theorem N_Ways_oneDragFrom (d : Nat) (Q : Qt) : ∀ (x0 : Nat) (x1 : Int64) (x2 : Int64) (x3 : Int32) (τ : St), Cl (d + 1) m_Ways_oneDragFrom [.ref x0, .long x1, .long x2, .int x3] τ Q = Ru M_Ways_oneDragFrom d Q 0 [some (.ref x0), some (.long x1), none, some (.long x2), none, some (.int x3), none, none, none, none, none] [] τ := fun _ _ _ _ _ => propext ⟨fun h => h.2, fun h => ⟨Nat.le_of_ble_eq_true rfl, h⟩⟩
set_option maxHeartbeats 4000000 in
theorem E_Ways_oneDragFrom (d : Nat) (Q : Qt) :
    (∀ (a0 : Nat) (a1 : Int64) (a3 : Int64) (a5 : Int32) (τ : St), Ru M_Ways_oneDragFrom d Q 0 [some (.ref a0), some (.long a1), none, some (.long a3), none, some (.int a5), none, none, none, none, none] [] τ = Ru M_Ways_oneDragFrom d Q 1 [some (.ref a0), some (.long a1), none, some (.long a3), none, some (.int a5), none, none, none, none, none] [.long 0] τ) ∧
    (∀ (a0 : Nat) (a1 : Int64) (a3 : Int64) (a5 : Int32) (x0 : Int64) (τ : St), Ru M_Ways_oneDragFrom d Q 1 [some (.ref a0), some (.long a1), none, some (.long a3), none, some (.int a5), none, none, none, none, none] [.long x0] τ = Ru M_Ways_oneDragFrom d Q 3 [some (.ref a0), some (.long a1), none, some (.long a3), none, some (.int a5), some (.long x0), none, none, none, none] [] τ) ∧
    (∀ (a0 : Nat) (a1 : Int64) (a3 : Int64) (a5 : Int32) (a6 : Int64) (τ : St), Ru M_Ways_oneDragFrom d Q 3 [some (.ref a0), some (.long a1), none, some (.long a3), none, some (.int a5), some (.long a6), none, none, none, none] [] τ = Ru M_Ways_oneDragFrom d Q 4 [some (.ref a0), some (.long a1), none, some (.long a3), none, some (.int a5), some (.long a6), none, none, none, none] [.int 0] τ) ∧
    (∀ (a0 : Nat) (a1 : Int64) (a3 : Int64) (a5 : Int32) (a6 : Int64) (x0 : Int32) (τ : St), Ru M_Ways_oneDragFrom d Q 4 [some (.ref a0), some (.long a1), none, some (.long a3), none, some (.int a5), some (.long a6), none, none, none, none] [.int x0] τ = Rs M_Ways_oneDragFrom d Q 6 [some (.ref a0), some (.long a1), none, some (.long a3), none, some (.int a5), some (.long a6), none, some (.int x0), none, none] [] τ) ∧
    (∀ (a0 : Nat) (a1 : Int64) (a3 : Int64) (a5 : Int32) (a6 : Int64) (a8 : Int32) (a9 : Option Value) (a10 : Option Value) (τ : St), Ru M_Ways_oneDragFrom d Q 6 [some (.ref a0), some (.long a1), none, some (.long a3), none, some (.int a5), some (.long a6), none, some (.int a8), a9, a10] [] τ = Ru M_Ways_oneDragFrom d Q 8 [some (.ref a0), some (.long a1), none, some (.long a3), none, some (.int a5), some (.long a6), none, some (.int a8), a9, a10] [.int a8] τ) ∧
    (∀ (a0 : Nat) (a1 : Int64) (a3 : Int64) (a5 : Int32) (a6 : Int64) (a8 : Int32) (a9 : Option Value) (a10 : Option Value) (x0 : Int32) (τ : St), Ru M_Ways_oneDragFrom d Q 8 [some (.ref a0), some (.long a1), none, some (.long a3), none, some (.int a5), some (.long a6), none, some (.int a8), a9, a10] [.int x0] τ = Ru M_Ways_oneDragFrom d Q 9 [some (.ref a0), some (.long a1), none, some (.long a3), none, some (.int a5), some (.long a6), none, some (.int a8), a9, a10] [.ref a0, .int x0] τ) ∧
    (∀ (a0 : Nat) (a1 : Int64) (a3 : Int64) (a5 : Int32) (a6 : Int64) (a8 : Int32) (a9 : Option Value) (a10 : Option Value) (x0 : Nat) (x1 : Int32) (τ : St), Ru M_Ways_oneDragFrom d Q 9 [some (.ref a0), some (.long a1), none, some (.long a3), none, some (.int a5), some (.long a6), none, some (.int a8), a9, a10] [.ref x0, .int x1] τ = (isA 10 x0 ∧ Ru M_Ways_oneDragFrom d Q 12 [some (.ref a0), some (.long a1), none, some (.long a3), none, some (.int a5), some (.long a6), none, some (.int a8), a9, a10] [.ref (rtab x0 0), .int x1] τ)) ∧
    (∀ (a0 : Nat) (a1 : Int64) (a3 : Int64) (a5 : Int32) (a6 : Int64) (a8 : Int32) (a9 : Option Value) (a10 : Option Value) (x0 : Nat) (x1 : Int32) (τ : St), Ru M_Ways_oneDragFrom d Q 12 [some (.ref a0), some (.long a1), none, some (.long a3), none, some (.int a5), some (.long a6), none, some (.int a8), a9, a10] [.ref x0, .int x1] τ = (isA 0 x0 ∧ Ru M_Ways_oneDragFrom d Q 15 [some (.ref a0), some (.long a1), none, some (.long a3), none, some (.int a5), some (.long a6), none, some (.int a8), a9, a10] [.int (τ.1 x0 2), .int x1] τ)) ∧
    (∀ (a0 : Nat) (a1 : Int64) (a3 : Int64) (a5 : Int32) (a6 : Int64) (a8 : Int32) (a9 : Option Value) (a10 : Option Value) (x0 : Int32) (x1 : Int32) (τ : St), Ru M_Ways_oneDragFrom d Q 15 [some (.ref a0), some (.long a1), none, some (.long a3), none, some (.int a5), some (.long a6), none, some (.int a8), a9, a10] [.int x0, .int x1] τ = ((x0 ≤ x1 → Ru M_Ways_oneDragFrom d Q 105 [some (.ref a0), some (.long a1), none, some (.long a3), none, some (.int a5), some (.long a6), none, some (.int a8), a9, a10] [] τ) ∧ (¬ x0 ≤ x1 → Ru M_Ways_oneDragFrom d Q 18 [some (.ref a0), some (.long a1), none, some (.long a3), none, some (.int a5), some (.long a6), none, some (.int a8), a9, a10] [] τ))) ∧
    (∀ (a0 : Nat) (a1 : Int64) (a3 : Int64) (a5 : Int32) (a6 : Int64) (a8 : Int32) (a9 : Option Value) (a10 : Option Value) (τ : St), Ru M_Ways_oneDragFrom d Q 18 [some (.ref a0), some (.long a1), none, some (.long a3), none, some (.int a5), some (.long a6), none, some (.int a8), a9, a10] [] τ = Ru M_Ways_oneDragFrom d Q 19 [some (.ref a0), some (.long a1), none, some (.long a3), none, some (.int a5), some (.long a6), none, some (.int a8), a9, a10] [.long a1] τ) ∧
    (∀ (a0 : Nat) (a1 : Int64) (a3 : Int64) (a5 : Int32) (a6 : Int64) (a8 : Int32) (a9 : Option Value) (a10 : Option Value) (x0 : Int64) (τ : St), Ru M_Ways_oneDragFrom d Q 19 [some (.ref a0), some (.long a1), none, some (.long a3), none, some (.int a5), some (.long a6), none, some (.int a8), a9, a10] [.long x0] τ = Ru M_Ways_oneDragFrom d Q 21 [some (.ref a0), some (.long a1), none, some (.long a3), none, some (.int a5), some (.long a6), none, some (.int a8), a9, a10] [.int a8, .long x0] τ) ∧
    (∀ (a0 : Nat) (a1 : Int64) (a3 : Int64) (a5 : Int32) (a6 : Int64) (a8 : Int32) (a9 : Option Value) (a10 : Option Value) (x0 : Int32) (x1 : Int64) (τ : St), Ru M_Ways_oneDragFrom d Q 21 [some (.ref a0), some (.long a1), none, some (.long a3), none, some (.int a5), some (.long a6), none, some (.int a8), a9, a10] [.int x0, .long x1] τ = Ru M_Ways_oneDragFrom d Q 22 [some (.ref a0), some (.long a1), none, some (.long a3), none, some (.int a5), some (.long a6), none, some (.int a8), a9, a10] [.long ((x1.toUInt64 >>> (x0.toInt64.toUInt64 &&& Int64.toUInt64 63)).toInt64)] τ) ∧
    (∀ (a0 : Nat) (a1 : Int64) (a3 : Int64) (a5 : Int32) (a6 : Int64) (a8 : Int32) (a9 : Option Value) (a10 : Option Value) (x0 : Int64) (τ : St), Ru M_Ways_oneDragFrom d Q 22 [some (.ref a0), some (.long a1), none, some (.long a3), none, some (.int a5), some (.long a6), none, some (.int a8), a9, a10] [.long x0] τ = Ru M_Ways_oneDragFrom d Q 23 [some (.ref a0), some (.long a1), none, some (.long a3), none, some (.int a5), some (.long a6), none, some (.int a8), a9, a10] [.long 1, .long x0] τ) ∧
    (∀ (a0 : Nat) (a1 : Int64) (a3 : Int64) (a5 : Int32) (a6 : Int64) (a8 : Int32) (a9 : Option Value) (a10 : Option Value) (x0 : Int64) (x1 : Int64) (τ : St), Ru M_Ways_oneDragFrom d Q 23 [some (.ref a0), some (.long a1), none, some (.long a3), none, some (.int a5), some (.long a6), none, some (.int a8), a9, a10] [.long x0, .long x1] τ = Ru M_Ways_oneDragFrom d Q 24 [some (.ref a0), some (.long a1), none, some (.long a3), none, some (.int a5), some (.long a6), none, some (.int a8), a9, a10] [.long (x1 &&& x0)] τ) ∧
    (∀ (a0 : Nat) (a1 : Int64) (a3 : Int64) (a5 : Int32) (a6 : Int64) (a8 : Int32) (a9 : Option Value) (a10 : Option Value) (x0 : Int64) (τ : St), Ru M_Ways_oneDragFrom d Q 24 [some (.ref a0), some (.long a1), none, some (.long a3), none, some (.int a5), some (.long a6), none, some (.int a8), a9, a10] [.long x0] τ = Ru M_Ways_oneDragFrom d Q 25 [some (.ref a0), some (.long a1), none, some (.long a3), none, some (.int a5), some (.long a6), none, some (.int a8), a9, a10] [.long 0, .long x0] τ) ∧
    (∀ (a0 : Nat) (a1 : Int64) (a3 : Int64) (a5 : Int32) (a6 : Int64) (a8 : Int32) (a9 : Option Value) (a10 : Option Value) (x0 : Int64) (x1 : Int64) (τ : St), Ru M_Ways_oneDragFrom d Q 25 [some (.ref a0), some (.long a1), none, some (.long a3), none, some (.int a5), some (.long a6), none, some (.int a8), a9, a10] [.long x0, .long x1] τ = Ru M_Ways_oneDragFrom d Q 26 [some (.ref a0), some (.long a1), none, some (.long a3), none, some (.int a5), some (.long a6), none, some (.int a8), a9, a10] [.int (lg_cmp x1 x0)] τ) ∧
    (∀ (a0 : Nat) (a1 : Int64) (a3 : Int64) (a5 : Int32) (a6 : Int64) (a8 : Int32) (a9 : Option Value) (a10 : Option Value) (x0 : Int32) (τ : St), Ru M_Ways_oneDragFrom d Q 26 [some (.ref a0), some (.long a1), none, some (.long a3), none, some (.int a5), some (.long a6), none, some (.int a8), a9, a10] [.int x0] τ = ((¬ x0 = 0 → Ru M_Ways_oneDragFrom d Q 32 [some (.ref a0), some (.long a1), none, some (.long a3), none, some (.int a5), some (.long a6), none, some (.int a8), a9, a10] [] τ) ∧ (x0 = 0 → Ru M_Ways_oneDragFrom d Q 29 [some (.ref a0), some (.long a1), none, some (.long a3), none, some (.int a5), some (.long a6), none, some (.int a8), a9, a10] [] τ))) ∧
    (∀ (a0 : Nat) (a1 : Int64) (a3 : Int64) (a5 : Int32) (a6 : Int64) (a8 : Int32) (a9 : Option Value) (a10 : Option Value) (τ : St), Ru M_Ways_oneDragFrom d Q 29 [some (.ref a0), some (.long a1), none, some (.long a3), none, some (.int a5), some (.long a6), none, some (.int a8), a9, a10] [] τ = Ru M_Ways_oneDragFrom d Q 99 [some (.ref a0), some (.long a1), none, some (.long a3), none, some (.int a5), some (.long a6), none, some (.int a8), a9, a10] [] τ) ∧
    (∀ (a0 : Nat) (a1 : Int64) (a3 : Int64) (a5 : Int32) (a6 : Int64) (a8 : Int32) (a9 : Option Value) (a10 : Option Value) (τ : St), Ru M_Ways_oneDragFrom d Q 32 [some (.ref a0), some (.long a1), none, some (.long a3), none, some (.int a5), some (.long a6), none, some (.int a8), a9, a10] [] τ = Ru M_Ways_oneDragFrom d Q 33 [some (.ref a0), some (.long a1), none, some (.long a3), none, some (.int a5), some (.long a6), none, some (.int a8), a9, a10] [.int 0] τ) ∧
    (∀ (a0 : Nat) (a1 : Int64) (a3 : Int64) (a5 : Int32) (a6 : Int64) (a8 : Int32) (a9 : Option Value) (a10 : Option Value) (x0 : Int32) (τ : St), Ru M_Ways_oneDragFrom d Q 33 [some (.ref a0), some (.long a1), none, some (.long a3), none, some (.int a5), some (.long a6), none, some (.int a8), a9, a10] [.int x0] τ = Rs M_Ways_oneDragFrom d Q 35 [some (.ref a0), some (.long a1), none, some (.long a3), none, some (.int a5), some (.long a6), none, some (.int a8), some (.int x0), a10] [] τ) ∧
    (∀ (a0 : Nat) (a1 : Int64) (a3 : Int64) (a5 : Int32) (a6 : Int64) (a8 : Int32) (a9 : Int32) (a10 : Option Value) (τ : St), Ru M_Ways_oneDragFrom d Q 35 [some (.ref a0), some (.long a1), none, some (.long a3), none, some (.int a5), some (.long a6), none, some (.int a8), some (.int a9), a10] [] τ = Ru M_Ways_oneDragFrom d Q 37 [some (.ref a0), some (.long a1), none, some (.long a3), none, some (.int a5), some (.long a6), none, some (.int a8), some (.int a9), a10] [.int a9] τ) ∧
    (∀ (a0 : Nat) (a1 : Int64) (a3 : Int64) (a5 : Int32) (a6 : Int64) (a8 : Int32) (a9 : Int32) (a10 : Option Value) (x0 : Int32) (τ : St), Ru M_Ways_oneDragFrom d Q 37 [some (.ref a0), some (.long a1), none, some (.long a3), none, some (.int a5), some (.long a6), none, some (.int a8), some (.int a9), a10] [.int x0] τ = Ru M_Ways_oneDragFrom d Q 38 [some (.ref a0), some (.long a1), none, some (.long a3), none, some (.int a5), some (.long a6), none, some (.int a8), some (.int a9), a10] [.int 4, .int x0] τ) ∧
    (∀ (a0 : Nat) (a1 : Int64) (a3 : Int64) (a5 : Int32) (a6 : Int64) (a8 : Int32) (a9 : Int32) (a10 : Option Value) (x0 : Int32) (x1 : Int32) (τ : St), Ru M_Ways_oneDragFrom d Q 38 [some (.ref a0), some (.long a1), none, some (.long a3), none, some (.int a5), some (.long a6), none, some (.int a8), some (.int a9), a10] [.int x0, .int x1] τ = ((x0 ≤ x1 → Ru M_Ways_oneDragFrom d Q 99 [some (.ref a0), some (.long a1), none, some (.long a3), none, some (.int a5), some (.long a6), none, some (.int a8), some (.int a9), a10] [] τ) ∧ (¬ x0 ≤ x1 → Ru M_Ways_oneDragFrom d Q 41 [some (.ref a0), some (.long a1), none, some (.long a3), none, some (.int a5), some (.long a6), none, some (.int a8), some (.int a9), a10] [] τ))) ∧
    (∀ (a0 : Nat) (a1 : Int64) (a3 : Int64) (a5 : Int32) (a6 : Int64) (a8 : Int32) (a9 : Int32) (a10 : Option Value) (τ : St), Ru M_Ways_oneDragFrom d Q 41 [some (.ref a0), some (.long a1), none, some (.long a3), none, some (.int a5), some (.long a6), none, some (.int a8), some (.int a9), a10] [] τ = Ru M_Ways_oneDragFrom d Q 42 [some (.ref a0), some (.long a1), none, some (.long a3), none, some (.int a5), some (.long a6), none, some (.int a8), some (.int a9), a10] [.ref a0] τ) ∧
    (∀ (a0 : Nat) (a1 : Int64) (a3 : Int64) (a5 : Int32) (a6 : Int64) (a8 : Int32) (a9 : Int32) (a10 : Option Value) (x0 : Nat) (τ : St), Ru M_Ways_oneDragFrom d Q 42 [some (.ref a0), some (.long a1), none, some (.long a3), none, some (.int a5), some (.long a6), none, some (.int a8), some (.int a9), a10] [.ref x0] τ = (isA 10 x0 ∧ Ru M_Ways_oneDragFrom d Q 45 [some (.ref a0), some (.long a1), none, some (.long a3), none, some (.int a5), some (.long a6), none, some (.int a8), some (.int a9), a10] [.ref (rtab x0 0)] τ)) ∧
    (∀ (a0 : Nat) (a1 : Int64) (a3 : Int64) (a5 : Int32) (a6 : Int64) (a8 : Int32) (a9 : Int32) (a10 : Option Value) (x0 : Nat) (τ : St), Ru M_Ways_oneDragFrom d Q 45 [some (.ref a0), some (.long a1), none, some (.long a3), none, some (.int a5), some (.long a6), none, some (.int a8), some (.int a9), a10] [.ref x0] τ = Ru M_Ways_oneDragFrom d Q 47 [some (.ref a0), some (.long a1), none, some (.long a3), none, some (.int a5), some (.long a6), none, some (.int a8), some (.int a9), a10] [.int a8, .ref x0] τ) ∧
    (∀ (a0 : Nat) (a1 : Int64) (a3 : Int64) (a5 : Int32) (a6 : Int64) (a8 : Int32) (a9 : Int32) (a10 : Option Value) (x0 : Int32) (x1 : Nat) (τ : St), Ru M_Ways_oneDragFrom d Q 47 [some (.ref a0), some (.long a1), none, some (.long a3), none, some (.int a5), some (.long a6), none, some (.int a8), some (.int a9), a10] [.int x0, .ref x1] τ = Ru M_Ways_oneDragFrom d Q 49 [some (.ref a0), some (.long a1), none, some (.long a3), none, some (.int a5), some (.long a6), none, some (.int a8), some (.int a9), a10] [.int a9, .int x0, .ref x1] τ) ∧
    (∀ (a0 : Nat) (a1 : Int64) (a3 : Int64) (a5 : Int32) (a6 : Int64) (a8 : Int32) (a9 : Int32) (a10 : Option Value) (x0 : Int32) (x1 : Int32) (x2 : Nat) (τ : St), Ru M_Ways_oneDragFrom d Q 49 [some (.ref a0), some (.long a1), none, some (.long a3), none, some (.int a5), some (.long a6), none, some (.int a8), some (.int a9), a10] [.int x0, .int x1, .ref x2] τ = (isA 0 x2 ∧ Cl d m_Ground_beside [.ref x2, .int x1, .int x0] τ (fun v τ' => Ru M_Ways_oneDragFrom d Q 52 [some (.ref a0), some (.long a1), none, some (.long a3), none, some (.int a5), some (.long a6), none, some (.int a8), some (.int a9), a10] (v.toList ++ []) τ'))) ∧
    (∀ (a0 : Nat) (a1 : Int64) (a3 : Int64) (a5 : Int32) (a6 : Int64) (a8 : Int32) (a9 : Int32) (a10 : Option Value) (x0 : Int32) (τ : St), Ru M_Ways_oneDragFrom d Q 52 [some (.ref a0), some (.long a1), none, some (.long a3), none, some (.int a5), some (.long a6), none, some (.int a8), some (.int a9), a10] [.int x0] τ = Ru M_Ways_oneDragFrom d Q 54 [some (.ref a0), some (.long a1), none, some (.long a3), none, some (.int a5), some (.long a6), none, some (.int a8), some (.int a9), some (.int x0)] [] τ) ∧
    (∀ (a0 : Nat) (a1 : Int64) (a3 : Int64) (a5 : Int32) (a6 : Int64) (a8 : Int32) (a9 : Int32) (a10 : Int32) (τ : St), Ru M_Ways_oneDragFrom d Q 54 [some (.ref a0), some (.long a1), none, some (.long a3), none, some (.int a5), some (.long a6), none, some (.int a8), some (.int a9), some (.int a10)] [] τ = Ru M_Ways_oneDragFrom d Q 56 [some (.ref a0), some (.long a1), none, some (.long a3), none, some (.int a5), some (.long a6), none, some (.int a8), some (.int a9), some (.int a10)] [.int a10] τ) ∧
    (∀ (a0 : Nat) (a1 : Int64) (a3 : Int64) (a5 : Int32) (a6 : Int64) (a8 : Int32) (a9 : Int32) (a10 : Int32) (x0 : Int32) (τ : St), Ru M_Ways_oneDragFrom d Q 56 [some (.ref a0), some (.long a1), none, some (.long a3), none, some (.int a5), some (.long a6), none, some (.int a8), some (.int a9), some (.int a10)] [.int x0] τ = Ru M_Ways_oneDragFrom d Q 57 [some (.ref a0), some (.long a1), none, some (.long a3), none, some (.int a5), some (.long a6), none, some (.int a8), some (.int a9), some (.int a10)] [.int (-1), .int x0] τ) ∧
    (∀ (a0 : Nat) (a1 : Int64) (a3 : Int64) (a5 : Int32) (a6 : Int64) (a8 : Int32) (a9 : Int32) (a10 : Int32) (x0 : Int32) (x1 : Int32) (τ : St), Ru M_Ways_oneDragFrom d Q 57 [some (.ref a0), some (.long a1), none, some (.long a3), none, some (.int a5), some (.long a6), none, some (.int a8), some (.int a9), some (.int a10)] [.int x0, .int x1] τ = ((x1 = x0 → Ru M_Ways_oneDragFrom d Q 93 [some (.ref a0), some (.long a1), none, some (.long a3), none, some (.int a5), some (.long a6), none, some (.int a8), some (.int a9), some (.int a10)] [] τ) ∧ (¬ x1 = x0 → Ru M_Ways_oneDragFrom d Q 60 [some (.ref a0), some (.long a1), none, some (.long a3), none, some (.int a5), some (.long a6), none, some (.int a8), some (.int a9), some (.int a10)] [] τ))) ∧
    (∀ (a0 : Nat) (a1 : Int64) (a3 : Int64) (a5 : Int32) (a6 : Int64) (a8 : Int32) (a9 : Int32) (a10 : Int32) (τ : St), Ru M_Ways_oneDragFrom d Q 60 [some (.ref a0), some (.long a1), none, some (.long a3), none, some (.int a5), some (.long a6), none, some (.int a8), some (.int a9), some (.int a10)] [] τ = Ru M_Ways_oneDragFrom d Q 61 [some (.ref a0), some (.long a1), none, some (.long a3), none, some (.int a5), some (.long a6), none, some (.int a8), some (.int a9), some (.int a10)] [.long a3] τ) ∧
    (∀ (a0 : Nat) (a1 : Int64) (a3 : Int64) (a5 : Int32) (a6 : Int64) (a8 : Int32) (a9 : Int32) (a10 : Int32) (x0 : Int64) (τ : St), Ru M_Ways_oneDragFrom d Q 61 [some (.ref a0), some (.long a1), none, some (.long a3), none, some (.int a5), some (.long a6), none, some (.int a8), some (.int a9), some (.int a10)] [.long x0] τ = Ru M_Ways_oneDragFrom d Q 63 [some (.ref a0), some (.long a1), none, some (.long a3), none, some (.int a5), some (.long a6), none, some (.int a8), some (.int a9), some (.int a10)] [.int a10, .long x0] τ) ∧
    (∀ (a0 : Nat) (a1 : Int64) (a3 : Int64) (a5 : Int32) (a6 : Int64) (a8 : Int32) (a9 : Int32) (a10 : Int32) (x0 : Int32) (x1 : Int64) (τ : St), Ru M_Ways_oneDragFrom d Q 63 [some (.ref a0), some (.long a1), none, some (.long a3), none, some (.int a5), some (.long a6), none, some (.int a8), some (.int a9), some (.int a10)] [.int x0, .long x1] τ = Ru M_Ways_oneDragFrom d Q 64 [some (.ref a0), some (.long a1), none, some (.long a3), none, some (.int a5), some (.long a6), none, some (.int a8), some (.int a9), some (.int a10)] [.long ((x1.toUInt64 >>> (x0.toInt64.toUInt64 &&& Int64.toUInt64 63)).toInt64)] τ) ∧
    (∀ (a0 : Nat) (a1 : Int64) (a3 : Int64) (a5 : Int32) (a6 : Int64) (a8 : Int32) (a9 : Int32) (a10 : Int32) (x0 : Int64) (τ : St), Ru M_Ways_oneDragFrom d Q 64 [some (.ref a0), some (.long a1), none, some (.long a3), none, some (.int a5), some (.long a6), none, some (.int a8), some (.int a9), some (.int a10)] [.long x0] τ = Ru M_Ways_oneDragFrom d Q 65 [some (.ref a0), some (.long a1), none, some (.long a3), none, some (.int a5), some (.long a6), none, some (.int a8), some (.int a9), some (.int a10)] [.long 1, .long x0] τ) ∧
    (∀ (a0 : Nat) (a1 : Int64) (a3 : Int64) (a5 : Int32) (a6 : Int64) (a8 : Int32) (a9 : Int32) (a10 : Int32) (x0 : Int64) (x1 : Int64) (τ : St), Ru M_Ways_oneDragFrom d Q 65 [some (.ref a0), some (.long a1), none, some (.long a3), none, some (.int a5), some (.long a6), none, some (.int a8), some (.int a9), some (.int a10)] [.long x0, .long x1] τ = Ru M_Ways_oneDragFrom d Q 66 [some (.ref a0), some (.long a1), none, some (.long a3), none, some (.int a5), some (.long a6), none, some (.int a8), some (.int a9), some (.int a10)] [.long (x1 &&& x0)] τ) ∧
    (∀ (a0 : Nat) (a1 : Int64) (a3 : Int64) (a5 : Int32) (a6 : Int64) (a8 : Int32) (a9 : Int32) (a10 : Int32) (x0 : Int64) (τ : St), Ru M_Ways_oneDragFrom d Q 66 [some (.ref a0), some (.long a1), none, some (.long a3), none, some (.int a5), some (.long a6), none, some (.int a8), some (.int a9), some (.int a10)] [.long x0] τ = Ru M_Ways_oneDragFrom d Q 67 [some (.ref a0), some (.long a1), none, some (.long a3), none, some (.int a5), some (.long a6), none, some (.int a8), some (.int a9), some (.int a10)] [.long 0, .long x0] τ) ∧
    (∀ (a0 : Nat) (a1 : Int64) (a3 : Int64) (a5 : Int32) (a6 : Int64) (a8 : Int32) (a9 : Int32) (a10 : Int32) (x0 : Int64) (x1 : Int64) (τ : St), Ru M_Ways_oneDragFrom d Q 67 [some (.ref a0), some (.long a1), none, some (.long a3), none, some (.int a5), some (.long a6), none, some (.int a8), some (.int a9), some (.int a10)] [.long x0, .long x1] τ = Ru M_Ways_oneDragFrom d Q 68 [some (.ref a0), some (.long a1), none, some (.long a3), none, some (.int a5), some (.long a6), none, some (.int a8), some (.int a9), some (.int a10)] [.int (lg_cmp x1 x0)] τ) ∧
    (∀ (a0 : Nat) (a1 : Int64) (a3 : Int64) (a5 : Int32) (a6 : Int64) (a8 : Int32) (a9 : Int32) (a10 : Int32) (x0 : Int32) (τ : St), Ru M_Ways_oneDragFrom d Q 68 [some (.ref a0), some (.long a1), none, some (.long a3), none, some (.int a5), some (.long a6), none, some (.int a8), some (.int a9), some (.int a10)] [.int x0] τ = ((¬ x0 = 0 → Ru M_Ways_oneDragFrom d Q 93 [some (.ref a0), some (.long a1), none, some (.long a3), none, some (.int a5), some (.long a6), none, some (.int a8), some (.int a9), some (.int a10)] [] τ) ∧ (x0 = 0 → Ru M_Ways_oneDragFrom d Q 71 [some (.ref a0), some (.long a1), none, some (.long a3), none, some (.int a5), some (.long a6), none, some (.int a8), some (.int a9), some (.int a10)] [] τ))) ∧
    (∀ (a0 : Nat) (a1 : Int64) (a3 : Int64) (a5 : Int32) (a6 : Int64) (a8 : Int32) (a9 : Int32) (a10 : Int32) (τ : St), Ru M_Ways_oneDragFrom d Q 71 [some (.ref a0), some (.long a1), none, some (.long a3), none, some (.int a5), some (.long a6), none, some (.int a8), some (.int a9), some (.int a10)] [] τ = Ru M_Ways_oneDragFrom d Q 72 [some (.ref a0), some (.long a1), none, some (.long a3), none, some (.int a5), some (.long a6), none, some (.int a8), some (.int a9), some (.int a10)] [.ref a0] τ) ∧
    (∀ (a0 : Nat) (a1 : Int64) (a3 : Int64) (a5 : Int32) (a6 : Int64) (a8 : Int32) (a9 : Int32) (a10 : Int32) (x0 : Nat) (τ : St), Ru M_Ways_oneDragFrom d Q 72 [some (.ref a0), some (.long a1), none, some (.long a3), none, some (.int a5), some (.long a6), none, some (.int a8), some (.int a9), some (.int a10)] [.ref x0] τ = Ru M_Ways_oneDragFrom d Q 74 [some (.ref a0), some (.long a1), none, some (.long a3), none, some (.int a5), some (.long a6), none, some (.int a8), some (.int a9), some (.int a10)] [.int a8, .ref x0] τ) ∧
    (∀ (a0 : Nat) (a1 : Int64) (a3 : Int64) (a5 : Int32) (a6 : Int64) (a8 : Int32) (a9 : Int32) (a10 : Int32) (x0 : Int32) (x1 : Nat) (τ : St), Ru M_Ways_oneDragFrom d Q 74 [some (.ref a0), some (.long a1), none, some (.long a3), none, some (.int a5), some (.long a6), none, some (.int a8), some (.int a9), some (.int a10)] [.int x0, .ref x1] τ = Ru M_Ways_oneDragFrom d Q 76 [some (.ref a0), some (.long a1), none, some (.long a3), none, some (.int a5), some (.long a6), none, some (.int a8), some (.int a9), some (.int a10)] [.int a10, .int x0, .ref x1] τ) ∧
    (∀ (a0 : Nat) (a1 : Int64) (a3 : Int64) (a5 : Int32) (a6 : Int64) (a8 : Int32) (a9 : Int32) (a10 : Int32) (x0 : Int32) (x1 : Int32) (x2 : Nat) (τ : St), Ru M_Ways_oneDragFrom d Q 76 [some (.ref a0), some (.long a1), none, some (.long a3), none, some (.int a5), some (.long a6), none, some (.int a8), some (.int a9), some (.int a10)] [.int x0, .int x1, .ref x2] τ = (isA 10 x2 ∧ Cl d m_Ways_pullTo [.ref x2, .int x1, .int x0] τ (fun v τ' => Ru M_Ways_oneDragFrom d Q 79 [some (.ref a0), some (.long a1), none, some (.long a3), none, some (.int a5), some (.long a6), none, some (.int a8), some (.int a9), some (.int a10)] (v.toList ++ []) τ'))) ∧
    (∀ (a0 : Nat) (a1 : Int64) (a3 : Int64) (a5 : Int32) (a6 : Int64) (a8 : Int32) (a9 : Int32) (a10 : Int32) (x0 : Int32) (τ : St), Ru M_Ways_oneDragFrom d Q 79 [some (.ref a0), some (.long a1), none, some (.long a3), none, some (.int a5), some (.long a6), none, some (.int a8), some (.int a9), some (.int a10)] [.int x0] τ = Ru M_Ways_oneDragFrom d Q 81 [some (.ref a0), some (.long a1), none, some (.long a3), none, some (.int a5), some (.long a6), none, some (.int a8), some (.int a9), some (.int a10)] [.int a5, .int x0] τ) ∧
    (∀ (a0 : Nat) (a1 : Int64) (a3 : Int64) (a5 : Int32) (a6 : Int64) (a8 : Int32) (a9 : Int32) (a10 : Int32) (x0 : Int32) (x1 : Int32) (τ : St), Ru M_Ways_oneDragFrom d Q 81 [some (.ref a0), some (.long a1), none, some (.long a3), none, some (.int a5), some (.long a6), none, some (.int a8), some (.int a9), some (.int a10)] [.int x0, .int x1] τ = ((x0 < x1 → Ru M_Ways_oneDragFrom d Q 93 [some (.ref a0), some (.long a1), none, some (.long a3), none, some (.int a5), some (.long a6), none, some (.int a8), some (.int a9), some (.int a10)] [] τ) ∧ (¬ x0 < x1 → Ru M_Ways_oneDragFrom d Q 84 [some (.ref a0), some (.long a1), none, some (.long a3), none, some (.int a5), some (.long a6), none, some (.int a8), some (.int a9), some (.int a10)] [] τ))) ∧
    (∀ (a0 : Nat) (a1 : Int64) (a3 : Int64) (a5 : Int32) (a6 : Int64) (a8 : Int32) (a9 : Int32) (a10 : Int32) (τ : St), Ru M_Ways_oneDragFrom d Q 84 [some (.ref a0), some (.long a1), none, some (.long a3), none, some (.int a5), some (.long a6), none, some (.int a8), some (.int a9), some (.int a10)] [] τ = Ru M_Ways_oneDragFrom d Q 86 [some (.ref a0), some (.long a1), none, some (.long a3), none, some (.int a5), some (.long a6), none, some (.int a8), some (.int a9), some (.int a10)] [.long a6] τ) ∧
    (∀ (a0 : Nat) (a1 : Int64) (a3 : Int64) (a5 : Int32) (a6 : Int64) (a8 : Int32) (a9 : Int32) (a10 : Int32) (x0 : Int64) (τ : St), Ru M_Ways_oneDragFrom d Q 86 [some (.ref a0), some (.long a1), none, some (.long a3), none, some (.int a5), some (.long a6), none, some (.int a8), some (.int a9), some (.int a10)] [.long x0] τ = Ru M_Ways_oneDragFrom d Q 87 [some (.ref a0), some (.long a1), none, some (.long a3), none, some (.int a5), some (.long a6), none, some (.int a8), some (.int a9), some (.int a10)] [.long 1, .long x0] τ) ∧
    (∀ (a0 : Nat) (a1 : Int64) (a3 : Int64) (a5 : Int32) (a6 : Int64) (a8 : Int32) (a9 : Int32) (a10 : Int32) (x0 : Int64) (x1 : Int64) (τ : St), Ru M_Ways_oneDragFrom d Q 87 [some (.ref a0), some (.long a1), none, some (.long a3), none, some (.int a5), some (.long a6), none, some (.int a8), some (.int a9), some (.int a10)] [.long x0, .long x1] τ = Ru M_Ways_oneDragFrom d Q 89 [some (.ref a0), some (.long a1), none, some (.long a3), none, some (.int a5), some (.long a6), none, some (.int a8), some (.int a9), some (.int a10)] [.int a10, .long x0, .long x1] τ) ∧
    (∀ (a0 : Nat) (a1 : Int64) (a3 : Int64) (a5 : Int32) (a6 : Int64) (a8 : Int32) (a9 : Int32) (a10 : Int32) (x0 : Int32) (x1 : Int64) (x2 : Int64) (τ : St), Ru M_Ways_oneDragFrom d Q 89 [some (.ref a0), some (.long a1), none, some (.long a3), none, some (.int a5), some (.long a6), none, some (.int a8), some (.int a9), some (.int a10)] [.int x0, .long x1, .long x2] τ = Ru M_Ways_oneDragFrom d Q 90 [some (.ref a0), some (.long a1), none, some (.long a3), none, some (.int a5), some (.long a6), none, some (.int a8), some (.int a9), some (.int a10)] [.long (x1 <<< (x0.toInt64 &&& 63)), .long x2] τ) ∧
    (∀ (a0 : Nat) (a1 : Int64) (a3 : Int64) (a5 : Int32) (a6 : Int64) (a8 : Int32) (a9 : Int32) (a10 : Int32) (x0 : Int64) (x1 : Int64) (τ : St), Ru M_Ways_oneDragFrom d Q 90 [some (.ref a0), some (.long a1), none, some (.long a3), none, some (.int a5), some (.long a6), none, some (.int a8), some (.int a9), some (.int a10)] [.long x0, .long x1] τ = Ru M_Ways_oneDragFrom d Q 91 [some (.ref a0), some (.long a1), none, some (.long a3), none, some (.int a5), some (.long a6), none, some (.int a8), some (.int a9), some (.int a10)] [.long (x1 ||| x0)] τ) ∧
    (∀ (a0 : Nat) (a1 : Int64) (a3 : Int64) (a5 : Int32) (a6 : Int64) (a8 : Int32) (a9 : Int32) (a10 : Int32) (x0 : Int64) (τ : St), Ru M_Ways_oneDragFrom d Q 91 [some (.ref a0), some (.long a1), none, some (.long a3), none, some (.int a5), some (.long a6), none, some (.int a8), some (.int a9), some (.int a10)] [.long x0] τ = Ru M_Ways_oneDragFrom d Q 93 [some (.ref a0), some (.long a1), none, some (.long a3), none, some (.int a5), some (.long x0), none, some (.int a8), some (.int a9), some (.int a10)] [] τ) ∧
    (∀ (a0 : Nat) (a1 : Int64) (a3 : Int64) (a5 : Int32) (a6 : Int64) (a8 : Int32) (a9 : Int32) (a10 : Int32) (τ : St), Ru M_Ways_oneDragFrom d Q 93 [some (.ref a0), some (.long a1), none, some (.long a3), none, some (.int a5), some (.long a6), none, some (.int a8), some (.int a9), some (.int a10)] [] τ = Ru M_Ways_oneDragFrom d Q 96 [some (.ref a0), some (.long a1), none, some (.long a3), none, some (.int a5), some (.long a6), none, some (.int a8), some (.int (a9 + 1)), some (.int a10)] [] τ) ∧
    (∀ (a0 : Nat) (a1 : Int64) (a3 : Int64) (a5 : Int32) (a6 : Int64) (a8 : Int32) (a9 : Int32) (a10 : Int32) (τ : St), Ru M_Ways_oneDragFrom d Q 96 [some (.ref a0), some (.long a1), none, some (.long a3), none, some (.int a5), some (.long a6), none, some (.int a8), some (.int a9), some (.int a10)] [] τ = Rs M_Ways_oneDragFrom d Q 35 [some (.ref a0), some (.long a1), none, some (.long a3), none, some (.int a5), some (.long a6), none, some (.int a8), some (.int a9), some (.int a10)] [] τ) ∧
    (∀ (a0 : Nat) (a1 : Int64) (a3 : Int64) (a5 : Int32) (a6 : Int64) (a8 : Int32) (a9 : Option Value) (a10 : Option Value) (τ : St), Ru M_Ways_oneDragFrom d Q 99 [some (.ref a0), some (.long a1), none, some (.long a3), none, some (.int a5), some (.long a6), none, some (.int a8), a9, a10] [] τ = Ru M_Ways_oneDragFrom d Q 102 [some (.ref a0), some (.long a1), none, some (.long a3), none, some (.int a5), some (.long a6), none, some (.int (a8 + 1)), a9, a10] [] τ) ∧
    (∀ (a0 : Nat) (a1 : Int64) (a3 : Int64) (a5 : Int32) (a6 : Int64) (a8 : Int32) (a9 : Option Value) (a10 : Option Value) (τ : St), Ru M_Ways_oneDragFrom d Q 102 [some (.ref a0), some (.long a1), none, some (.long a3), none, some (.int a5), some (.long a6), none, some (.int a8), a9, a10] [] τ = Rs M_Ways_oneDragFrom d Q 6 [some (.ref a0), some (.long a1), none, some (.long a3), none, some (.int a5), some (.long a6), none, some (.int a8), a9, a10] [] τ) ∧
    (∀ (a0 : Nat) (a1 : Int64) (a3 : Int64) (a5 : Int32) (a6 : Int64) (a8 : Int32) (a9 : Option Value) (a10 : Option Value) (τ : St), Ru M_Ways_oneDragFrom d Q 105 [some (.ref a0), some (.long a1), none, some (.long a3), none, some (.int a5), some (.long a6), none, some (.int a8), a9, a10] [] τ = Ru M_Ways_oneDragFrom d Q 107 [some (.ref a0), some (.long a1), none, some (.long a3), none, some (.int a5), some (.long a6), none, some (.int a8), a9, a10] [.long a6] τ) ∧
    (∀ (a0 : Nat) (a1 : Int64) (a3 : Int64) (a5 : Int32) (a6 : Int64) (a8 : Int32) (a9 : Option Value) (a10 : Option Value) (x0 : Int64) (τ : St), Ru M_Ways_oneDragFrom d Q 107 [some (.ref a0), some (.long a1), none, some (.long a3), none, some (.int a5), some (.long a6), none, some (.int a8), a9, a10] [.long x0] τ = Q (some (.long x0)) τ) := ⟨
  fun _ _ _ _ _ => (R_at ok_Ways_oneDragFrom rfl).trans e_push,
  fun _ _ _ _ _ _ => (R_at ok_Ways_oneDragFrom rfl).trans e_lst,
  fun _ _ _ _ _ _ => (R_at ok_Ways_oneDragFrom rfl).trans e_push,
  fun _ _ _ _ _ _ _ => (R_at ok_Ways_oneDragFrom rfl).trans e_ist,
  fun _ _ _ _ _ _ _ _ _ => (R_at ok_Ways_oneDragFrom rfl).trans (e_ild rfl),
  fun _ _ _ _ _ _ _ _ _ _ => (R_at ok_Ways_oneDragFrom rfl).trans (e_ald rfl),
  fun _ _ _ _ _ _ _ _ _ _ _ => (R_at ok_Ways_oneDragFrom rfl).trans e_gR,
  fun _ _ _ _ _ _ _ _ _ _ _ => (R_at ok_Ways_oneDragFrom rfl).trans e_gI,
  fun _ _ _ _ _ _ _ _ _ _ _ => (R_at ok_Ways_oneDragFrom rfl).trans e_ic,
  fun _ _ _ _ _ _ _ _ _ => (R_at ok_Ways_oneDragFrom rfl).trans (e_lld rfl),
  fun _ _ _ _ _ _ _ _ _ _ => (R_at ok_Ways_oneDragFrom rfl).trans (e_ild rfl),
  fun _ _ _ _ _ _ _ _ _ _ _ => (R_at ok_Ways_oneDragFrom rfl).trans e_lsh,
  fun _ _ _ _ _ _ _ _ _ _ => (R_at ok_Ways_oneDragFrom rfl).trans e_push,
  fun _ _ _ _ _ _ _ _ _ _ _ => (R_at ok_Ways_oneDragFrom rfl).trans e_lbin,
  fun _ _ _ _ _ _ _ _ _ _ => (R_at ok_Ways_oneDragFrom rfl).trans e_push,
  fun _ _ _ _ _ _ _ _ _ _ _ => (R_at ok_Ways_oneDragFrom rfl).trans e_lcmp,
  fun _ _ _ _ _ _ _ _ _ _ => (R_at ok_Ways_oneDragFrom rfl).trans e_ifn,
  fun _ _ _ _ _ _ _ _ _ => (R_at ok_Ways_oneDragFrom rfl).trans e_goto,
  fun _ _ _ _ _ _ _ _ _ => (R_at ok_Ways_oneDragFrom rfl).trans e_push,
  fun _ _ _ _ _ _ _ _ _ _ => (R_at ok_Ways_oneDragFrom rfl).trans e_ist,
  fun _ _ _ _ _ _ _ _ _ => (R_at ok_Ways_oneDragFrom rfl).trans (e_ild rfl),
  fun _ _ _ _ _ _ _ _ _ _ => (R_at ok_Ways_oneDragFrom rfl).trans e_push,
  fun _ _ _ _ _ _ _ _ _ _ _ => (R_at ok_Ways_oneDragFrom rfl).trans e_ic,
  fun _ _ _ _ _ _ _ _ _ => (R_at ok_Ways_oneDragFrom rfl).trans (e_ald rfl),
  fun _ _ _ _ _ _ _ _ _ _ => (R_at ok_Ways_oneDragFrom rfl).trans e_gR,
  fun _ _ _ _ _ _ _ _ _ _ => (R_at ok_Ways_oneDragFrom rfl).trans (e_ild rfl),
  fun _ _ _ _ _ _ _ _ _ _ _ => (R_at ok_Ways_oneDragFrom rfl).trans (e_ild rfl),
  fun _ _ _ _ _ _ _ _ x0 x1 _ _ => (R_at ok_Ways_oneDragFrom rfl).trans (e_cv [.int x1, .int x0] rfl rfl rfl),
  fun _ _ _ _ _ _ _ _ _ _ => (R_at ok_Ways_oneDragFrom rfl).trans e_ist,
  fun _ _ _ _ _ _ _ _ _ => (R_at ok_Ways_oneDragFrom rfl).trans (e_ild rfl),
  fun _ _ _ _ _ _ _ _ _ _ => (R_at ok_Ways_oneDragFrom rfl).trans e_push,
  fun _ _ _ _ _ _ _ _ _ _ _ => (R_at ok_Ways_oneDragFrom rfl).trans e_ic,
  fun _ _ _ _ _ _ _ _ _ => (R_at ok_Ways_oneDragFrom rfl).trans (e_lld rfl),
  fun _ _ _ _ _ _ _ _ _ _ => (R_at ok_Ways_oneDragFrom rfl).trans (e_ild rfl),
  fun _ _ _ _ _ _ _ _ _ _ _ => (R_at ok_Ways_oneDragFrom rfl).trans e_lsh,
  fun _ _ _ _ _ _ _ _ _ _ => (R_at ok_Ways_oneDragFrom rfl).trans e_push,
  fun _ _ _ _ _ _ _ _ _ _ _ => (R_at ok_Ways_oneDragFrom rfl).trans e_lbin,
  fun _ _ _ _ _ _ _ _ _ _ => (R_at ok_Ways_oneDragFrom rfl).trans e_push,
  fun _ _ _ _ _ _ _ _ _ _ _ => (R_at ok_Ways_oneDragFrom rfl).trans e_lcmp,
  fun _ _ _ _ _ _ _ _ _ _ => (R_at ok_Ways_oneDragFrom rfl).trans e_ifn,
  fun _ _ _ _ _ _ _ _ _ => (R_at ok_Ways_oneDragFrom rfl).trans (e_ald rfl),
  fun _ _ _ _ _ _ _ _ _ _ => (R_at ok_Ways_oneDragFrom rfl).trans (e_ild rfl),
  fun _ _ _ _ _ _ _ _ _ _ _ => (R_at ok_Ways_oneDragFrom rfl).trans (e_ild rfl),
  fun _ _ _ _ _ _ _ _ x0 x1 _ _ => (R_at ok_Ways_oneDragFrom rfl).trans (e_cv [.int x1, .int x0] rfl rfl rfl),
  fun _ _ _ _ _ _ _ _ _ _ => (R_at ok_Ways_oneDragFrom rfl).trans (e_ild rfl),
  fun _ _ _ _ _ _ _ _ _ _ _ => (R_at ok_Ways_oneDragFrom rfl).trans e_ic,
  fun _ _ _ _ _ _ _ _ _ => (R_at ok_Ways_oneDragFrom rfl).trans (e_lld rfl),
  fun _ _ _ _ _ _ _ _ _ _ => (R_at ok_Ways_oneDragFrom rfl).trans e_push,
  fun _ _ _ _ _ _ _ _ _ _ _ => (R_at ok_Ways_oneDragFrom rfl).trans (e_ild rfl),
  fun _ _ _ _ _ _ _ _ _ _ _ _ => (R_at ok_Ways_oneDragFrom rfl).trans e_lsh,
  fun _ _ _ _ _ _ _ _ _ _ _ => (R_at ok_Ways_oneDragFrom rfl).trans e_lbin,
  fun _ _ _ _ _ _ _ _ _ _ => (R_at ok_Ways_oneDragFrom rfl).trans e_lst,
  fun _ _ _ _ _ _ _ _ _ => (R_at ok_Ways_oneDragFrom rfl).trans (e_iinc rfl),
  fun _ _ _ _ _ _ _ _ _ => (R_at ok_Ways_oneDragFrom rfl).trans e_goto,
  fun _ _ _ _ _ _ _ _ _ => (R_at ok_Ways_oneDragFrom rfl).trans (e_iinc rfl),
  fun _ _ _ _ _ _ _ _ _ => (R_at ok_Ways_oneDragFrom rfl).trans e_goto,
  fun _ _ _ _ _ _ _ _ _ => (R_at ok_Ways_oneDragFrom rfl).trans (e_lld rfl),
  fun _ _ _ _ _ _ _ _ _ _ => (R_at ok_Ways_oneDragFrom rfl).trans e_lret⟩
set_option maxHeartbeats 4000000 in
theorem N_Ways_reached (d : Nat) (Q : Qt) : ∀ (x0 : Nat) (x1 : Int64) (x2 : Int32) (τ : St), Cl (d + 1) m_Ways_reached [.ref x0, .long x1, .int x2] τ Q = Ru M_Ways_reached d Q 0 [some (.ref x0), some (.long x1), none, some (.int x2), none, none, none, none, none] [] τ := fun _ _ _ _ => propext ⟨fun h => h.2, fun h => ⟨Nat.le_of_ble_eq_true rfl, h⟩⟩
set_option maxHeartbeats 4000000 in
theorem E_Ways_reached (d : Nat) (Q : Qt) :
    (∀ (a0 : Nat) (a1 : Int64) (a3 : Int32) (τ : St), Ru M_Ways_reached d Q 0 [some (.ref a0), some (.long a1), none, some (.int a3), none, none, none, none, none] [] τ = Ru M_Ways_reached d Q 1 [some (.ref a0), some (.long a1), none, some (.int a3), none, none, none, none, none] [.long a1] τ) ∧
    (∀ (a0 : Nat) (a1 : Int64) (a3 : Int32) (x0 : Int64) (τ : St), Ru M_Ways_reached d Q 1 [some (.ref a0), some (.long a1), none, some (.int a3), none, none, none, none, none] [.long x0] τ = Ru M_Ways_reached d Q 3 [some (.ref a0), some (.long a1), none, some (.int a3), some (.long x0), none, none, none, none] [] τ) ∧
    (∀ (a0 : Nat) (a1 : Int64) (a3 : Int32) (a4 : Int64) (τ : St), Ru M_Ways_reached d Q 3 [some (.ref a0), some (.long a1), none, some (.int a3), some (.long a4), none, none, none, none] [] τ = Ru M_Ways_reached d Q 4 [some (.ref a0), some (.long a1), none, some (.int a3), some (.long a4), none, none, none, none] [.long a1] τ) ∧
    (∀ (a0 : Nat) (a1 : Int64) (a3 : Int32) (a4 : Int64) (x0 : Int64) (τ : St), Ru M_Ways_reached d Q 4 [some (.ref a0), some (.long a1), none, some (.int a3), some (.long a4), none, none, none, none] [.long x0] τ = Ru M_Ways_reached d Q 6 [some (.ref a0), some (.long a1), none, some (.int a3), some (.long a4), none, some (.long x0), none, none] [] τ) ∧
    (∀ (a0 : Nat) (a1 : Int64) (a3 : Int32) (a4 : Int64) (a6 : Int64) (τ : St), Ru M_Ways_reached d Q 6 [some (.ref a0), some (.long a1), none, some (.int a3), some (.long a4), none, some (.long a6), none, none] [] τ = Ru M_Ways_reached d Q 7 [some (.ref a0), some (.long a1), none, some (.int a3), some (.long a4), none, some (.long a6), none, none] [.int 0] τ) ∧
    (∀ (a0 : Nat) (a1 : Int64) (a3 : Int32) (a4 : Int64) (a6 : Int64) (x0 : Int32) (τ : St), Ru M_Ways_reached d Q 7 [some (.ref a0), some (.long a1), none, some (.int a3), some (.long a4), none, some (.long a6), none, none] [.int x0] τ = Rs M_Ways_reached d Q 9 [some (.ref a0), some (.long a1), none, some (.int a3), some (.long a4), none, some (.long a6), none, some (.int x0)] [] τ) ∧
    (∀ (a0 : Nat) (a1 : Int64) (a3 : Int32) (a4 : Int64) (a6 : Int64) (a8 : Int32) (τ : St), Ru M_Ways_reached d Q 9 [some (.ref a0), some (.long a1), none, some (.int a3), some (.long a4), none, some (.long a6), none, some (.int a8)] [] τ = Ru M_Ways_reached d Q 11 [some (.ref a0), some (.long a1), none, some (.int a3), some (.long a4), none, some (.long a6), none, some (.int a8)] [.int a8] τ) ∧
    (∀ (a0 : Nat) (a1 : Int64) (a3 : Int32) (a4 : Int64) (a6 : Int64) (a8 : Int32) (x0 : Int32) (τ : St), Ru M_Ways_reached d Q 11 [some (.ref a0), some (.long a1), none, some (.int a3), some (.long a4), none, some (.long a6), none, some (.int a8)] [.int x0] τ = Ru M_Ways_reached d Q 13 [some (.ref a0), some (.long a1), none, some (.int a3), some (.long a4), none, some (.long a6), none, some (.int a8)] [.int 36, .int x0] τ) ∧
    (∀ (a0 : Nat) (a1 : Int64) (a3 : Int32) (a4 : Int64) (a6 : Int64) (a8 : Int32) (x0 : Int32) (x1 : Int32) (τ : St), Ru M_Ways_reached d Q 13 [some (.ref a0), some (.long a1), none, some (.int a3), some (.long a4), none, some (.long a6), none, some (.int a8)] [.int x0, .int x1] τ = ((x0 ≤ x1 → Ru M_Ways_reached d Q 47 [some (.ref a0), some (.long a1), none, some (.int a3), some (.long a4), none, some (.long a6), none, some (.int a8)] [] τ) ∧ (¬ x0 ≤ x1 → Ru M_Ways_reached d Q 16 [some (.ref a0), some (.long a1), none, some (.int a3), some (.long a4), none, some (.long a6), none, some (.int a8)] [] τ))) ∧
    (∀ (a0 : Nat) (a1 : Int64) (a3 : Int32) (a4 : Int64) (a6 : Int64) (a8 : Int32) (τ : St), Ru M_Ways_reached d Q 16 [some (.ref a0), some (.long a1), none, some (.int a3), some (.long a4), none, some (.long a6), none, some (.int a8)] [] τ = Ru M_Ways_reached d Q 18 [some (.ref a0), some (.long a1), none, some (.int a3), some (.long a4), none, some (.long a6), none, some (.int a8)] [.long a6] τ) ∧
    (∀ (a0 : Nat) (a1 : Int64) (a3 : Int32) (a4 : Int64) (a6 : Int64) (a8 : Int32) (x0 : Int64) (τ : St), Ru M_Ways_reached d Q 18 [some (.ref a0), some (.long a1), none, some (.int a3), some (.long a4), none, some (.long a6), none, some (.int a8)] [.long x0] τ = Ru M_Ways_reached d Q 19 [some (.ref a0), some (.long a1), none, some (.int a3), some (.long a4), none, some (.long a6), none, some (.int a8)] [.long 0, .long x0] τ) ∧
    (∀ (a0 : Nat) (a1 : Int64) (a3 : Int32) (a4 : Int64) (a6 : Int64) (a8 : Int32) (x0 : Int64) (x1 : Int64) (τ : St), Ru M_Ways_reached d Q 19 [some (.ref a0), some (.long a1), none, some (.int a3), some (.long a4), none, some (.long a6), none, some (.int a8)] [.long x0, .long x1] τ = Ru M_Ways_reached d Q 20 [some (.ref a0), some (.long a1), none, some (.int a3), some (.long a4), none, some (.long a6), none, some (.int a8)] [.int (lg_cmp x1 x0)] τ) ∧
    (∀ (a0 : Nat) (a1 : Int64) (a3 : Int32) (a4 : Int64) (a6 : Int64) (a8 : Int32) (x0 : Int32) (τ : St), Ru M_Ways_reached d Q 20 [some (.ref a0), some (.long a1), none, some (.int a3), some (.long a4), none, some (.long a6), none, some (.int a8)] [.int x0] τ = ((x0 = 0 → Ru M_Ways_reached d Q 47 [some (.ref a0), some (.long a1), none, some (.int a3), some (.long a4), none, some (.long a6), none, some (.int a8)] [] τ) ∧ (¬ x0 = 0 → Ru M_Ways_reached d Q 23 [some (.ref a0), some (.long a1), none, some (.int a3), some (.long a4), none, some (.long a6), none, some (.int a8)] [] τ))) ∧
    (∀ (a0 : Nat) (a1 : Int64) (a3 : Int32) (a4 : Int64) (a6 : Int64) (a8 : Int32) (τ : St), Ru M_Ways_reached d Q 23 [some (.ref a0), some (.long a1), none, some (.int a3), some (.long a4), none, some (.long a6), none, some (.int a8)] [] τ = Ru M_Ways_reached d Q 24 [some (.ref a0), some (.long a1), none, some (.int a3), some (.long a4), none, some (.long a6), none, some (.int a8)] [.ref a0] τ) ∧
    (∀ (a0 : Nat) (a1 : Int64) (a3 : Int32) (a4 : Int64) (a6 : Int64) (a8 : Int32) (x0 : Nat) (τ : St), Ru M_Ways_reached d Q 24 [some (.ref a0), some (.long a1), none, some (.int a3), some (.long a4), none, some (.long a6), none, some (.int a8)] [.ref x0] τ = Ru M_Ways_reached d Q 26 [some (.ref a0), some (.long a1), none, some (.int a3), some (.long a4), none, some (.long a6), none, some (.int a8)] [.long a6, .ref x0] τ) ∧
    (∀ (a0 : Nat) (a1 : Int64) (a3 : Int32) (a4 : Int64) (a6 : Int64) (a8 : Int32) (x0 : Int64) (x1 : Nat) (τ : St), Ru M_Ways_reached d Q 26 [some (.ref a0), some (.long a1), none, some (.int a3), some (.long a4), none, some (.long a6), none, some (.int a8)] [.long x0, .ref x1] τ = Ru M_Ways_reached d Q 28 [some (.ref a0), some (.long a1), none, some (.int a3), some (.long a4), none, some (.long a6), none, some (.int a8)] [.long a4, .long x0, .ref x1] τ) ∧
    (∀ (a0 : Nat) (a1 : Int64) (a3 : Int32) (a4 : Int64) (a6 : Int64) (a8 : Int32) (x0 : Int64) (x1 : Int64) (x2 : Nat) (τ : St), Ru M_Ways_reached d Q 28 [some (.ref a0), some (.long a1), none, some (.int a3), some (.long a4), none, some (.long a6), none, some (.int a8)] [.long x0, .long x1, .ref x2] τ = Ru M_Ways_reached d Q 29 [some (.ref a0), some (.long a1), none, some (.int a3), some (.long a4), none, some (.long a6), none, some (.int a8)] [.int a3, .long x0, .long x1, .ref x2] τ) ∧
    (∀ (a0 : Nat) (a1 : Int64) (a3 : Int32) (a4 : Int64) (a6 : Int64) (a8 : Int32) (x0 : Int32) (x1 : Int64) (x2 : Int64) (x3 : Nat) (τ : St), Ru M_Ways_reached d Q 29 [some (.ref a0), some (.long a1), none, some (.int a3), some (.long a4), none, some (.long a6), none, some (.int a8)] [.int x0, .long x1, .long x2, .ref x3] τ = (isA 10 x3 ∧ Cl d m_Ways_oneDragFrom [.ref x3, .long x2, .long x1, .int x0] τ (fun v τ' => Ru M_Ways_reached d Q 32 [some (.ref a0), some (.long a1), none, some (.int a3), some (.long a4), none, some (.long a6), none, some (.int a8)] (v.toList ++ []) τ'))) ∧
    (∀ (a0 : Nat) (a1 : Int64) (a3 : Int32) (a4 : Int64) (a6 : Int64) (a8 : Int32) (x0 : Int64) (τ : St), Ru M_Ways_reached d Q 32 [some (.ref a0), some (.long a1), none, some (.int a3), some (.long a4), none, some (.long a6), none, some (.int a8)] [.long x0] τ = Ru M_Ways_reached d Q 34 [some (.ref a0), some (.long a1), none, some (.int a3), some (.long a4), none, some (.long x0), none, some (.int a8)] [] τ) ∧
    (∀ (a0 : Nat) (a1 : Int64) (a3 : Int32) (a4 : Int64) (a6 : Int64) (a8 : Int32) (τ : St), Ru M_Ways_reached d Q 34 [some (.ref a0), some (.long a1), none, some (.int a3), some (.long a4), none, some (.long a6), none, some (.int a8)] [] τ = Ru M_Ways_reached d Q 36 [some (.ref a0), some (.long a1), none, some (.int a3), some (.long a4), none, some (.long a6), none, some (.int a8)] [.long a4] τ) ∧
    (∀ (a0 : Nat) (a1 : Int64) (a3 : Int32) (a4 : Int64) (a6 : Int64) (a8 : Int32) (x0 : Int64) (τ : St), Ru M_Ways_reached d Q 36 [some (.ref a0), some (.long a1), none, some (.int a3), some (.long a4), none, some (.long a6), none, some (.int a8)] [.long x0] τ = Ru M_Ways_reached d Q 38 [some (.ref a0), some (.long a1), none, some (.int a3), some (.long a4), none, some (.long a6), none, some (.int a8)] [.long a6, .long x0] τ) ∧
    (∀ (a0 : Nat) (a1 : Int64) (a3 : Int32) (a4 : Int64) (a6 : Int64) (a8 : Int32) (x0 : Int64) (x1 : Int64) (τ : St), Ru M_Ways_reached d Q 38 [some (.ref a0), some (.long a1), none, some (.int a3), some (.long a4), none, some (.long a6), none, some (.int a8)] [.long x0, .long x1] τ = Ru M_Ways_reached d Q 39 [some (.ref a0), some (.long a1), none, some (.int a3), some (.long a4), none, some (.long a6), none, some (.int a8)] [.long (x1 ||| x0)] τ) ∧
    (∀ (a0 : Nat) (a1 : Int64) (a3 : Int32) (a4 : Int64) (a6 : Int64) (a8 : Int32) (x0 : Int64) (τ : St), Ru M_Ways_reached d Q 39 [some (.ref a0), some (.long a1), none, some (.int a3), some (.long a4), none, some (.long a6), none, some (.int a8)] [.long x0] τ = Ru M_Ways_reached d Q 41 [some (.ref a0), some (.long a1), none, some (.int a3), some (.long x0), none, some (.long a6), none, some (.int a8)] [] τ) ∧
    (∀ (a0 : Nat) (a1 : Int64) (a3 : Int32) (a4 : Int64) (a6 : Int64) (a8 : Int32) (τ : St), Ru M_Ways_reached d Q 41 [some (.ref a0), some (.long a1), none, some (.int a3), some (.long a4), none, some (.long a6), none, some (.int a8)] [] τ = Ru M_Ways_reached d Q 44 [some (.ref a0), some (.long a1), none, some (.int a3), some (.long a4), none, some (.long a6), none, some (.int (a8 + 1))] [] τ) ∧
    (∀ (a0 : Nat) (a1 : Int64) (a3 : Int32) (a4 : Int64) (a6 : Int64) (a8 : Int32) (τ : St), Ru M_Ways_reached d Q 44 [some (.ref a0), some (.long a1), none, some (.int a3), some (.long a4), none, some (.long a6), none, some (.int a8)] [] τ = Rs M_Ways_reached d Q 9 [some (.ref a0), some (.long a1), none, some (.int a3), some (.long a4), none, some (.long a6), none, some (.int a8)] [] τ) ∧
    (∀ (a0 : Nat) (a1 : Int64) (a3 : Int32) (a4 : Int64) (a6 : Int64) (a8 : Int32) (τ : St), Ru M_Ways_reached d Q 47 [some (.ref a0), some (.long a1), none, some (.int a3), some (.long a4), none, some (.long a6), none, some (.int a8)] [] τ = Ru M_Ways_reached d Q 49 [some (.ref a0), some (.long a1), none, some (.int a3), some (.long a4), none, some (.long a6), none, some (.int a8)] [.long a4] τ) ∧
    (∀ (a0 : Nat) (a1 : Int64) (a3 : Int32) (a4 : Int64) (a6 : Int64) (a8 : Int32) (x0 : Int64) (τ : St), Ru M_Ways_reached d Q 49 [some (.ref a0), some (.long a1), none, some (.int a3), some (.long a4), none, some (.long a6), none, some (.int a8)] [.long x0] τ = Q (some (.long x0)) τ) := ⟨
  fun _ _ _ _ => (R_at ok_Ways_reached rfl).trans (e_lld rfl),
  fun _ _ _ _ _ => (R_at ok_Ways_reached rfl).trans e_lst,
  fun _ _ _ _ _ => (R_at ok_Ways_reached rfl).trans (e_lld rfl),
  fun _ _ _ _ _ _ => (R_at ok_Ways_reached rfl).trans e_lst,
  fun _ _ _ _ _ _ => (R_at ok_Ways_reached rfl).trans e_push,
  fun _ _ _ _ _ _ _ => (R_at ok_Ways_reached rfl).trans e_ist,
  fun _ _ _ _ _ _ _ => (R_at ok_Ways_reached rfl).trans (e_ild rfl),
  fun _ _ _ _ _ _ _ _ => (R_at ok_Ways_reached rfl).trans e_push,
  fun _ _ _ _ _ _ _ _ _ => (R_at ok_Ways_reached rfl).trans e_ic,
  fun _ _ _ _ _ _ _ => (R_at ok_Ways_reached rfl).trans (e_lld rfl),
  fun _ _ _ _ _ _ _ _ => (R_at ok_Ways_reached rfl).trans e_push,
  fun _ _ _ _ _ _ _ _ _ => (R_at ok_Ways_reached rfl).trans e_lcmp,
  fun _ _ _ _ _ _ _ _ => (R_at ok_Ways_reached rfl).trans e_if,
  fun _ _ _ _ _ _ _ => (R_at ok_Ways_reached rfl).trans (e_ald rfl),
  fun _ _ _ _ _ _ _ _ => (R_at ok_Ways_reached rfl).trans (e_lld rfl),
  fun _ _ _ _ _ _ _ _ _ => (R_at ok_Ways_reached rfl).trans (e_lld rfl),
  fun _ _ _ _ _ _ _ _ _ _ => (R_at ok_Ways_reached rfl).trans (e_ild rfl),
  fun _ _ _ _ _ _ x0 x1 x2 _ _ => (R_at ok_Ways_reached rfl).trans (e_cv [.long x2, .long x1, .int x0] rfl rfl rfl),
  fun _ _ _ _ _ _ _ _ => (R_at ok_Ways_reached rfl).trans e_lst,
  fun _ _ _ _ _ _ _ => (R_at ok_Ways_reached rfl).trans (e_lld rfl),
  fun _ _ _ _ _ _ _ _ => (R_at ok_Ways_reached rfl).trans (e_lld rfl),
  fun _ _ _ _ _ _ _ _ _ => (R_at ok_Ways_reached rfl).trans e_lbin,
  fun _ _ _ _ _ _ _ _ => (R_at ok_Ways_reached rfl).trans e_lst,
  fun _ _ _ _ _ _ _ => (R_at ok_Ways_reached rfl).trans (e_iinc rfl),
  fun _ _ _ _ _ _ _ => (R_at ok_Ways_reached rfl).trans e_goto,
  fun _ _ _ _ _ _ _ => (R_at ok_Ways_reached rfl).trans (e_lld rfl),
  fun _ _ _ _ _ _ _ _ => (R_at ok_Ways_reached rfl).trans e_lret⟩
set_option maxHeartbeats 4000000 in
theorem N_Ways_leastMost (d : Nat) (Q : Qt) : ∀ (x0 : Nat) (x1 : Int64) (x2 : Int64) (τ : St), Cl (d + 1) m_Ways_leastMost [.ref x0, .long x1, .long x2] τ Q = Ru M_Ways_leastMost d Q 0 [some (.ref x0), some (.long x1), none, some (.long x2), none, none, none, none, none] [] τ := fun _ _ _ _ => propext ⟨fun h => h.2, fun h => ⟨Nat.le_of_ble_eq_true rfl, h⟩⟩
set_option maxHeartbeats 4000000 in
theorem E_Ways_leastMost (d : Nat) (Q : Qt) :
    (∀ (a0 : Nat) (a1 : Int64) (a3 : Int64) (τ : St), Ru M_Ways_leastMost d Q 0 [some (.ref a0), some (.long a1), none, some (.long a3), none, none, none, none, none] [] τ = Ru M_Ways_leastMost d Q 1 [some (.ref a0), some (.long a1), none, some (.long a3), none, none, none, none, none] [.ref a0] τ) ∧
    (∀ (a0 : Nat) (a1 : Int64) (a3 : Int64) (x0 : Nat) (τ : St), Ru M_Ways_leastMost d Q 1 [some (.ref a0), some (.long a1), none, some (.long a3), none, none, none, none, none] [.ref x0] τ = Ru M_Ways_leastMost d Q 2 [some (.ref a0), some (.long a1), none, some (.long a3), none, none, none, none, none] [.long a1, .ref x0] τ) ∧
    (∀ (a0 : Nat) (a1 : Int64) (a3 : Int64) (x0 : Int64) (x1 : Nat) (τ : St), Ru M_Ways_leastMost d Q 2 [some (.ref a0), some (.long a1), none, some (.long a3), none, none, none, none, none] [.long x0, .ref x1] τ = Ru M_Ways_leastMost d Q 5 [some (.ref a0), some (.long a1), none, some (.long a3), none, none, none, none, none] [.int 1498, .long x0, .ref x1] τ) ∧
    (∀ (a0 : Nat) (a1 : Int64) (a3 : Int64) (x0 : Int32) (x1 : Int64) (x2 : Nat) (τ : St), Ru M_Ways_leastMost d Q 5 [some (.ref a0), some (.long a1), none, some (.long a3), none, none, none, none, none] [.int x0, .long x1, .ref x2] τ = (isA 10 x2 ∧ Cl d m_Ways_reached [.ref x2, .long x1, .int x0] τ (fun v τ' => Ru M_Ways_leastMost d Q 8 [some (.ref a0), some (.long a1), none, some (.long a3), none, none, none, none, none] (v.toList ++ []) τ'))) ∧
    (∀ (a0 : Nat) (a1 : Int64) (a3 : Int64) (x0 : Int64) (τ : St), Ru M_Ways_leastMost d Q 8 [some (.ref a0), some (.long a1), none, some (.long a3), none, none, none, none, none] [.long x0] τ = Ru M_Ways_leastMost d Q 9 [some (.ref a0), some (.long a1), none, some (.long a3), none, none, none, none, none] [.long a3, .long x0] τ) ∧
    (∀ (a0 : Nat) (a1 : Int64) (a3 : Int64) (x0 : Int64) (x1 : Int64) (τ : St), Ru M_Ways_leastMost d Q 9 [some (.ref a0), some (.long a1), none, some (.long a3), none, none, none, none, none] [.long x0, .long x1] τ = Ru M_Ways_leastMost d Q 10 [some (.ref a0), some (.long a1), none, some (.long a3), none, none, none, none, none] [.long (x1 &&& x0)] τ) ∧
    (∀ (a0 : Nat) (a1 : Int64) (a3 : Int64) (x0 : Int64) (τ : St), Ru M_Ways_leastMost d Q 10 [some (.ref a0), some (.long a1), none, some (.long a3), none, none, none, none, none] [.long x0] τ = Ru M_Ways_leastMost d Q 11 [some (.ref a0), some (.long a1), none, some (.long a3), none, none, none, none, none] [.long 0, .long x0] τ) ∧
    (∀ (a0 : Nat) (a1 : Int64) (a3 : Int64) (x0 : Int64) (x1 : Int64) (τ : St), Ru M_Ways_leastMost d Q 11 [some (.ref a0), some (.long a1), none, some (.long a3), none, none, none, none, none] [.long x0, .long x1] τ = Ru M_Ways_leastMost d Q 12 [some (.ref a0), some (.long a1), none, some (.long a3), none, none, none, none, none] [.int (lg_cmp x1 x0)] τ) ∧
    (∀ (a0 : Nat) (a1 : Int64) (a3 : Int64) (x0 : Int32) (τ : St), Ru M_Ways_leastMost d Q 12 [some (.ref a0), some (.long a1), none, some (.long a3), none, none, none, none, none] [.int x0] τ = ((¬ x0 = 0 → Ru M_Ways_leastMost d Q 17 [some (.ref a0), some (.long a1), none, some (.long a3), none, none, none, none, none] [] τ) ∧ (x0 = 0 → Ru M_Ways_leastMost d Q 15 [some (.ref a0), some (.long a1), none, some (.long a3), none, none, none, none, none] [] τ))) ∧
    (∀ (a0 : Nat) (a1 : Int64) (a3 : Int64) (τ : St), Ru M_Ways_leastMost d Q 15 [some (.ref a0), some (.long a1), none, some (.long a3), none, none, none, none, none] [] τ = Ru M_Ways_leastMost d Q 16 [some (.ref a0), some (.long a1), none, some (.long a3), none, none, none, none, none] [.int (-1)] τ) ∧
    (∀ (a0 : Nat) (a1 : Int64) (a3 : Int64) (x0 : Int32) (τ : St), Ru M_Ways_leastMost d Q 16 [some (.ref a0), some (.long a1), none, some (.long a3), none, none, none, none, none] [.int x0] τ = Q (some (.int x0)) τ) ∧
    (∀ (a0 : Nat) (a1 : Int64) (a3 : Int64) (τ : St), Ru M_Ways_leastMost d Q 17 [some (.ref a0), some (.long a1), none, some (.long a3), none, none, none, none, none] [] τ = Ru M_Ways_leastMost d Q 18 [some (.ref a0), some (.long a1), none, some (.long a3), none, none, none, none, none] [.int 0] τ) ∧
    (∀ (a0 : Nat) (a1 : Int64) (a3 : Int64) (x0 : Int32) (τ : St), Ru M_Ways_leastMost d Q 18 [some (.ref a0), some (.long a1), none, some (.long a3), none, none, none, none, none] [.int x0] τ = Ru M_Ways_leastMost d Q 20 [some (.ref a0), some (.long a1), none, some (.long a3), none, some (.int x0), none, none, none] [] τ) ∧
    (∀ (a0 : Nat) (a1 : Int64) (a3 : Int64) (a5 : Int32) (τ : St), Ru M_Ways_leastMost d Q 20 [some (.ref a0), some (.long a1), none, some (.long a3), none, some (.int a5), none, none, none] [] τ = Ru M_Ways_leastMost d Q 23 [some (.ref a0), some (.long a1), none, some (.long a3), none, some (.int a5), none, none, none] [.int 1498] τ) ∧
    (∀ (a0 : Nat) (a1 : Int64) (a3 : Int64) (a5 : Int32) (x0 : Int32) (τ : St), Ru M_Ways_leastMost d Q 23 [some (.ref a0), some (.long a1), none, some (.long a3), none, some (.int a5), none, none, none] [.int x0] τ = Ru M_Ways_leastMost d Q 25 [some (.ref a0), some (.long a1), none, some (.long a3), none, some (.int a5), some (.int x0), none, none] [] τ) ∧
    (∀ (a0 : Nat) (a1 : Int64) (a3 : Int64) (a5 : Int32) (a6 : Int32) (τ : St), Ru M_Ways_leastMost d Q 25 [some (.ref a0), some (.long a1), none, some (.long a3), none, some (.int a5), some (.int a6), none, none] [] τ = Ru M_Ways_leastMost d Q 26 [some (.ref a0), some (.long a1), none, some (.long a3), none, some (.int a5), some (.int a6), none, none] [.int 0] τ) ∧
    (∀ (a0 : Nat) (a1 : Int64) (a3 : Int64) (a5 : Int32) (a6 : Int32) (x0 : Int32) (τ : St), Ru M_Ways_leastMost d Q 26 [some (.ref a0), some (.long a1), none, some (.long a3), none, some (.int a5), some (.int a6), none, none] [.int x0] τ = Rs M_Ways_leastMost d Q 28 [some (.ref a0), some (.long a1), none, some (.long a3), none, some (.int a5), some (.int a6), some (.int x0), none] [] τ) ∧
    (∀ (a0 : Nat) (a1 : Int64) (a3 : Int64) (a5 : Int32) (a6 : Int32) (a7 : Int32) (a8 : Option Value) (τ : St), Ru M_Ways_leastMost d Q 28 [some (.ref a0), some (.long a1), none, some (.long a3), none, some (.int a5), some (.int a6), some (.int a7), a8] [] τ = Ru M_Ways_leastMost d Q 30 [some (.ref a0), some (.long a1), none, some (.long a3), none, some (.int a5), some (.int a6), some (.int a7), a8] [.int a7] τ) ∧
    (∀ (a0 : Nat) (a1 : Int64) (a3 : Int64) (a5 : Int32) (a6 : Int32) (a7 : Int32) (a8 : Option Value) (x0 : Int32) (τ : St), Ru M_Ways_leastMost d Q 30 [some (.ref a0), some (.long a1), none, some (.long a3), none, some (.int a5), some (.int a6), some (.int a7), a8] [.int x0] τ = Ru M_Ways_leastMost d Q 32 [some (.ref a0), some (.long a1), none, some (.long a3), none, some (.int a5), some (.int a6), some (.int a7), a8] [.int 12, .int x0] τ) ∧
    (∀ (a0 : Nat) (a1 : Int64) (a3 : Int64) (a5 : Int32) (a6 : Int32) (a7 : Int32) (a8 : Option Value) (x0 : Int32) (x1 : Int32) (τ : St), Ru M_Ways_leastMost d Q 32 [some (.ref a0), some (.long a1), none, some (.long a3), none, some (.int a5), some (.int a6), some (.int a7), a8] [.int x0, .int x1] τ = ((x0 ≤ x1 → Ru M_Ways_leastMost d Q 84 [some (.ref a0), some (.long a1), none, some (.long a3), none, some (.int a5), some (.int a6), some (.int a7), a8] [] τ) ∧ (¬ x0 ≤ x1 → Ru M_Ways_leastMost d Q 35 [some (.ref a0), some (.long a1), none, some (.long a3), none, some (.int a5), some (.int a6), some (.int a7), a8] [] τ))) ∧
    (∀ (a0 : Nat) (a1 : Int64) (a3 : Int64) (a5 : Int32) (a6 : Int32) (a7 : Int32) (a8 : Option Value) (τ : St), Ru M_Ways_leastMost d Q 35 [some (.ref a0), some (.long a1), none, some (.long a3), none, some (.int a5), some (.int a6), some (.int a7), a8] [] τ = Ru M_Ways_leastMost d Q 37 [some (.ref a0), some (.long a1), none, some (.long a3), none, some (.int a5), some (.int a6), some (.int a7), a8] [.int a5] τ) ∧
    (∀ (a0 : Nat) (a1 : Int64) (a3 : Int64) (a5 : Int32) (a6 : Int32) (a7 : Int32) (a8 : Option Value) (x0 : Int32) (τ : St), Ru M_Ways_leastMost d Q 37 [some (.ref a0), some (.long a1), none, some (.long a3), none, some (.int a5), some (.int a6), some (.int a7), a8] [.int x0] τ = Ru M_Ways_leastMost d Q 39 [some (.ref a0), some (.long a1), none, some (.long a3), none, some (.int a5), some (.int a6), some (.int a7), a8] [.int a6, .int x0] τ) ∧
    (∀ (a0 : Nat) (a1 : Int64) (a3 : Int64) (a5 : Int32) (a6 : Int32) (a7 : Int32) (a8 : Option Value) (x0 : Int32) (x1 : Int32) (τ : St), Ru M_Ways_leastMost d Q 39 [some (.ref a0), some (.long a1), none, some (.long a3), none, some (.int a5), some (.int a6), some (.int a7), a8] [.int x0, .int x1] τ = ((x0 ≤ x1 → Ru M_Ways_leastMost d Q 84 [some (.ref a0), some (.long a1), none, some (.long a3), none, some (.int a5), some (.int a6), some (.int a7), a8] [] τ) ∧ (¬ x0 ≤ x1 → Ru M_Ways_leastMost d Q 42 [some (.ref a0), some (.long a1), none, some (.long a3), none, some (.int a5), some (.int a6), some (.int a7), a8] [] τ))) ∧
    (∀ (a0 : Nat) (a1 : Int64) (a3 : Int64) (a5 : Int32) (a6 : Int32) (a7 : Int32) (a8 : Option Value) (τ : St), Ru M_Ways_leastMost d Q 42 [some (.ref a0), some (.long a1), none, some (.long a3), none, some (.int a5), some (.int a6), some (.int a7), a8] [] τ = Ru M_Ways_leastMost d Q 44 [some (.ref a0), some (.long a1), none, some (.long a3), none, some (.int a5), some (.int a6), some (.int a7), a8] [.int a5] τ) ∧
    (∀ (a0 : Nat) (a1 : Int64) (a3 : Int64) (a5 : Int32) (a6 : Int32) (a7 : Int32) (a8 : Option Value) (x0 : Int32) (τ : St), Ru M_Ways_leastMost d Q 44 [some (.ref a0), some (.long a1), none, some (.long a3), none, some (.int a5), some (.int a6), some (.int a7), a8] [.int x0] τ = Ru M_Ways_leastMost d Q 46 [some (.ref a0), some (.long a1), none, some (.long a3), none, some (.int a5), some (.int a6), some (.int a7), a8] [.int a6, .int x0] τ) ∧
    (∀ (a0 : Nat) (a1 : Int64) (a3 : Int64) (a5 : Int32) (a6 : Int32) (a7 : Int32) (a8 : Option Value) (x0 : Int32) (x1 : Int32) (τ : St), Ru M_Ways_leastMost d Q 46 [some (.ref a0), some (.long a1), none, some (.long a3), none, some (.int a5), some (.int a6), some (.int a7), a8] [.int x0, .int x1] τ = Ru M_Ways_leastMost d Q 47 [some (.ref a0), some (.long a1), none, some (.long a3), none, some (.int a5), some (.int a6), some (.int a7), a8] [.int (x1 + x0)] τ) ∧
    (∀ (a0 : Nat) (a1 : Int64) (a3 : Int64) (a5 : Int32) (a6 : Int32) (a7 : Int32) (a8 : Option Value) (x0 : Int32) (τ : St), Ru M_Ways_leastMost d Q 47 [some (.ref a0), some (.long a1), none, some (.long a3), none, some (.int a5), some (.int a6), some (.int a7), a8] [.int x0] τ = Ru M_Ways_leastMost d Q 48 [some (.ref a0), some (.long a1), none, some (.long a3), none, some (.int a5), some (.int a6), some (.int a7), a8] [.int 2, .int x0] τ) ∧
    (∀ (a0 : Nat) (a1 : Int64) (a3 : Int64) (a5 : Int32) (a6 : Int32) (a7 : Int32) (a8 : Option Value) (x0 : Int32) (x1 : Int32) (τ : St), Ru M_Ways_leastMost d Q 48 [some (.ref a0), some (.long a1), none, some (.long a3), none, some (.int a5), some (.int a6), some (.int a7), a8] [.int x0, .int x1] τ = (¬ x0 = 0 ∧ Ru M_Ways_leastMost d Q 49 [some (.ref a0), some (.long a1), none, some (.long a3), none, some (.int a5), some (.int a6), some (.int a7), a8] [.int (x1 / x0)] τ)) ∧
    (∀ (a0 : Nat) (a1 : Int64) (a3 : Int64) (a5 : Int32) (a6 : Int32) (a7 : Int32) (a8 : Option Value) (x0 : Int32) (τ : St), Ru M_Ways_leastMost d Q 49 [some (.ref a0), some (.long a1), none, some (.long a3), none, some (.int a5), some (.int a6), some (.int a7), a8] [.int x0] τ = Ru M_Ways_leastMost d Q 51 [some (.ref a0), some (.long a1), none, some (.long a3), none, some (.int a5), some (.int a6), some (.int a7), some (.int x0)] [] τ) ∧
    (∀ (a0 : Nat) (a1 : Int64) (a3 : Int64) (a5 : Int32) (a6 : Int32) (a7 : Int32) (a8 : Int32) (τ : St), Ru M_Ways_leastMost d Q 51 [some (.ref a0), some (.long a1), none, some (.long a3), none, some (.int a5), some (.int a6), some (.int a7), some (.int a8)] [] τ = Ru M_Ways_leastMost d Q 52 [some (.ref a0), some (.long a1), none, some (.long a3), none, some (.int a5), some (.int a6), some (.int a7), some (.int a8)] [.ref a0] τ) ∧
    (∀ (a0 : Nat) (a1 : Int64) (a3 : Int64) (a5 : Int32) (a6 : Int32) (a7 : Int32) (a8 : Int32) (x0 : Nat) (τ : St), Ru M_Ways_leastMost d Q 52 [some (.ref a0), some (.long a1), none, some (.long a3), none, some (.int a5), some (.int a6), some (.int a7), some (.int a8)] [.ref x0] τ = Ru M_Ways_leastMost d Q 53 [some (.ref a0), some (.long a1), none, some (.long a3), none, some (.int a5), some (.int a6), some (.int a7), some (.int a8)] [.long a1, .ref x0] τ) ∧
    (∀ (a0 : Nat) (a1 : Int64) (a3 : Int64) (a5 : Int32) (a6 : Int32) (a7 : Int32) (a8 : Int32) (x0 : Int64) (x1 : Nat) (τ : St), Ru M_Ways_leastMost d Q 53 [some (.ref a0), some (.long a1), none, some (.long a3), none, some (.int a5), some (.int a6), some (.int a7), some (.int a8)] [.long x0, .ref x1] τ = Ru M_Ways_leastMost d Q 55 [some (.ref a0), some (.long a1), none, some (.long a3), none, some (.int a5), some (.int a6), some (.int a7), some (.int a8)] [.int a8, .long x0, .ref x1] τ) ∧
    (∀ (a0 : Nat) (a1 : Int64) (a3 : Int64) (a5 : Int32) (a6 : Int32) (a7 : Int32) (a8 : Int32) (x0 : Int32) (x1 : Int64) (x2 : Nat) (τ : St), Ru M_Ways_leastMost d Q 55 [some (.ref a0), some (.long a1), none, some (.long a3), none, some (.int a5), some (.int a6), some (.int a7), some (.int a8)] [.int x0, .long x1, .ref x2] τ = (isA 10 x2 ∧ Cl d m_Ways_reached [.ref x2, .long x1, .int x0] τ (fun v τ' => Ru M_Ways_leastMost d Q 58 [some (.ref a0), some (.long a1), none, some (.long a3), none, some (.int a5), some (.int a6), some (.int a7), some (.int a8)] (v.toList ++ []) τ'))) ∧
    (∀ (a0 : Nat) (a1 : Int64) (a3 : Int64) (a5 : Int32) (a6 : Int32) (a7 : Int32) (a8 : Int32) (x0 : Int64) (τ : St), Ru M_Ways_leastMost d Q 58 [some (.ref a0), some (.long a1), none, some (.long a3), none, some (.int a5), some (.int a6), some (.int a7), some (.int a8)] [.long x0] τ = Ru M_Ways_leastMost d Q 59 [some (.ref a0), some (.long a1), none, some (.long a3), none, some (.int a5), some (.int a6), some (.int a7), some (.int a8)] [.long a3, .long x0] τ) ∧
    (∀ (a0 : Nat) (a1 : Int64) (a3 : Int64) (a5 : Int32) (a6 : Int32) (a7 : Int32) (a8 : Int32) (x0 : Int64) (x1 : Int64) (τ : St), Ru M_Ways_leastMost d Q 59 [some (.ref a0), some (.long a1), none, some (.long a3), none, some (.int a5), some (.int a6), some (.int a7), some (.int a8)] [.long x0, .long x1] τ = Ru M_Ways_leastMost d Q 60 [some (.ref a0), some (.long a1), none, some (.long a3), none, some (.int a5), some (.int a6), some (.int a7), some (.int a8)] [.long (x1 &&& x0)] τ) ∧
    (∀ (a0 : Nat) (a1 : Int64) (a3 : Int64) (a5 : Int32) (a6 : Int32) (a7 : Int32) (a8 : Int32) (x0 : Int64) (τ : St), Ru M_Ways_leastMost d Q 60 [some (.ref a0), some (.long a1), none, some (.long a3), none, some (.int a5), some (.int a6), some (.int a7), some (.int a8)] [.long x0] τ = Ru M_Ways_leastMost d Q 61 [some (.ref a0), some (.long a1), none, some (.long a3), none, some (.int a5), some (.int a6), some (.int a7), some (.int a8)] [.long 0, .long x0] τ) ∧
    (∀ (a0 : Nat) (a1 : Int64) (a3 : Int64) (a5 : Int32) (a6 : Int32) (a7 : Int32) (a8 : Int32) (x0 : Int64) (x1 : Int64) (τ : St), Ru M_Ways_leastMost d Q 61 [some (.ref a0), some (.long a1), none, some (.long a3), none, some (.int a5), some (.int a6), some (.int a7), some (.int a8)] [.long x0, .long x1] τ = Ru M_Ways_leastMost d Q 62 [some (.ref a0), some (.long a1), none, some (.long a3), none, some (.int a5), some (.int a6), some (.int a7), some (.int a8)] [.int (lg_cmp x1 x0)] τ) ∧
    (∀ (a0 : Nat) (a1 : Int64) (a3 : Int64) (a5 : Int32) (a6 : Int32) (a7 : Int32) (a8 : Int32) (x0 : Int32) (τ : St), Ru M_Ways_leastMost d Q 62 [some (.ref a0), some (.long a1), none, some (.long a3), none, some (.int a5), some (.int a6), some (.int a7), some (.int a8)] [.int x0] τ = ((¬ x0 = 0 → Ru M_Ways_leastMost d Q 74 [some (.ref a0), some (.long a1), none, some (.long a3), none, some (.int a5), some (.int a6), some (.int a7), some (.int a8)] [] τ) ∧ (x0 = 0 → Ru M_Ways_leastMost d Q 65 [some (.ref a0), some (.long a1), none, some (.long a3), none, some (.int a5), some (.int a6), some (.int a7), some (.int a8)] [] τ))) ∧
    (∀ (a0 : Nat) (a1 : Int64) (a3 : Int64) (a5 : Int32) (a6 : Int32) (a7 : Int32) (a8 : Int32) (τ : St), Ru M_Ways_leastMost d Q 65 [some (.ref a0), some (.long a1), none, some (.long a3), none, some (.int a5), some (.int a6), some (.int a7), some (.int a8)] [] τ = Ru M_Ways_leastMost d Q 67 [some (.ref a0), some (.long a1), none, some (.long a3), none, some (.int a5), some (.int a6), some (.int a7), some (.int a8)] [.int a8] τ) ∧
    (∀ (a0 : Nat) (a1 : Int64) (a3 : Int64) (a5 : Int32) (a6 : Int32) (a7 : Int32) (a8 : Int32) (x0 : Int32) (τ : St), Ru M_Ways_leastMost d Q 67 [some (.ref a0), some (.long a1), none, some (.long a3), none, some (.int a5), some (.int a6), some (.int a7), some (.int a8)] [.int x0] τ = Ru M_Ways_leastMost d Q 68 [some (.ref a0), some (.long a1), none, some (.long a3), none, some (.int a5), some (.int a6), some (.int a7), some (.int a8)] [.int 1, .int x0] τ) ∧
    (∀ (a0 : Nat) (a1 : Int64) (a3 : Int64) (a5 : Int32) (a6 : Int32) (a7 : Int32) (a8 : Int32) (x0 : Int32) (x1 : Int32) (τ : St), Ru M_Ways_leastMost d Q 68 [some (.ref a0), some (.long a1), none, some (.long a3), none, some (.int a5), some (.int a6), some (.int a7), some (.int a8)] [.int x0, .int x1] τ = Ru M_Ways_leastMost d Q 69 [some (.ref a0), some (.long a1), none, some (.long a3), none, some (.int a5), some (.int a6), some (.int a7), some (.int a8)] [.int (x1 + x0)] τ) ∧
    (∀ (a0 : Nat) (a1 : Int64) (a3 : Int64) (a5 : Int32) (a6 : Int32) (a7 : Int32) (a8 : Int32) (x0 : Int32) (τ : St), Ru M_Ways_leastMost d Q 69 [some (.ref a0), some (.long a1), none, some (.long a3), none, some (.int a5), some (.int a6), some (.int a7), some (.int a8)] [.int x0] τ = Ru M_Ways_leastMost d Q 71 [some (.ref a0), some (.long a1), none, some (.long a3), none, some (.int x0), some (.int a6), some (.int a7), some (.int a8)] [] τ) ∧
    (∀ (a0 : Nat) (a1 : Int64) (a3 : Int64) (a5 : Int32) (a6 : Int32) (a7 : Int32) (a8 : Int32) (τ : St), Ru M_Ways_leastMost d Q 71 [some (.ref a0), some (.long a1), none, some (.long a3), none, some (.int a5), some (.int a6), some (.int a7), some (.int a8)] [] τ = Ru M_Ways_leastMost d Q 78 [some (.ref a0), some (.long a1), none, some (.long a3), none, some (.int a5), some (.int a6), some (.int a7), some (.int a8)] [] τ) ∧
    (∀ (a0 : Nat) (a1 : Int64) (a3 : Int64) (a5 : Int32) (a6 : Int32) (a7 : Int32) (a8 : Int32) (τ : St), Ru M_Ways_leastMost d Q 74 [some (.ref a0), some (.long a1), none, some (.long a3), none, some (.int a5), some (.int a6), some (.int a7), some (.int a8)] [] τ = Ru M_Ways_leastMost d Q 76 [some (.ref a0), some (.long a1), none, some (.long a3), none, some (.int a5), some (.int a6), some (.int a7), some (.int a8)] [.int a8] τ) ∧
    (∀ (a0 : Nat) (a1 : Int64) (a3 : Int64) (a5 : Int32) (a6 : Int32) (a7 : Int32) (a8 : Int32) (x0 : Int32) (τ : St), Ru M_Ways_leastMost d Q 76 [some (.ref a0), some (.long a1), none, some (.long a3), none, some (.int a5), some (.int a6), some (.int a7), some (.int a8)] [.int x0] τ = Ru M_Ways_leastMost d Q 78 [some (.ref a0), some (.long a1), none, some (.long a3), none, some (.int a5), some (.int x0), some (.int a7), some (.int a8)] [] τ) ∧
    (∀ (a0 : Nat) (a1 : Int64) (a3 : Int64) (a5 : Int32) (a6 : Int32) (a7 : Int32) (a8 : Int32) (τ : St), Ru M_Ways_leastMost d Q 78 [some (.ref a0), some (.long a1), none, some (.long a3), none, some (.int a5), some (.int a6), some (.int a7), some (.int a8)] [] τ = Ru M_Ways_leastMost d Q 81 [some (.ref a0), some (.long a1), none, some (.long a3), none, some (.int a5), some (.int a6), some (.int (a7 + 1)), some (.int a8)] [] τ) ∧
    (∀ (a0 : Nat) (a1 : Int64) (a3 : Int64) (a5 : Int32) (a6 : Int32) (a7 : Int32) (a8 : Int32) (τ : St), Ru M_Ways_leastMost d Q 81 [some (.ref a0), some (.long a1), none, some (.long a3), none, some (.int a5), some (.int a6), some (.int a7), some (.int a8)] [] τ = Rs M_Ways_leastMost d Q 28 [some (.ref a0), some (.long a1), none, some (.long a3), none, some (.int a5), some (.int a6), some (.int a7), some (.int a8)] [] τ) ∧
    (∀ (a0 : Nat) (a1 : Int64) (a3 : Int64) (a5 : Int32) (a6 : Int32) (a7 : Int32) (a8 : Option Value) (τ : St), Ru M_Ways_leastMost d Q 84 [some (.ref a0), some (.long a1), none, some (.long a3), none, some (.int a5), some (.int a6), some (.int a7), a8] [] τ = Ru M_Ways_leastMost d Q 86 [some (.ref a0), some (.long a1), none, some (.long a3), none, some (.int a5), some (.int a6), some (.int a7), a8] [.int a6] τ) ∧
    (∀ (a0 : Nat) (a1 : Int64) (a3 : Int64) (a5 : Int32) (a6 : Int32) (a7 : Int32) (a8 : Option Value) (x0 : Int32) (τ : St), Ru M_Ways_leastMost d Q 86 [some (.ref a0), some (.long a1), none, some (.long a3), none, some (.int a5), some (.int a6), some (.int a7), a8] [.int x0] τ = Q (some (.int x0)) τ) := ⟨
  fun _ _ _ _ => (R_at ok_Ways_leastMost rfl).trans (e_ald rfl),
  fun _ _ _ _ _ => (R_at ok_Ways_leastMost rfl).trans (e_lld rfl),
  fun _ _ _ _ _ _ => (R_at ok_Ways_leastMost rfl).trans e_push,
  fun _ _ _ x0 x1 _ _ => (R_at ok_Ways_leastMost rfl).trans (e_cv [.long x1, .int x0] rfl rfl rfl),
  fun _ _ _ _ _ => (R_at ok_Ways_leastMost rfl).trans (e_lld rfl),
  fun _ _ _ _ _ _ => (R_at ok_Ways_leastMost rfl).trans e_lbin,
  fun _ _ _ _ _ => (R_at ok_Ways_leastMost rfl).trans e_push,
  fun _ _ _ _ _ _ => (R_at ok_Ways_leastMost rfl).trans e_lcmp,
  fun _ _ _ _ _ => (R_at ok_Ways_leastMost rfl).trans e_ifn,
  fun _ _ _ _ => (R_at ok_Ways_leastMost rfl).trans e_push,
  fun _ _ _ _ _ => (R_at ok_Ways_leastMost rfl).trans e_iret,
  fun _ _ _ _ => (R_at ok_Ways_leastMost rfl).trans e_push,
  fun _ _ _ _ _ => (R_at ok_Ways_leastMost rfl).trans e_ist,
  fun _ _ _ _ _ => (R_at ok_Ways_leastMost rfl).trans e_push,
  fun _ _ _ _ _ _ => (R_at ok_Ways_leastMost rfl).trans e_ist,
  fun _ _ _ _ _ _ => (R_at ok_Ways_leastMost rfl).trans e_push,
  fun _ _ _ _ _ _ _ => (R_at ok_Ways_leastMost rfl).trans e_ist,
  fun _ _ _ _ _ _ _ _ => (R_at ok_Ways_leastMost rfl).trans (e_ild rfl),
  fun _ _ _ _ _ _ _ _ _ => (R_at ok_Ways_leastMost rfl).trans e_push,
  fun _ _ _ _ _ _ _ _ _ _ => (R_at ok_Ways_leastMost rfl).trans e_ic,
  fun _ _ _ _ _ _ _ _ => (R_at ok_Ways_leastMost rfl).trans (e_ild rfl),
  fun _ _ _ _ _ _ _ _ _ => (R_at ok_Ways_leastMost rfl).trans (e_ild rfl),
  fun _ _ _ _ _ _ _ _ _ _ => (R_at ok_Ways_leastMost rfl).trans e_ic,
  fun _ _ _ _ _ _ _ _ => (R_at ok_Ways_leastMost rfl).trans (e_ild rfl),
  fun _ _ _ _ _ _ _ _ _ => (R_at ok_Ways_leastMost rfl).trans (e_ild rfl),
  fun _ _ _ _ _ _ _ _ _ _ => (R_at ok_Ways_leastMost rfl).trans e_bin,
  fun _ _ _ _ _ _ _ _ _ => (R_at ok_Ways_leastMost rfl).trans e_push,
  fun _ _ _ _ _ _ _ _ _ _ => (R_at ok_Ways_leastMost rfl).trans e_binz,
  fun _ _ _ _ _ _ _ _ _ => (R_at ok_Ways_leastMost rfl).trans e_ist,
  fun _ _ _ _ _ _ _ _ => (R_at ok_Ways_leastMost rfl).trans (e_ald rfl),
  fun _ _ _ _ _ _ _ _ _ => (R_at ok_Ways_leastMost rfl).trans (e_lld rfl),
  fun _ _ _ _ _ _ _ _ _ _ => (R_at ok_Ways_leastMost rfl).trans (e_ild rfl),
  fun _ _ _ _ _ _ _ x0 x1 _ _ => (R_at ok_Ways_leastMost rfl).trans (e_cv [.long x1, .int x0] rfl rfl rfl),
  fun _ _ _ _ _ _ _ _ _ => (R_at ok_Ways_leastMost rfl).trans (e_lld rfl),
  fun _ _ _ _ _ _ _ _ _ _ => (R_at ok_Ways_leastMost rfl).trans e_lbin,
  fun _ _ _ _ _ _ _ _ _ => (R_at ok_Ways_leastMost rfl).trans e_push,
  fun _ _ _ _ _ _ _ _ _ _ => (R_at ok_Ways_leastMost rfl).trans e_lcmp,
  fun _ _ _ _ _ _ _ _ _ => (R_at ok_Ways_leastMost rfl).trans e_ifn,
  fun _ _ _ _ _ _ _ _ => (R_at ok_Ways_leastMost rfl).trans (e_ild rfl),
  fun _ _ _ _ _ _ _ _ _ => (R_at ok_Ways_leastMost rfl).trans e_push,
  fun _ _ _ _ _ _ _ _ _ _ => (R_at ok_Ways_leastMost rfl).trans e_bin,
  fun _ _ _ _ _ _ _ _ _ => (R_at ok_Ways_leastMost rfl).trans e_ist,
  fun _ _ _ _ _ _ _ _ => (R_at ok_Ways_leastMost rfl).trans e_goto,
  fun _ _ _ _ _ _ _ _ => (R_at ok_Ways_leastMost rfl).trans (e_ild rfl),
  fun _ _ _ _ _ _ _ _ _ => (R_at ok_Ways_leastMost rfl).trans e_ist,
  fun _ _ _ _ _ _ _ _ => (R_at ok_Ways_leastMost rfl).trans (e_iinc rfl),
  fun _ _ _ _ _ _ _ _ => (R_at ok_Ways_leastMost rfl).trans e_goto,
  fun _ _ _ _ _ _ _ _ => (R_at ok_Ways_leastMost rfl).trans (e_ild rfl),
  fun _ _ _ _ _ _ _ _ _ => (R_at ok_Ways_leastMost rfl).trans e_iret⟩
set_option maxHeartbeats 4000000 in
theorem N_Ways_crosses (d : Nat) (Q : Qt) : ∀ (x0 : Nat) (x1 : Int32) (τ : St), Cl (d + 1) m_Ways_crosses [.ref x0, .int x1] τ Q = Ru M_Ways_crosses d Q 0 [some (.ref x0), some (.int x1)] [] τ := fun _ _ _ => propext ⟨fun h => h.2, fun h => ⟨Nat.le_of_ble_eq_true rfl, h⟩⟩
set_option maxHeartbeats 4000000 in
theorem E_Ways_crosses (d : Nat) (Q : Qt) :
    (∀ (a0 : Nat) (a1 : Int32) (τ : St), Ru M_Ways_crosses d Q 0 [some (.ref a0), some (.int a1)] [] τ = Ru M_Ways_crosses d Q 1 [some (.ref a0), some (.int a1)] [.ref a0] τ) ∧
    (∀ (a0 : Nat) (a1 : Int32) (x0 : Nat) (τ : St), Ru M_Ways_crosses d Q 1 [some (.ref a0), some (.int a1)] [.ref x0] τ = Ru M_Ways_crosses d Q 2 [some (.ref a0), some (.int a1)] [.ref a0, .ref x0] τ) ∧
    (∀ (a0 : Nat) (a1 : Int32) (x0 : Nat) (x1 : Nat) (τ : St), Ru M_Ways_crosses d Q 2 [some (.ref a0), some (.int a1)] [.ref x0, .ref x1] τ = (isA 10 x0 ∧ Ru M_Ways_crosses d Q 5 [some (.ref a0), some (.int a1)] [.ref (rtab x0 0), .ref x1] τ)) ∧
    (∀ (a0 : Nat) (a1 : Int32) (x0 : Nat) (x1 : Nat) (τ : St), Ru M_Ways_crosses d Q 5 [some (.ref a0), some (.int a1)] [.ref x0, .ref x1] τ = (isA 0 x0 ∧ Ru M_Ways_crosses d Q 8 [some (.ref a0), some (.int a1)] [.long (τ.2 x0 7), .ref x1] τ)) ∧
    (∀ (a0 : Nat) (a1 : Int32) (x0 : Int64) (x1 : Nat) (τ : St), Ru M_Ways_crosses d Q 8 [some (.ref a0), some (.int a1)] [.long x0, .ref x1] τ = Ru M_Ways_crosses d Q 9 [some (.ref a0), some (.int a1)] [.int a1, .long x0, .ref x1] τ) ∧
    (∀ (a0 : Nat) (a1 : Int32) (x0 : Int32) (x1 : Int64) (x2 : Nat) (τ : St), Ru M_Ways_crosses d Q 9 [some (.ref a0), some (.int a1)] [.int x0, .long x1, .ref x2] τ = (isA 10 x2 ∧ Cl d m_Ways_reached [.ref x2, .long x1, .int x0] τ (fun v τ' => Ru M_Ways_crosses d Q 12 [some (.ref a0), some (.int a1)] (v.toList ++ []) τ'))) ∧
    (∀ (a0 : Nat) (a1 : Int32) (x0 : Int64) (τ : St), Ru M_Ways_crosses d Q 12 [some (.ref a0), some (.int a1)] [.long x0] τ = Ru M_Ways_crosses d Q 13 [some (.ref a0), some (.int a1)] [.ref a0, .long x0] τ) ∧
    (∀ (a0 : Nat) (a1 : Int32) (x0 : Nat) (x1 : Int64) (τ : St), Ru M_Ways_crosses d Q 13 [some (.ref a0), some (.int a1)] [.ref x0, .long x1] τ = (isA 10 x0 ∧ Ru M_Ways_crosses d Q 16 [some (.ref a0), some (.int a1)] [.ref (rtab x0 0), .long x1] τ)) ∧
    (∀ (a0 : Nat) (a1 : Int32) (x0 : Nat) (x1 : Int64) (τ : St), Ru M_Ways_crosses d Q 16 [some (.ref a0), some (.int a1)] [.ref x0, .long x1] τ = (isA 0 x0 ∧ Ru M_Ways_crosses d Q 19 [some (.ref a0), some (.int a1)] [.long (τ.2 x0 8), .long x1] τ)) ∧
    (∀ (a0 : Nat) (a1 : Int32) (x0 : Int64) (x1 : Int64) (τ : St), Ru M_Ways_crosses d Q 19 [some (.ref a0), some (.int a1)] [.long x0, .long x1] τ = Ru M_Ways_crosses d Q 20 [some (.ref a0), some (.int a1)] [.long (x1 &&& x0)] τ) ∧
    (∀ (a0 : Nat) (a1 : Int32) (x0 : Int64) (τ : St), Ru M_Ways_crosses d Q 20 [some (.ref a0), some (.int a1)] [.long x0] τ = Ru M_Ways_crosses d Q 21 [some (.ref a0), some (.int a1)] [.long 0, .long x0] τ) ∧
    (∀ (a0 : Nat) (a1 : Int32) (x0 : Int64) (x1 : Int64) (τ : St), Ru M_Ways_crosses d Q 21 [some (.ref a0), some (.int a1)] [.long x0, .long x1] τ = Ru M_Ways_crosses d Q 22 [some (.ref a0), some (.int a1)] [.int (lg_cmp x1 x0)] τ) ∧
    (∀ (a0 : Nat) (a1 : Int32) (x0 : Int32) (τ : St), Ru M_Ways_crosses d Q 22 [some (.ref a0), some (.int a1)] [.int x0] τ = ((x0 = 0 → Ru M_Ways_crosses d Q 29 [some (.ref a0), some (.int a1)] [] τ) ∧ (¬ x0 = 0 → Ru M_Ways_crosses d Q 25 [some (.ref a0), some (.int a1)] [] τ))) ∧
    (∀ (a0 : Nat) (a1 : Int32) (τ : St), Ru M_Ways_crosses d Q 25 [some (.ref a0), some (.int a1)] [] τ = Ru M_Ways_crosses d Q 26 [some (.ref a0), some (.int a1)] [.int 1] τ) ∧
    (∀ (a0 : Nat) (a1 : Int32) (x0 : Int32) (τ : St), Ru M_Ways_crosses d Q 26 [some (.ref a0), some (.int a1)] [.int x0] τ = Ru M_Ways_crosses d Q 30 [some (.ref a0), some (.int a1)] [.int x0] τ) ∧
    (∀ (a0 : Nat) (a1 : Int32) (τ : St), Ru M_Ways_crosses d Q 29 [some (.ref a0), some (.int a1)] [] τ = Ru M_Ways_crosses d Q 30 [some (.ref a0), some (.int a1)] [.int 0] τ) ∧
    (∀ (a0 : Nat) (a1 : Int32) (x0 : Int32) (τ : St), Ru M_Ways_crosses d Q 30 [some (.ref a0), some (.int a1)] [.int x0] τ = ((x0 = 0 ∨ x0 = 1) ∧ Q (some (.int x0)) τ)) := ⟨
  fun _ _ _ => (R_at ok_Ways_crosses rfl).trans (e_ald rfl),
  fun _ _ _ _ => (R_at ok_Ways_crosses rfl).trans (e_ald rfl),
  fun _ _ _ _ _ => (R_at ok_Ways_crosses rfl).trans e_gR,
  fun _ _ _ _ _ => (R_at ok_Ways_crosses rfl).trans e_gL,
  fun _ _ _ _ _ => (R_at ok_Ways_crosses rfl).trans (e_ild rfl),
  fun _ _ x0 x1 _ _ => (R_at ok_Ways_crosses rfl).trans (e_cv [.long x1, .int x0] rfl rfl rfl),
  fun _ _ _ _ => (R_at ok_Ways_crosses rfl).trans (e_ald rfl),
  fun _ _ _ _ _ => (R_at ok_Ways_crosses rfl).trans e_gR,
  fun _ _ _ _ _ => (R_at ok_Ways_crosses rfl).trans e_gL,
  fun _ _ _ _ _ => (R_at ok_Ways_crosses rfl).trans e_lbin,
  fun _ _ _ _ => (R_at ok_Ways_crosses rfl).trans e_push,
  fun _ _ _ _ _ => (R_at ok_Ways_crosses rfl).trans e_lcmp,
  fun _ _ _ _ => (R_at ok_Ways_crosses rfl).trans e_if,
  fun _ _ _ => (R_at ok_Ways_crosses rfl).trans e_push,
  fun _ _ _ _ => (R_at ok_Ways_crosses rfl).trans e_goto,
  fun _ _ _ => (R_at ok_Ways_crosses rfl).trans e_push,
  fun _ _ _ _ => (R_at ok_Ways_crosses rfl).trans e_zret⟩
set_option maxHeartbeats 4000000 in
theorem N_Ways_startLaying (d : Nat) (Q : Qt) : ∀ (x0 : Nat) (τ : St), Cl (d + 1) m_Ways_startLaying [.ref x0] τ Q = Ru M_Ways_startLaying d Q 0 [some (.ref x0)] [] τ := fun _ _ => propext ⟨fun h => h.2, fun h => ⟨Nat.le_of_ble_eq_true rfl, h⟩⟩
set_option maxHeartbeats 4000000 in
theorem E_Ways_startLaying (d : Nat) (Q : Qt) :
    (∀ (a0 : Nat) (τ : St), Ru M_Ways_startLaying d Q 0 [some (.ref a0)] [] τ = Ru M_Ways_startLaying d Q 1 [some (.ref a0)] [.ref a0] τ) ∧
    (∀ (a0 : Nat) (x0 : Nat) (τ : St), Ru M_Ways_startLaying d Q 1 [some (.ref a0)] [.ref x0] τ = Ru M_Ways_startLaying d Q 4 [some (.ref a0)] [.int 1499, .ref x0] τ) ∧
    (∀ (a0 : Nat) (x0 : Int32) (x1 : Nat) (τ : St), Ru M_Ways_startLaying d Q 4 [some (.ref a0)] [.int x0, .ref x1] τ = (isA 10 x1 ∧ Ru M_Ways_startLaying d Q 7 [some (.ref a0)] [] (sI τ x1 6 x0))) ∧
    (∀ (a0 : Nat) (τ : St), Ru M_Ways_startLaying d Q 7 [some (.ref a0)] [] τ = Ru M_Ways_startLaying d Q 8 [some (.ref a0)] [.ref a0] τ) ∧
    (∀ (a0 : Nat) (x0 : Nat) (τ : St), Ru M_Ways_startLaying d Q 8 [some (.ref a0)] [.ref x0] τ = Ru M_Ways_startLaying d Q 9 [some (.ref a0)] [.long 0, .ref x0] τ) ∧
    (∀ (a0 : Nat) (x0 : Int64) (x1 : Nat) (τ : St), Ru M_Ways_startLaying d Q 9 [some (.ref a0)] [.long x0, .ref x1] τ = (isA 10 x1 ∧ Ru M_Ways_startLaying d Q 12 [some (.ref a0)] [] (sL τ x1 7 x0))) ∧
    (∀ (a0 : Nat) (τ : St), Ru M_Ways_startLaying d Q 12 [some (.ref a0)] [] τ = Q none τ) := ⟨
  fun _ _ => (R_at ok_Ways_startLaying rfl).trans (e_ald rfl),
  fun _ _ _ => (R_at ok_Ways_startLaying rfl).trans e_push,
  fun _ _ _ _ => (R_at ok_Ways_startLaying rfl).trans e_pI,
  fun _ _ => (R_at ok_Ways_startLaying rfl).trans (e_ald rfl),
  fun _ _ _ => (R_at ok_Ways_startLaying rfl).trans e_push,
  fun _ _ _ _ => (R_at ok_Ways_startLaying rfl).trans e_pL,
  fun _ _ => (R_at ok_Ways_startLaying rfl).trans e_vret⟩
set_option maxHeartbeats 4000000 in
theorem N_Ways_tryPlanks (d : Nat) (Q : Qt) : ∀ (x0 : Nat) (x1 : Int64) (x2 : Int64) (τ : St), Cl (d + 1) m_Ways_tryPlanks [.ref x0, .long x1, .long x2] τ Q = Ru M_Ways_tryPlanks d Q 0 [some (.ref x0), some (.long x1), none, some (.long x2), none] [] τ := fun _ _ _ _ => propext ⟨fun h => h.2, fun h => ⟨Nat.le_of_ble_eq_true rfl, h⟩⟩
set_option maxHeartbeats 4000000 in
theorem E_Ways_tryPlanks (d : Nat) (Q : Qt) :
    (∀ (a0 : Nat) (a1 : Int64) (a3 : Int64) (τ : St), Ru M_Ways_tryPlanks d Q 0 [some (.ref a0), some (.long a1), none, some (.long a3), none] [] τ = Ru M_Ways_tryPlanks d Q 1 [some (.ref a0), some (.long a1), none, some (.long a3), none] [.ref a0] τ) ∧
    (∀ (a0 : Nat) (a1 : Int64) (a3 : Int64) (x0 : Nat) (τ : St), Ru M_Ways_tryPlanks d Q 1 [some (.ref a0), some (.long a1), none, some (.long a3), none] [.ref x0] τ = Ru M_Ways_tryPlanks d Q 2 [some (.ref a0), some (.long a1), none, some (.long a3), none] [.long a1, .ref x0] τ) ∧
    (∀ (a0 : Nat) (a1 : Int64) (a3 : Int64) (x0 : Int64) (x1 : Nat) (τ : St), Ru M_Ways_tryPlanks d Q 2 [some (.ref a0), some (.long a1), none, some (.long a3), none] [.long x0, .ref x1] τ = Ru M_Ways_tryPlanks d Q 3 [some (.ref a0), some (.long a1), none, some (.long a3), none] [.long a3, .long x0, .ref x1] τ) ∧
    (∀ (a0 : Nat) (a1 : Int64) (a3 : Int64) (x0 : Int64) (x1 : Int64) (x2 : Nat) (τ : St), Ru M_Ways_tryPlanks d Q 3 [some (.ref a0), some (.long a1), none, some (.long a3), none] [.long x0, .long x1, .ref x2] τ = Ru M_Ways_tryPlanks d Q 4 [some (.ref a0), some (.long a1), none, some (.long a3), none] [.long (x1 ||| x0), .ref x2] τ) ∧
    (∀ (a0 : Nat) (a1 : Int64) (a3 : Int64) (x0 : Int64) (x1 : Nat) (τ : St), Ru M_Ways_tryPlanks d Q 4 [some (.ref a0), some (.long a1), none, some (.long a3), none] [.long x0, .ref x1] τ = (isA 10 x1 ∧ Ru M_Ways_tryPlanks d Q 7 [some (.ref a0), some (.long a1), none, some (.long a3), none] [] (sL τ x1 4 x0))) ∧
    (∀ (a0 : Nat) (a1 : Int64) (a3 : Int64) (τ : St), Ru M_Ways_tryPlanks d Q 7 [some (.ref a0), some (.long a1), none, some (.long a3), none] [] τ = Ru M_Ways_tryPlanks d Q 8 [some (.ref a0), some (.long a1), none, some (.long a3), none] [.ref a0] τ) ∧
    (∀ (a0 : Nat) (a1 : Int64) (a3 : Int64) (x0 : Nat) (τ : St), Ru M_Ways_tryPlanks d Q 8 [some (.ref a0), some (.long a1), none, some (.long a3), none] [.ref x0] τ = Ru M_Ways_tryPlanks d Q 9 [some (.ref a0), some (.long a1), none, some (.long a3), none] [.ref a0, .ref x0] τ) ∧
    (∀ (a0 : Nat) (a1 : Int64) (a3 : Int64) (x0 : Nat) (x1 : Nat) (τ : St), Ru M_Ways_tryPlanks d Q 9 [some (.ref a0), some (.long a1), none, some (.long a3), none] [.ref x0, .ref x1] τ = (isA 10 x0 ∧ Ru M_Ways_tryPlanks d Q 12 [some (.ref a0), some (.long a1), none, some (.long a3), none] [.int (τ.1 x0 6), .ref x1] τ)) ∧
    (∀ (a0 : Nat) (a1 : Int64) (a3 : Int64) (x0 : Int32) (x1 : Nat) (τ : St), Ru M_Ways_tryPlanks d Q 12 [some (.ref a0), some (.long a1), none, some (.long a3), none] [.int x0, .ref x1] τ = Ru M_Ways_tryPlanks d Q 13 [some (.ref a0), some (.long a1), none, some (.long a3), none] [.int 1, .int x0, .ref x1] τ) ∧
    (∀ (a0 : Nat) (a1 : Int64) (a3 : Int64) (x0 : Int32) (x1 : Int32) (x2 : Nat) (τ : St), Ru M_Ways_tryPlanks d Q 13 [some (.ref a0), some (.long a1), none, some (.long a3), none] [.int x0, .int x1, .ref x2] τ = Ru M_Ways_tryPlanks d Q 14 [some (.ref a0), some (.long a1), none, some (.long a3), none] [.int (x1 - x0), .ref x2] τ) ∧
    (∀ (a0 : Nat) (a1 : Int64) (a3 : Int64) (x0 : Int32) (x1 : Nat) (τ : St), Ru M_Ways_tryPlanks d Q 14 [some (.ref a0), some (.long a1), none, some (.long a3), none] [.int x0, .ref x1] τ = (isA 10 x1 ∧ Cl d m_Ways_crosses [.ref x1, .int x0] τ (fun v τ' => Ru M_Ways_tryPlanks d Q 17 [some (.ref a0), some (.long a1), none, some (.long a3), none] (v.toList ++ []) τ'))) ∧
    (∀ (a0 : Nat) (a1 : Int64) (a3 : Int64) (x0 : Int32) (τ : St), Ru M_Ways_tryPlanks d Q 17 [some (.ref a0), some (.long a1), none, some (.long a3), none] [.int x0] τ = ((x0 = 0 → Ru M_Ways_tryPlanks d Q 47 [some (.ref a0), some (.long a1), none, some (.long a3), none] [] τ) ∧ (¬ x0 = 0 → Ru M_Ways_tryPlanks d Q 20 [some (.ref a0), some (.long a1), none, some (.long a3), none] [] τ))) ∧
    (∀ (a0 : Nat) (a1 : Int64) (a3 : Int64) (τ : St), Ru M_Ways_tryPlanks d Q 20 [some (.ref a0), some (.long a1), none, some (.long a3), none] [] τ = Ru M_Ways_tryPlanks d Q 21 [some (.ref a0), some (.long a1), none, some (.long a3), none] [.ref a0] τ) ∧
    (∀ (a0 : Nat) (a1 : Int64) (a3 : Int64) (x0 : Nat) (τ : St), Ru M_Ways_tryPlanks d Q 21 [some (.ref a0), some (.long a1), none, some (.long a3), none] [.ref x0] τ = Ru M_Ways_tryPlanks d Q 22 [some (.ref a0), some (.long a1), none, some (.long a3), none] [.ref a0, .ref x0] τ) ∧
    (∀ (a0 : Nat) (a1 : Int64) (a3 : Int64) (x0 : Nat) (x1 : Nat) (τ : St), Ru M_Ways_tryPlanks d Q 22 [some (.ref a0), some (.long a1), none, some (.long a3), none] [.ref x0, .ref x1] τ = Ru M_Ways_tryPlanks d Q 23 [some (.ref a0), some (.long a1), none, some (.long a3), none] [.ref a0, .ref x0, .ref x1] τ) ∧
    (∀ (a0 : Nat) (a1 : Int64) (a3 : Int64) (x0 : Nat) (x1 : Nat) (x2 : Nat) (τ : St), Ru M_Ways_tryPlanks d Q 23 [some (.ref a0), some (.long a1), none, some (.long a3), none] [.ref x0, .ref x1, .ref x2] τ = (isA 10 x0 ∧ Ru M_Ways_tryPlanks d Q 26 [some (.ref a0), some (.long a1), none, some (.long a3), none] [.ref (rtab x0 0), .ref x1, .ref x2] τ)) ∧
    (∀ (a0 : Nat) (a1 : Int64) (a3 : Int64) (x0 : Nat) (x1 : Nat) (x2 : Nat) (τ : St), Ru M_Ways_tryPlanks d Q 26 [some (.ref a0), some (.long a1), none, some (.long a3), none] [.ref x0, .ref x1, .ref x2] τ = (isA 0 x0 ∧ Ru M_Ways_tryPlanks d Q 29 [some (.ref a0), some (.long a1), none, some (.long a3), none] [.long (τ.2 x0 7), .ref x1, .ref x2] τ)) ∧
    (∀ (a0 : Nat) (a1 : Int64) (a3 : Int64) (x0 : Int64) (x1 : Nat) (x2 : Nat) (τ : St), Ru M_Ways_tryPlanks d Q 29 [some (.ref a0), some (.long a1), none, some (.long a3), none] [.long x0, .ref x1, .ref x2] τ = Ru M_Ways_tryPlanks d Q 30 [some (.ref a0), some (.long a1), none, some (.long a3), none] [.ref a0, .long x0, .ref x1, .ref x2] τ) ∧
    (∀ (a0 : Nat) (a1 : Int64) (a3 : Int64) (x0 : Nat) (x1 : Int64) (x2 : Nat) (x3 : Nat) (τ : St), Ru M_Ways_tryPlanks d Q 30 [some (.ref a0), some (.long a1), none, some (.long a3), none] [.ref x0, .long x1, .ref x2, .ref x3] τ = (isA 10 x0 ∧ Ru M_Ways_tryPlanks d Q 33 [some (.ref a0), some (.long a1), none, some (.long a3), none] [.ref (rtab x0 0), .long x1, .ref x2, .ref x3] τ)) ∧
    (∀ (a0 : Nat) (a1 : Int64) (a3 : Int64) (x0 : Nat) (x1 : Int64) (x2 : Nat) (x3 : Nat) (τ : St), Ru M_Ways_tryPlanks d Q 33 [some (.ref a0), some (.long a1), none, some (.long a3), none] [.ref x0, .long x1, .ref x2, .ref x3] τ = (isA 0 x0 ∧ Ru M_Ways_tryPlanks d Q 36 [some (.ref a0), some (.long a1), none, some (.long a3), none] [.long (τ.2 x0 8), .long x1, .ref x2, .ref x3] τ)) ∧
    (∀ (a0 : Nat) (a1 : Int64) (a3 : Int64) (x0 : Int64) (x1 : Int64) (x2 : Nat) (x3 : Nat) (τ : St), Ru M_Ways_tryPlanks d Q 36 [some (.ref a0), some (.long a1), none, some (.long a3), none] [.long x0, .long x1, .ref x2, .ref x3] τ = (isA 10 x2 ∧ Cl d m_Ways_leastMost [.ref x2, .long x1, .long x0] τ (fun v τ' => Ru M_Ways_tryPlanks d Q 39 [some (.ref a0), some (.long a1), none, some (.long a3), none] (v.toList ++ [.ref x3]) τ'))) ∧
    (∀ (a0 : Nat) (a1 : Int64) (a3 : Int64) (x0 : Int32) (x1 : Nat) (τ : St), Ru M_Ways_tryPlanks d Q 39 [some (.ref a0), some (.long a1), none, some (.long a3), none] [.int x0, .ref x1] τ = (isA 10 x1 ∧ Ru M_Ways_tryPlanks d Q 42 [some (.ref a0), some (.long a1), none, some (.long a3), none] [] (sI τ x1 6 x0))) ∧
    (∀ (a0 : Nat) (a1 : Int64) (a3 : Int64) (τ : St), Ru M_Ways_tryPlanks d Q 42 [some (.ref a0), some (.long a1), none, some (.long a3), none] [] τ = Ru M_Ways_tryPlanks d Q 43 [some (.ref a0), some (.long a1), none, some (.long a3), none] [.ref a0] τ) ∧
    (∀ (a0 : Nat) (a1 : Int64) (a3 : Int64) (x0 : Nat) (τ : St), Ru M_Ways_tryPlanks d Q 43 [some (.ref a0), some (.long a1), none, some (.long a3), none] [.ref x0] τ = Ru M_Ways_tryPlanks d Q 44 [some (.ref a0), some (.long a1), none, some (.long a3), none] [.long a3, .ref x0] τ) ∧
    (∀ (a0 : Nat) (a1 : Int64) (a3 : Int64) (x0 : Int64) (x1 : Nat) (τ : St), Ru M_Ways_tryPlanks d Q 44 [some (.ref a0), some (.long a1), none, some (.long a3), none] [.long x0, .ref x1] τ = (isA 10 x1 ∧ Ru M_Ways_tryPlanks d Q 47 [some (.ref a0), some (.long a1), none, some (.long a3), none] [] (sL τ x1 7 x0))) ∧
    (∀ (a0 : Nat) (a1 : Int64) (a3 : Int64) (τ : St), Ru M_Ways_tryPlanks d Q 47 [some (.ref a0), some (.long a1), none, some (.long a3), none] [] τ = Q none τ) := ⟨
  fun _ _ _ _ => (R_at ok_Ways_tryPlanks rfl).trans (e_ald rfl),
  fun _ _ _ _ _ => (R_at ok_Ways_tryPlanks rfl).trans (e_lld rfl),
  fun _ _ _ _ _ _ => (R_at ok_Ways_tryPlanks rfl).trans (e_lld rfl),
  fun _ _ _ _ _ _ _ => (R_at ok_Ways_tryPlanks rfl).trans e_lbin,
  fun _ _ _ _ _ _ => (R_at ok_Ways_tryPlanks rfl).trans e_pL,
  fun _ _ _ _ => (R_at ok_Ways_tryPlanks rfl).trans (e_ald rfl),
  fun _ _ _ _ _ => (R_at ok_Ways_tryPlanks rfl).trans (e_ald rfl),
  fun _ _ _ _ _ _ => (R_at ok_Ways_tryPlanks rfl).trans e_gI,
  fun _ _ _ _ _ _ => (R_at ok_Ways_tryPlanks rfl).trans e_push,
  fun _ _ _ _ _ _ _ => (R_at ok_Ways_tryPlanks rfl).trans e_bin,
  fun _ _ _ x0 _ _ => (R_at ok_Ways_tryPlanks rfl).trans (e_cv [.int x0] rfl rfl rfl),
  fun _ _ _ _ _ => (R_at ok_Ways_tryPlanks rfl).trans e_if,
  fun _ _ _ _ => (R_at ok_Ways_tryPlanks rfl).trans (e_ald rfl),
  fun _ _ _ _ _ => (R_at ok_Ways_tryPlanks rfl).trans (e_ald rfl),
  fun _ _ _ _ _ _ => (R_at ok_Ways_tryPlanks rfl).trans (e_ald rfl),
  fun _ _ _ _ _ _ _ => (R_at ok_Ways_tryPlanks rfl).trans e_gR,
  fun _ _ _ _ _ _ _ => (R_at ok_Ways_tryPlanks rfl).trans e_gL,
  fun _ _ _ _ _ _ _ => (R_at ok_Ways_tryPlanks rfl).trans (e_ald rfl),
  fun _ _ _ _ _ _ _ _ => (R_at ok_Ways_tryPlanks rfl).trans e_gR,
  fun _ _ _ _ _ _ _ _ => (R_at ok_Ways_tryPlanks rfl).trans e_gL,
  fun _ _ _ x0 x1 _ _ _ => (R_at ok_Ways_tryPlanks rfl).trans (e_cv [.long x1, .long x0] rfl rfl rfl),
  fun _ _ _ _ _ _ => (R_at ok_Ways_tryPlanks rfl).trans e_pI,
  fun _ _ _ _ => (R_at ok_Ways_tryPlanks rfl).trans (e_ald rfl),
  fun _ _ _ _ _ => (R_at ok_Ways_tryPlanks rfl).trans (e_lld rfl),
  fun _ _ _ _ _ _ => (R_at ok_Ways_tryPlanks rfl).trans e_pL,
  fun _ _ _ _ => (R_at ok_Ways_tryPlanks rfl).trans e_vret⟩
set_option maxHeartbeats 4000000 in
theorem N_Ways_measure (d : Nat) (Q : Qt) : ∀ (x0 : Nat) (x1 : Int32) (x2 : Int32) (x3 : Int32) (τ : St), Cl (d + 1) m_Ways_measure [.ref x0, .int x1, .int x2, .int x3] τ Q = Ru M_Ways_measure d Q 0 [some (.ref x0), some (.int x1), some (.int x2), some (.int x3), none, none, none, none] [] τ := fun _ _ _ _ _ => propext ⟨fun h => h.2, fun h => ⟨Nat.le_of_ble_eq_true rfl, h⟩⟩
set_option maxHeartbeats 4000000 in
theorem E_Ways_measure (d : Nat) (Q : Qt) :
    (∀ (a0 : Nat) (a1 : Int32) (a2 : Int32) (a3 : Int32) (τ : St), Ru M_Ways_measure d Q 0 [some (.ref a0), some (.int a1), some (.int a2), some (.int a3), none, none, none, none] [] τ = Ru M_Ways_measure d Q 1 [some (.ref a0), some (.int a1), some (.int a2), some (.int a3), none, none, none, none] [.ref a0] τ) ∧
    (∀ (a0 : Nat) (a1 : Int32) (a2 : Int32) (a3 : Int32) (x0 : Nat) (τ : St), Ru M_Ways_measure d Q 1 [some (.ref a0), some (.int a1), some (.int a2), some (.int a3), none, none, none, none] [.ref x0] τ = (isA 10 x0 ∧ Ru M_Ways_measure d Q 4 [some (.ref a0), some (.int a1), some (.int a2), some (.int a3), none, none, none, none] [.ref (rtab x0 5)] τ)) ∧
    (∀ (a0 : Nat) (a1 : Int32) (a2 : Int32) (a3 : Int32) (x0 : Nat) (τ : St), Ru M_Ways_measure d Q 4 [some (.ref a0), some (.int a1), some (.int a2), some (.int a3), none, none, none, none] [.ref x0] τ = Ru M_Ways_measure d Q 6 [some (.ref a0), some (.int a1), some (.int a2), some (.int a3), none, none, none, none] [.int 1073741824, .ref x0] τ) ∧
    (∀ (a0 : Nat) (a1 : Int32) (a2 : Int32) (a3 : Int32) (x0 : Int32) (x1 : Nat) (τ : St), Ru M_Ways_measure d Q 6 [some (.ref a0), some (.int a1), some (.int a2), some (.int a3), none, none, none, none] [.int x0, .ref x1] τ = Cl d m_fill [.ref x1, .int x0] τ (fun v τ' => Ru M_Ways_measure d Q 9 [some (.ref a0), some (.int a1), some (.int a2), some (.int a3), none, none, none, none] (v.toList ++ []) τ')) ∧
    (∀ (a0 : Nat) (a1 : Int32) (a2 : Int32) (a3 : Int32) (τ : St), Ru M_Ways_measure d Q 9 [some (.ref a0), some (.int a1), some (.int a2), some (.int a3), none, none, none, none] [] τ = Ru M_Ways_measure d Q 10 [some (.ref a0), some (.int a1), some (.int a2), some (.int a3), none, none, none, none] [.ref a0] τ) ∧
    (∀ (a0 : Nat) (a1 : Int32) (a2 : Int32) (a3 : Int32) (x0 : Nat) (τ : St), Ru M_Ways_measure d Q 10 [some (.ref a0), some (.int a1), some (.int a2), some (.int a3), none, none, none, none] [.ref x0] τ = (isA 10 x0 ∧ Ru M_Ways_measure d Q 13 [some (.ref a0), some (.int a1), some (.int a2), some (.int a3), none, none, none, none] [.ref (rtab x0 0)] τ)) ∧
    (∀ (a0 : Nat) (a1 : Int32) (a2 : Int32) (a3 : Int32) (x0 : Nat) (τ : St), Ru M_Ways_measure d Q 13 [some (.ref a0), some (.int a1), some (.int a2), some (.int a3), none, none, none, none] [.ref x0] τ = Ru M_Ways_measure d Q 14 [some (.ref a0), some (.int a1), some (.int a2), some (.int a3), none, none, none, none] [.int a1, .ref x0] τ) ∧
    (∀ (a0 : Nat) (a1 : Int32) (a2 : Int32) (a3 : Int32) (x0 : Int32) (x1 : Nat) (τ : St), Ru M_Ways_measure d Q 14 [some (.ref a0), some (.int a1), some (.int a2), some (.int a3), none, none, none, none] [.int x0, .ref x1] τ = (isA 0 x1 ∧ Cl d m_Ground_has [.ref x1, .int x0] τ (fun v τ' => Ru M_Ways_measure d Q 17 [some (.ref a0), some (.int a1), some (.int a2), some (.int a3), none, none, none, none] (v.toList ++ []) τ'))) ∧
    (∀ (a0 : Nat) (a1 : Int32) (a2 : Int32) (a3 : Int32) (x0 : Int32) (τ : St), Ru M_Ways_measure d Q 17 [some (.ref a0), some (.int a1), some (.int a2), some (.int a3), none, none, none, none] [.int x0] τ = ((¬ x0 = 0 → Ru M_Ways_measure d Q 21 [some (.ref a0), some (.int a1), some (.int a2), some (.int a3), none, none, none, none] [] τ) ∧ (x0 = 0 → Ru M_Ways_measure d Q 20 [some (.ref a0), some (.int a1), some (.int a2), some (.int a3), none, none, none, none] [] τ))) ∧
    (∀ (a0 : Nat) (a1 : Int32) (a2 : Int32) (a3 : Int32) (τ : St), Ru M_Ways_measure d Q 20 [some (.ref a0), some (.int a1), some (.int a2), some (.int a3), none, none, none, none] [] τ = Q none τ) ∧
    (∀ (a0 : Nat) (a1 : Int32) (a2 : Int32) (a3 : Int32) (τ : St), Ru M_Ways_measure d Q 21 [some (.ref a0), some (.int a1), some (.int a2), some (.int a3), none, none, none, none] [] τ = Ru M_Ways_measure d Q 22 [some (.ref a0), some (.int a1), some (.int a2), some (.int a3), none, none, none, none] [.ref a0] τ) ∧
    (∀ (a0 : Nat) (a1 : Int32) (a2 : Int32) (a3 : Int32) (x0 : Nat) (τ : St), Ru M_Ways_measure d Q 22 [some (.ref a0), some (.int a1), some (.int a2), some (.int a3), none, none, none, none] [.ref x0] τ = (isA 10 x0 ∧ Ru M_Ways_measure d Q 25 [some (.ref a0), some (.int a1), some (.int a2), some (.int a3), none, none, none, none] [.ref (rtab x0 5)] τ)) ∧
    (∀ (a0 : Nat) (a1 : Int32) (a2 : Int32) (a3 : Int32) (x0 : Nat) (τ : St), Ru M_Ways_measure d Q 25 [some (.ref a0), some (.int a1), some (.int a2), some (.int a3), none, none, none, none] [.ref x0] τ = Ru M_Ways_measure d Q 26 [some (.ref a0), some (.int a1), some (.int a2), some (.int a3), none, none, none, none] [.int a1, .ref x0] τ) ∧
    (∀ (a0 : Nat) (a1 : Int32) (a2 : Int32) (a3 : Int32) (x0 : Int32) (x1 : Nat) (τ : St), Ru M_Ways_measure d Q 26 [some (.ref a0), some (.int a1), some (.int a2), some (.int a3), none, none, none, none] [.int x0, .ref x1] τ = Ru M_Ways_measure d Q 27 [some (.ref a0), some (.int a1), some (.int a2), some (.int a3), none, none, none, none] [.int 0, .int x0, .ref x1] τ) ∧
    (∀ (a0 : Nat) (a1 : Int32) (a2 : Int32) (a3 : Int32) (x0 : Int32) (x1 : Int32) (x2 : Nat) (τ : St), Ru M_Ways_measure d Q 27 [some (.ref a0), some (.int a1), some (.int a2), some (.int a3), none, none, none, none] [.int x0, .int x1, .ref x2] τ = (isA 14 x2 ∧ vp_in x1 (len x2) ∧ Ru M_Ways_measure d Q 28 [some (.ref a0), some (.int a1), some (.int a2), some (.int a3), none, none, none, none] [] (sI τ x2 x1.toNatClampNeg (x0)))) ∧
    (∀ (a0 : Nat) (a1 : Int32) (a2 : Int32) (a3 : Int32) (τ : St), Ru M_Ways_measure d Q 28 [some (.ref a0), some (.int a1), some (.int a2), some (.int a3), none, none, none, none] [] τ = Ru M_Ways_measure d Q 31 [some (.ref a0), some (.int a1), some (.int a2), some (.int a3), none, none, none, none] [.long (-1)] τ) ∧
    (∀ (a0 : Nat) (a1 : Int32) (a2 : Int32) (a3 : Int32) (x0 : Int64) (τ : St), Ru M_Ways_measure d Q 31 [some (.ref a0), some (.int a1), some (.int a2), some (.int a3), none, none, none, none] [.long x0] τ = Ru M_Ways_measure d Q 33 [some (.ref a0), some (.int a1), some (.int a2), some (.int a3), some (.long x0), none, none, none] [] τ) ∧
    (∀ (a0 : Nat) (a1 : Int32) (a2 : Int32) (a3 : Int32) (a4 : Int64) (τ : St), Ru M_Ways_measure d Q 33 [some (.ref a0), some (.int a1), some (.int a2), some (.int a3), some (.long a4), none, none, none] [] τ = Ru M_Ways_measure d Q 34 [some (.ref a0), some (.int a1), some (.int a2), some (.int a3), some (.long a4), none, none, none] [.int 0] τ) ∧
    (∀ (a0 : Nat) (a1 : Int32) (a2 : Int32) (a3 : Int32) (a4 : Int64) (x0 : Int32) (τ : St), Ru M_Ways_measure d Q 34 [some (.ref a0), some (.int a1), some (.int a2), some (.int a3), some (.long a4), none, none, none] [.int x0] τ = Rs M_Ways_measure d Q 36 [some (.ref a0), some (.int a1), some (.int a2), some (.int a3), some (.long a4), none, some (.int x0), none] [] τ) ∧
    (∀ (a0 : Nat) (a1 : Int32) (a2 : Int32) (a3 : Int32) (a4 : Int64) (a6 : Int32) (a7 : Option Value) (τ : St), Ru M_Ways_measure d Q 36 [some (.ref a0), some (.int a1), some (.int a2), some (.int a3), some (.long a4), none, some (.int a6), a7] [] τ = Ru M_Ways_measure d Q 38 [some (.ref a0), some (.int a1), some (.int a2), some (.int a3), some (.long a4), none, some (.int a6), a7] [.int a6] τ) ∧
    (∀ (a0 : Nat) (a1 : Int32) (a2 : Int32) (a3 : Int32) (a4 : Int64) (a6 : Int32) (a7 : Option Value) (x0 : Int32) (τ : St), Ru M_Ways_measure d Q 38 [some (.ref a0), some (.int a1), some (.int a2), some (.int a3), some (.long a4), none, some (.int a6), a7] [.int x0] τ = Ru M_Ways_measure d Q 40 [some (.ref a0), some (.int a1), some (.int a2), some (.int a3), some (.long a4), none, some (.int a6), a7] [.int 36, .int x0] τ) ∧
    (∀ (a0 : Nat) (a1 : Int32) (a2 : Int32) (a3 : Int32) (a4 : Int64) (a6 : Int32) (a7 : Option Value) (x0 : Int32) (x1 : Int32) (τ : St), Ru M_Ways_measure d Q 40 [some (.ref a0), some (.int a1), some (.int a2), some (.int a3), some (.long a4), none, some (.int a6), a7] [.int x0, .int x1] τ = ((x0 ≤ x1 → Ru M_Ways_measure d Q 85 [some (.ref a0), some (.int a1), some (.int a2), some (.int a3), some (.long a4), none, some (.int a6), a7] [] τ) ∧ (¬ x0 ≤ x1 → Ru M_Ways_measure d Q 43 [some (.ref a0), some (.int a1), some (.int a2), some (.int a3), some (.long a4), none, some (.int a6), a7] [] τ))) ∧
    (∀ (a0 : Nat) (a1 : Int32) (a2 : Int32) (a3 : Int32) (a4 : Int64) (a6 : Int32) (a7 : Option Value) (τ : St), Ru M_Ways_measure d Q 43 [some (.ref a0), some (.int a1), some (.int a2), some (.int a3), some (.long a4), none, some (.int a6), a7] [] τ = Ru M_Ways_measure d Q 44 [some (.ref a0), some (.int a1), some (.int a2), some (.int a3), some (.long a4), none, some (.int a6), a7] [.ref a0] τ) ∧
    (∀ (a0 : Nat) (a1 : Int32) (a2 : Int32) (a3 : Int32) (a4 : Int64) (a6 : Int32) (a7 : Option Value) (x0 : Nat) (τ : St), Ru M_Ways_measure d Q 44 [some (.ref a0), some (.int a1), some (.int a2), some (.int a3), some (.long a4), none, some (.int a6), a7] [.ref x0] τ = Ru M_Ways_measure d Q 46 [some (.ref a0), some (.int a1), some (.int a2), some (.int a3), some (.long a4), none, some (.int a6), a7] [.long a4, .ref x0] τ) ∧
    (∀ (a0 : Nat) (a1 : Int32) (a2 : Int32) (a3 : Int32) (a4 : Int64) (a6 : Int32) (a7 : Option Value) (x0 : Int64) (x1 : Nat) (τ : St), Ru M_Ways_measure d Q 46 [some (.ref a0), some (.int a1), some (.int a2), some (.int a3), some (.long a4), none, some (.int a6), a7] [.long x0, .ref x1] τ = (isA 10 x1 ∧ Cl d m_Ways_nearest [.ref x1, .long x0] τ (fun v τ' => Ru M_Ways_measure d Q 49 [some (.ref a0), some (.int a1), some (.int a2), some (.int a3), some (.long a4), none, some (.int a6), a7] (v.toList ++ []) τ'))) ∧
    (∀ (a0 : Nat) (a1 : Int32) (a2 : Int32) (a3 : Int32) (a4 : Int64) (a6 : Int32) (a7 : Option Value) (x0 : Int32) (τ : St), Ru M_Ways_measure d Q 49 [some (.ref a0), some (.int a1), some (.int a2), some (.int a3), some (.long a4), none, some (.int a6), a7] [.int x0] τ = Ru M_Ways_measure d Q 51 [some (.ref a0), some (.int a1), some (.int a2), some (.int a3), some (.long a4), none, some (.int a6), some (.int x0)] [] τ) ∧
    (∀ (a0 : Nat) (a1 : Int32) (a2 : Int32) (a3 : Int32) (a4 : Int64) (a6 : Int32) (a7 : Int32) (τ : St), Ru M_Ways_measure d Q 51 [some (.ref a0), some (.int a1), some (.int a2), some (.int a3), some (.long a4), none, some (.int a6), some (.int a7)] [] τ = Ru M_Ways_measure d Q 53 [some (.ref a0), some (.int a1), some (.int a2), some (.int a3), some (.long a4), none, some (.int a6), some (.int a7)] [.int a7] τ) ∧
    (∀ (a0 : Nat) (a1 : Int32) (a2 : Int32) (a3 : Int32) (a4 : Int64) (a6 : Int32) (a7 : Int32) (x0 : Int32) (τ : St), Ru M_Ways_measure d Q 53 [some (.ref a0), some (.int a1), some (.int a2), some (.int a3), some (.long a4), none, some (.int a6), some (.int a7)] [.int x0] τ = Ru M_Ways_measure d Q 54 [some (.ref a0), some (.int a1), some (.int a2), some (.int a3), some (.long a4), none, some (.int a6), some (.int a7)] [.int (-1), .int x0] τ) ∧
    (∀ (a0 : Nat) (a1 : Int32) (a2 : Int32) (a3 : Int32) (a4 : Int64) (a6 : Int32) (a7 : Int32) (x0 : Int32) (x1 : Int32) (τ : St), Ru M_Ways_measure d Q 54 [some (.ref a0), some (.int a1), some (.int a2), some (.int a3), some (.long a4), none, some (.int a6), some (.int a7)] [.int x0, .int x1] τ = ((¬ x1 = x0 → Ru M_Ways_measure d Q 58 [some (.ref a0), some (.int a1), some (.int a2), some (.int a3), some (.long a4), none, some (.int a6), some (.int a7)] [] τ) ∧ (x1 = x0 → Ru M_Ways_measure d Q 57 [some (.ref a0), some (.int a1), some (.int a2), some (.int a3), some (.long a4), none, some (.int a6), some (.int a7)] [] τ))) ∧
    (∀ (a0 : Nat) (a1 : Int32) (a2 : Int32) (a3 : Int32) (a4 : Int64) (a6 : Int32) (a7 : Int32) (τ : St), Ru M_Ways_measure d Q 57 [some (.ref a0), some (.int a1), some (.int a2), some (.int a3), some (.long a4), none, some (.int a6), some (.int a7)] [] τ = Q none τ) ∧
    (∀ (a0 : Nat) (a1 : Int32) (a2 : Int32) (a3 : Int32) (a4 : Int64) (a6 : Int32) (a7 : Int32) (τ : St), Ru M_Ways_measure d Q 58 [some (.ref a0), some (.int a1), some (.int a2), some (.int a3), some (.long a4), none, some (.int a6), some (.int a7)] [] τ = Ru M_Ways_measure d Q 60 [some (.ref a0), some (.int a1), some (.int a2), some (.int a3), some (.long a4), none, some (.int a6), some (.int a7)] [.long a4] τ) ∧
    (∀ (a0 : Nat) (a1 : Int32) (a2 : Int32) (a3 : Int32) (a4 : Int64) (a6 : Int32) (a7 : Int32) (x0 : Int64) (τ : St), Ru M_Ways_measure d Q 60 [some (.ref a0), some (.int a1), some (.int a2), some (.int a3), some (.long a4), none, some (.int a6), some (.int a7)] [.long x0] τ = Ru M_Ways_measure d Q 61 [some (.ref a0), some (.int a1), some (.int a2), some (.int a3), some (.long a4), none, some (.int a6), some (.int a7)] [.long 1, .long x0] τ) ∧
    (∀ (a0 : Nat) (a1 : Int32) (a2 : Int32) (a3 : Int32) (a4 : Int64) (a6 : Int32) (a7 : Int32) (x0 : Int64) (x1 : Int64) (τ : St), Ru M_Ways_measure d Q 61 [some (.ref a0), some (.int a1), some (.int a2), some (.int a3), some (.long a4), none, some (.int a6), some (.int a7)] [.long x0, .long x1] τ = Ru M_Ways_measure d Q 63 [some (.ref a0), some (.int a1), some (.int a2), some (.int a3), some (.long a4), none, some (.int a6), some (.int a7)] [.int a7, .long x0, .long x1] τ) ∧
    (∀ (a0 : Nat) (a1 : Int32) (a2 : Int32) (a3 : Int32) (a4 : Int64) (a6 : Int32) (a7 : Int32) (x0 : Int32) (x1 : Int64) (x2 : Int64) (τ : St), Ru M_Ways_measure d Q 63 [some (.ref a0), some (.int a1), some (.int a2), some (.int a3), some (.long a4), none, some (.int a6), some (.int a7)] [.int x0, .long x1, .long x2] τ = Ru M_Ways_measure d Q 64 [some (.ref a0), some (.int a1), some (.int a2), some (.int a3), some (.long a4), none, some (.int a6), some (.int a7)] [.long (x1 <<< (x0.toInt64 &&& 63)), .long x2] τ) ∧
    (∀ (a0 : Nat) (a1 : Int32) (a2 : Int32) (a3 : Int32) (a4 : Int64) (a6 : Int32) (a7 : Int32) (x0 : Int64) (x1 : Int64) (τ : St), Ru M_Ways_measure d Q 64 [some (.ref a0), some (.int a1), some (.int a2), some (.int a3), some (.long a4), none, some (.int a6), some (.int a7)] [.long x0, .long x1] τ = Ru M_Ways_measure d Q 67 [some (.ref a0), some (.int a1), some (.int a2), some (.int a3), some (.long a4), none, some (.int a6), some (.int a7)] [.long (-1), .long x0, .long x1] τ) ∧
    (∀ (a0 : Nat) (a1 : Int32) (a2 : Int32) (a3 : Int32) (a4 : Int64) (a6 : Int32) (a7 : Int32) (x0 : Int64) (x1 : Int64) (x2 : Int64) (τ : St), Ru M_Ways_measure d Q 67 [some (.ref a0), some (.int a1), some (.int a2), some (.int a3), some (.long a4), none, some (.int a6), some (.int a7)] [.long x0, .long x1, .long x2] τ = Ru M_Ways_measure d Q 68 [some (.ref a0), some (.int a1), some (.int a2), some (.int a3), some (.long a4), none, some (.int a6), some (.int a7)] [.long (x1 ^^^ x0), .long x2] τ) ∧
    (∀ (a0 : Nat) (a1 : Int32) (a2 : Int32) (a3 : Int32) (a4 : Int64) (a6 : Int32) (a7 : Int32) (x0 : Int64) (x1 : Int64) (τ : St), Ru M_Ways_measure d Q 68 [some (.ref a0), some (.int a1), some (.int a2), some (.int a3), some (.long a4), none, some (.int a6), some (.int a7)] [.long x0, .long x1] τ = Ru M_Ways_measure d Q 69 [some (.ref a0), some (.int a1), some (.int a2), some (.int a3), some (.long a4), none, some (.int a6), some (.int a7)] [.long (x1 &&& x0)] τ) ∧
    (∀ (a0 : Nat) (a1 : Int32) (a2 : Int32) (a3 : Int32) (a4 : Int64) (a6 : Int32) (a7 : Int32) (x0 : Int64) (τ : St), Ru M_Ways_measure d Q 69 [some (.ref a0), some (.int a1), some (.int a2), some (.int a3), some (.long a4), none, some (.int a6), some (.int a7)] [.long x0] τ = Ru M_Ways_measure d Q 71 [some (.ref a0), some (.int a1), some (.int a2), some (.int a3), some (.long x0), none, some (.int a6), some (.int a7)] [] τ) ∧
    (∀ (a0 : Nat) (a1 : Int32) (a2 : Int32) (a3 : Int32) (a4 : Int64) (a6 : Int32) (a7 : Int32) (τ : St), Ru M_Ways_measure d Q 71 [some (.ref a0), some (.int a1), some (.int a2), some (.int a3), some (.long a4), none, some (.int a6), some (.int a7)] [] τ = Ru M_Ways_measure d Q 72 [some (.ref a0), some (.int a1), some (.int a2), some (.int a3), some (.long a4), none, some (.int a6), some (.int a7)] [.ref a0] τ) ∧
    (∀ (a0 : Nat) (a1 : Int32) (a2 : Int32) (a3 : Int32) (a4 : Int64) (a6 : Int32) (a7 : Int32) (x0 : Nat) (τ : St), Ru M_Ways_measure d Q 72 [some (.ref a0), some (.int a1), some (.int a2), some (.int a3), some (.long a4), none, some (.int a6), some (.int a7)] [.ref x0] τ = Ru M_Ways_measure d Q 74 [some (.ref a0), some (.int a1), some (.int a2), some (.int a3), some (.long a4), none, some (.int a6), some (.int a7)] [.int a7, .ref x0] τ) ∧
    (∀ (a0 : Nat) (a1 : Int32) (a2 : Int32) (a3 : Int32) (a4 : Int64) (a6 : Int32) (a7 : Int32) (x0 : Int32) (x1 : Nat) (τ : St), Ru M_Ways_measure d Q 74 [some (.ref a0), some (.int a1), some (.int a2), some (.int a3), some (.long a4), none, some (.int a6), some (.int a7)] [.int x0, .ref x1] τ = Ru M_Ways_measure d Q 75 [some (.ref a0), some (.int a1), some (.int a2), some (.int a3), some (.long a4), none, some (.int a6), some (.int a7)] [.int a2, .int x0, .ref x1] τ) ∧
    (∀ (a0 : Nat) (a1 : Int32) (a2 : Int32) (a3 : Int32) (a4 : Int64) (a6 : Int32) (a7 : Int32) (x0 : Int32) (x1 : Int32) (x2 : Nat) (τ : St), Ru M_Ways_measure d Q 75 [some (.ref a0), some (.int a1), some (.int a2), some (.int a3), some (.long a4), none, some (.int a6), some (.int a7)] [.int x0, .int x1, .ref x2] τ = Ru M_Ways_measure d Q 76 [some (.ref a0), some (.int a1), some (.int a2), some (.int a3), some (.long a4), none, some (.int a6), some (.int a7)] [.int a3, .int x0, .int x1, .ref x2] τ) ∧
    (∀ (a0 : Nat) (a1 : Int32) (a2 : Int32) (a3 : Int32) (a4 : Int64) (a6 : Int32) (a7 : Int32) (x0 : Int32) (x1 : Int32) (x2 : Int32) (x3 : Nat) (τ : St), Ru M_Ways_measure d Q 76 [some (.ref a0), some (.int a1), some (.int a2), some (.int a3), some (.long a4), none, some (.int a6), some (.int a7)] [.int x0, .int x1, .int x2, .ref x3] τ = (isA 10 x3 ∧ Cl d m_Ways_measureAround [.ref x3, .int x2, .int x1, .int x0] τ (fun v τ' => Ru M_Ways_measure d Q 79 [some (.ref a0), some (.int a1), some (.int a2), some (.int a3), some (.long a4), none, some (.int a6), some (.int a7)] (v.toList ++ []) τ'))) ∧
    (∀ (a0 : Nat) (a1 : Int32) (a2 : Int32) (a3 : Int32) (a4 : Int64) (a6 : Int32) (a7 : Int32) (τ : St), Ru M_Ways_measure d Q 79 [some (.ref a0), some (.int a1), some (.int a2), some (.int a3), some (.long a4), none, some (.int a6), some (.int a7)] [] τ = Ru M_Ways_measure d Q 82 [some (.ref a0), some (.int a1), some (.int a2), some (.int a3), some (.long a4), none, some (.int (a6 + 1)), some (.int a7)] [] τ) ∧
    (∀ (a0 : Nat) (a1 : Int32) (a2 : Int32) (a3 : Int32) (a4 : Int64) (a6 : Int32) (a7 : Int32) (τ : St), Ru M_Ways_measure d Q 82 [some (.ref a0), some (.int a1), some (.int a2), some (.int a3), some (.long a4), none, some (.int a6), some (.int a7)] [] τ = Rs M_Ways_measure d Q 36 [some (.ref a0), some (.int a1), some (.int a2), some (.int a3), some (.long a4), none, some (.int a6), some (.int a7)] [] τ) ∧
    (∀ (a0 : Nat) (a1 : Int32) (a2 : Int32) (a3 : Int32) (a4 : Int64) (a6 : Int32) (a7 : Option Value) (τ : St), Ru M_Ways_measure d Q 85 [some (.ref a0), some (.int a1), some (.int a2), some (.int a3), some (.long a4), none, some (.int a6), a7] [] τ = Q none τ) := ⟨
  fun _ _ _ _ _ => (R_at ok_Ways_measure rfl).trans (e_ald rfl),
  fun _ _ _ _ _ _ => (R_at ok_Ways_measure rfl).trans e_gR,
  fun _ _ _ _ _ _ => (R_at ok_Ways_measure rfl).trans e_push,
  fun _ _ _ _ x0 x1 _ => (R_at ok_Ways_measure rfl).trans (e_cs [.ref x1, .int x0] rfl rfl rfl),
  fun _ _ _ _ _ => (R_at ok_Ways_measure rfl).trans (e_ald rfl),
  fun _ _ _ _ _ _ => (R_at ok_Ways_measure rfl).trans e_gR,
  fun _ _ _ _ _ _ => (R_at ok_Ways_measure rfl).trans (e_ild rfl),
  fun _ _ _ _ x0 _ _ => (R_at ok_Ways_measure rfl).trans (e_cv [.int x0] rfl rfl rfl),
  fun _ _ _ _ _ _ => (R_at ok_Ways_measure rfl).trans e_ifn,
  fun _ _ _ _ _ => (R_at ok_Ways_measure rfl).trans e_vret,
  fun _ _ _ _ _ => (R_at ok_Ways_measure rfl).trans (e_ald rfl),
  fun _ _ _ _ _ _ => (R_at ok_Ways_measure rfl).trans e_gR,
  fun _ _ _ _ _ _ => (R_at ok_Ways_measure rfl).trans (e_ild rfl),
  fun _ _ _ _ _ _ _ => (R_at ok_Ways_measure rfl).trans e_push,
  fun _ _ _ _ _ _ _ _ => (R_at ok_Ways_measure rfl).trans e_as,
  fun _ _ _ _ _ => (R_at ok_Ways_measure rfl).trans e_push,
  fun _ _ _ _ _ _ => (R_at ok_Ways_measure rfl).trans e_lst,
  fun _ _ _ _ _ _ => (R_at ok_Ways_measure rfl).trans e_push,
  fun _ _ _ _ _ _ _ => (R_at ok_Ways_measure rfl).trans e_ist,
  fun _ _ _ _ _ _ _ _ => (R_at ok_Ways_measure rfl).trans (e_ild rfl),
  fun _ _ _ _ _ _ _ _ _ => (R_at ok_Ways_measure rfl).trans e_push,
  fun _ _ _ _ _ _ _ _ _ _ => (R_at ok_Ways_measure rfl).trans e_ic,
  fun _ _ _ _ _ _ _ _ => (R_at ok_Ways_measure rfl).trans (e_ald rfl),
  fun _ _ _ _ _ _ _ _ _ => (R_at ok_Ways_measure rfl).trans (e_lld rfl),
  fun _ _ _ _ _ _ _ x0 _ _ => (R_at ok_Ways_measure rfl).trans (e_cv [.long x0] rfl rfl rfl),
  fun _ _ _ _ _ _ _ _ _ => (R_at ok_Ways_measure rfl).trans e_ist,
  fun _ _ _ _ _ _ _ _ => (R_at ok_Ways_measure rfl).trans (e_ild rfl),
  fun _ _ _ _ _ _ _ _ _ => (R_at ok_Ways_measure rfl).trans e_push,
  fun _ _ _ _ _ _ _ _ _ _ => (R_at ok_Ways_measure rfl).trans e_icn,
  fun _ _ _ _ _ _ _ _ => (R_at ok_Ways_measure rfl).trans e_vret,
  fun _ _ _ _ _ _ _ _ => (R_at ok_Ways_measure rfl).trans (e_lld rfl),
  fun _ _ _ _ _ _ _ _ _ => (R_at ok_Ways_measure rfl).trans e_push,
  fun _ _ _ _ _ _ _ _ _ _ => (R_at ok_Ways_measure rfl).trans (e_ild rfl),
  fun _ _ _ _ _ _ _ _ _ _ _ => (R_at ok_Ways_measure rfl).trans e_lsh,
  fun _ _ _ _ _ _ _ _ _ _ => (R_at ok_Ways_measure rfl).trans e_push,
  fun _ _ _ _ _ _ _ _ _ _ _ => (R_at ok_Ways_measure rfl).trans e_lbin,
  fun _ _ _ _ _ _ _ _ _ _ => (R_at ok_Ways_measure rfl).trans e_lbin,
  fun _ _ _ _ _ _ _ _ _ => (R_at ok_Ways_measure rfl).trans e_lst,
  fun _ _ _ _ _ _ _ _ => (R_at ok_Ways_measure rfl).trans (e_ald rfl),
  fun _ _ _ _ _ _ _ _ _ => (R_at ok_Ways_measure rfl).trans (e_ild rfl),
  fun _ _ _ _ _ _ _ _ _ _ => (R_at ok_Ways_measure rfl).trans (e_ild rfl),
  fun _ _ _ _ _ _ _ _ _ _ _ => (R_at ok_Ways_measure rfl).trans (e_ild rfl),
  fun _ _ _ _ _ _ _ x0 x1 x2 _ _ => (R_at ok_Ways_measure rfl).trans (e_cv [.int x2, .int x1, .int x0] rfl rfl rfl),
  fun _ _ _ _ _ _ _ _ => (R_at ok_Ways_measure rfl).trans (e_iinc rfl),
  fun _ _ _ _ _ _ _ _ => (R_at ok_Ways_measure rfl).trans e_goto,
  fun _ _ _ _ _ _ _ _ => (R_at ok_Ways_measure rfl).trans e_vret⟩
