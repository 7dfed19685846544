/-! THE WORLD: all objects of the class and of the reference as numbered cells; what they hold as two functions (ints by cell and place, longs by cell and place). -/
abbrev St : Type := (Nat → Nat → Int32) × (Nat → Nat → Int64)
def lw_good : List Cond := lw_tbl.filter goodWord
theorem lw_mem {w : Cond} (h : w ∈ lw_tbl) (g : goodWord w = true) : w ∈ lw_good := List.mem_filter.mpr ⟨h, g⟩
theorem lw_goodIn : GoodIn lw_good lw_good := fun w h => ⟨h, good_of_word (List.mem_filter.mp h).2⟩
theorem lw_gi {ws : List Cond} (h : ∀ w ∈ ws, w ∈ lw_good) : GoodIn lw_good ws := fun w hw => lw_goodIn w (h w hw)
abbrev hcls : List vw_C := [(RX0, TX0, 9), (RX1, TX1, 9), (RX2, TX2, 3), (RX3, TX3, 4), (RX4, TX4, 2), (RX5, TX5, 4), (RX6, TX6, 4), (RX7, TX7, 3), (RX8, TX8, 3), (RX9, TX9, 2), (RX10, TX10, 8), (RX11, TX11, 16), (RX12, TX12, 53)]
def tyO : Nat → Nat → FieldType
  | 0 => tyX0
  | 1 => tyX1
  | 2 => tyX2
  | 3 => tyX3
  | 4 => tyX4
  | 5 => tyX5
  | 6 => tyX6
  | 7 => tyX7
  | 8 => tyX8
  | 9 => tyX9
  | 10 => tyX10
  | 11 => tyX11
  | _ => tyX12
def nfO : Nat → Nat
  | 0 => 9
  | 1 => 9
  | 2 => 3
  | 3 => 4
  | 4 => 2
  | 5 => 4
  | 6 => 4
  | 7 => 3
  | 8 => 3
  | 9 => 2
  | 10 => 8
  | 11 => 16
  | _ => 53
def shL : List (Nat × Nat) := [(11, 0), (6, 0), (13, 80), (4, 0), (15, 36), (0, 0), (14, 36), (14, 36), (14, 144), (1, 0), (14, 8), (1, 0), (14, 8), (2, 0), (17, 15), (1, 0), (14, 8), (1, 0), (14, 8), (1, 0), (14, 8), (1, 0), (14, 8), (1, 0), (14, 8), (1, 0), (14, 8), (1, 0), (14, 8), (1, 0), (14, 8), (1, 0), (14, 8), (1, 0), (14, 8), (1, 0), (14, 8), (1, 0), (14, 8), (1, 0), (14, 8), (1, 0), (14, 8), (1, 0), (14, 8), (17, 3), (1, 0), (14, 8), (1, 0), (14, 8), (1, 0), (14, 8), (14, 8), (5, 0), (14, 40), (14, 40), (5, 0), (14, 40), (14, 40), (10, 0), (3, 0), (14, 380), (14, 36), (8, 0), (9, 0), (14, 4), (7, 0), (14, 61), (14, 61), (12, 0), (15, 48), (14, 36), (14, 36), (14, 8), (14, 2), (14, 50), (14, 50), (14, 80), (14, 36), (14, 16), (14, 80), (14, 80), (14, 80), (14, 5), (14, 800), (14, 60), (14, 60), (14, 60), (14, 36), (14, 36), (14, 144), (14, 4), (14, 1281), (14, 1281), (14, 1281), (14, 12), (14, 12), (14, 80), (16, 3), (14, 3), (14, 150), (15, 1)]
def NC : Nat := 102
def shp (k : Nat) : Nat := (shL.getD k (99, 0)).1
def len (k : Nat) : Nat := (shL.getD k (99, 0)).2
def rtL : List (List (Nat × Nat)) := [[(0, 1), (1, 3), (2, 5), (3, 9), (4, 11), (5, 13), (6, 45), (7, 52), (10, 53), (11, 56), (12, 59), (13, 63), (14, 64), (15, 66)], [(0, 2)], [], [(0, 4)], [], [(3, 6), (4, 7), (5, 8)], [], [], [], [(0, 10)], [], [(0, 12)], [], [(0, 14)], [], [(0, 16)], [], [(0, 18)], [], [(0, 20)], [], [(0, 22)], [], [(0, 24)], [], [(0, 26)], [], [(0, 28)], [], [(0, 30)], [], [(0, 32)], [], [(0, 34)], [], [(0, 36)], [], [(0, 38)], [], [(0, 40)], [], [(0, 42)], [], [(0, 44)], [], [], [(0, 47)], [], [(0, 49)], [], [(0, 51)], [], [], [(0, 54), (2, 55)], [], [], [(0, 57), (2, 58)], [], [], [(0, 5), (1, 60), (5, 62)], [(0, 61)], [], [], [], [(0, 65)], [], [(0, 67), (1, 68)], [], [], [(2, 70), (7, 71), (8, 72), (9, 73), (10, 74), (11, 75), (12, 76), (13, 77), (18, 78), (20, 79), (22, 80), (23, 81), (26, 82), (27, 83), (29, 84), (30, 85), (31, 86), (32, 87), (34, 88), (35, 89), (36, 90), (40, 91), (42, 92), (43, 93), (44, 94), (46, 95), (47, 96), (48, 97), (50, 98), (51, 99), (52, 100)], [], [], [], [], [], [], [], [], [], [], [], [], [], [], [], [], [], [], [], [], [], [], [], [], [], [], [], [], [], [], [], []]
def lkp : List (Nat × Nat) → Nat → Nat
  | [], _ => 0
  | (a, b) :: l, j => if Nat.beq a j then b else lkp l j
def rtab (k j : Nat) : Nat := lkp (rtL.getD k []) j
def mrf (k i : Nat) : Nat := if k = 14 then 15 + 2 * i else 46 + 2 * i
abbrev WP : Type := (Nat → Nat) × (Nat → Nat) × va_G × (Nat → ClassId)
def mv (ad : Nat → Nat) : Value → Value
  | .ref k => .ref (ad k)
  | v => v
theorem mv_cat (ad : Nat → Nat) (v : Value) : (mv ad v).category = v.category := by cases v <;> rfl
theorem mv_cats (ad : Nat → Nat) (l : List Value) : (l.map (mv ad)).map (fun v => v.category) = l.map (fun v => v.category) := by
  rw [List.map_map]
  exact List.map_congr_left (fun v _ => mv_cat ad v)
/-- Ways.rule is the one field of a reference that changes: its cell's number stands among the ints -/
def dynW (k j : Nat) : Bool := Nat.beq k 59 && Nat.beq j 2
def fv (ad : Nat → Nat) (τ : St) (k : Nat) (ty : FieldType) (j : Nat) : Value := match ty with
  | .int => .int (τ.1 k j)
  | .long => .long (τ.2 k j)
  | _ => if dynW k j = true then (if τ.1 k j = 0 then .null else .ref (ad (τ.1 k j).toNatClampNeg)) else .ref (ad (rtab k j))
def pay (ad : Nat → Nat) (τ : St) (k : Nat) : vp_A := (len k, if shp k = 15 then .inr (.inl (τ.2 k)) else if shp k = 17 then .inr (.inr (.inr (.inr (fun i => some (ad (mrf k i)))))) else .inl (τ.1 k))
def ec (ad : Nat → Nat) (cA : Nat → ClassId) (τ : St) (k : Nat) : va_E := if shp k < 13 then .inr (shp k, (List.range (nfO (shp k))).map (fun j => fv ad τ k (tyO (shp k) j) j)) else .inl (cA (shp k), pay ad τ k)
def eW (ad : Nat → Nat) (cA : Nat → ClassId) (τ : St) : va_W := (List.range NC).map (fun k => (ad k, ec ad cA τ k))
theorem eW_get {ad : Nat → Nat} {cA : Nat → ClassId} {τ : St} {k : Nat} (hk : k < NC) : (eW ad cA τ)[k]? = some (ad k, ec ad cA τ k) := by
  simp [eW, List.getElem?_map, List.getElem?_range hk]
theorem eW_obj {ad : Nat → Nat} {cA : Nat → ClassId} {τ : St} {k ci : Nat} (hk : k < NC) (hs : shp k = ci) (hc : ci < 13) : (eW ad cA τ)[k]? = some (ad k, .inr (ci, (List.range (nfO ci)).map (fun j => fv ad τ k (tyO ci j) j))) := by
  rw [eW_get hk]
  subst hs
  simp [ec, hc]
theorem eW_arr {ad : Nat → Nat} {cA : Nat → ClassId} {τ : St} {k ci : Nat} (hk : k < NC) (hs : shp k = ci) (hc : 13 ≤ ci) : (eW ad cA τ)[k]? = some (ad k, .inl (cA ci, pay ad τ k)) := by
  rw [eW_get hk]
  subst hs
  have : ¬ shp k < 13 := by omega
  simp [ec, this]
theorem eW_set {ad : Nat → Nat} {cA : Nat → ClassId} {τ τ' : St} {k : Nat} {x : va_E} (he : ec ad cA τ' k = x) (ho : ∀ a, a ≠ k → ec ad cA τ' a = ec ad cA τ a) : (eW ad cA τ).set k (ad k, x) = eW ad cA τ' := by
  apply List.ext_getElem?
  intro i
  subst he
  rw [List.getElem?_set]
  by_cases hik : k = i
  · subst hik
    by_cases hk : k < NC
    · rw [eW_get hk]; simp [eW, hk]
    · simp [eW, hk]
  · simp only [hik, if_false]
    by_cases hi : i < NC
    · rw [eW_get hi, eW_get hi, ho i (fun h => hik h.symm)]
    · simp [eW, hi]
def sI (τ : St) (k j : Nat) (v : Int32) : St := (fun a b => if a = k then (if b = j then v else τ.1 a b) else τ.1 a b, τ.2)
def sL (τ : St) (k j : Nat) (v : Int64) : St := (τ.1, fun a b => if a = k then (if b = j then v else τ.2 a b) else τ.2 a b)
theorem fv_same {ad : Nat → Nat} {τ τ' : St} {k j : Nat} {ty : FieldType} (h1 : τ'.1 k j = τ.1 k j) (h2 : τ'.2 k j = τ.2 k j) : fv ad τ' k ty j = fv ad τ k ty j := by
  unfold fv
  rw [h1, h2]
theorem ec_same {ad : Nat → Nat} {cA : Nat → ClassId} {τ τ' : St} {k : Nat} (h1 : ∀ j, τ'.1 k j = τ.1 k j) (h2 : ∀ j, τ'.2 k j = τ.2 k j) : ec ad cA τ' k = ec ad cA τ k := by
  have e1 : τ'.1 k = τ.1 k := funext h1
  have e2 : τ'.2 k = τ.2 k := funext h2
  have e3 : pay ad τ' k = pay ad τ k := by unfold pay; rw [e1, e2]
  have e4 : ∀ j, fv ad τ' k (tyO (shp k) j) j = fv ad τ k (tyO (shp k) j) j := fun j => fv_same (h1 j) (h2 j)
  unfold ec
  rw [e3]
  simp only [e4]
theorem sI_o {τ : St} {k j a : Nat} {v : Int32} (h : a ≠ k) (b : Nat) : (sI τ k j v).1 a b = τ.1 a b := by simp [sI, h]
theorem sL_o {τ : St} {k j a : Nat} {v : Int64} (h : a ≠ k) (b : Nat) : (sL τ k j v).2 a b = τ.2 a b := by simp [sL, h]
theorem fs_set (f g : Nat → Value) (n j : Nat) (v : Value) (hj : g j = v) (ho : ∀ i, i ≠ j → g i = f i) : (List.range n).map g = ((List.range n).map f).set j v := by
  apply List.ext_getElem?
  intro i
  rw [List.getElem?_set]
  by_cases hij : j = i
  · subst hij
    by_cases hn : j < n
    · simp [hn, hj]
    · simp [hn]
  · simp only [hij, if_false]
    by_cases hn : i < n
    · simp [hn, ho i (fun h => hij h.symm)]
    · simp [hn]
theorem eW_putI {ad : Nat → Nat} {cA : Nat → ClassId} {τ : St} {k ci j : Nat} {v : Int32} (hs : shp k = ci) (hc : ci < 13) (ht : tyO ci j = .int) : (eW ad cA τ).set k (ad k, .inr (ci, ((List.range (nfO ci)).map (fun i => fv ad τ k (tyO ci i) i)).set j (.int v))) = eW ad cA (sI τ k j v) := by
  refine eW_set ?_ (fun a ha => ec_same (fun b => sI_o ha b) (fun _ => rfl))
  subst hs
  simp only [ec, hc, if_true]
  congr 2
  refine fs_set _ _ _ _ _ (by simp [ht, fv, sI]) (fun i hi => fv_same (by simp [sI, hi]) rfl)
theorem eW_putL {ad : Nat → Nat} {cA : Nat → ClassId} {τ : St} {k ci j : Nat} {v : Int64} (hs : shp k = ci) (hc : ci < 13) (ht : tyO ci j = .long) : (eW ad cA τ).set k (ad k, .inr (ci, ((List.range (nfO ci)).map (fun i => fv ad τ k (tyO ci i) i)).set j (.long v))) = eW ad cA (sL τ k j v) := by
  refine eW_set ?_ (fun a ha => ec_same (fun _ => rfl) (fun b => sL_o ha b))
  subst hs
  simp only [ec, hc, if_true]
  congr 2
  refine fs_set _ _ _ _ _ (by simp [ht, fv, sL]) (fun i hi => fv_same rfl (by simp [sL, hi]))
theorem eW_putR {ad : Nat → Nat} {cA : Nat → ClassId} {τ : St} {r : Nat} (h0 : Int32.ofNat r ≠ 0) (hr : (Int32.ofNat r).toNatClampNeg = r) : (eW ad cA τ).set 59 (ad 59, .inr (10, ((List.range (nfO 10)).map (fun i => fv ad τ 59 (tyO 10 i) i)).set 2 (.ref (ad r)))) = eW ad cA (sI τ 59 2 (Int32.ofNat r)) := by
  refine eW_set ?_ (fun a ha => ec_same (fun b => sI_o ha b) (fun _ => rfl))
  have hs : shp 59 = 10 := by decide
  simp only [ec, hs, show (10 : Nat) < 13 by decide, if_true]
  congr 2
  refine fs_set _ _ _ _ _ (by simp [tyO, tyX10, fv, sI, dynW, h0, hr]) (fun i hi => fv_same (by simp [sI, hi]) rfl)
theorem eW_stI {ad : Nat → Nat} {cA : Nat → ClassId} {τ : St} {k ci j : Nat} {v : Int32} (hs : shp k = ci) (hc : ci = 13 ∨ ci = 14 ∨ ci = 16) : (eW ad cA τ).set k (ad k, .inl (cA ci, len k, .inl (upd (τ.1 k) j v))) = eW ad cA (sI τ k j v) := by
  refine eW_set ?_ (fun a ha => ec_same (fun b => sI_o ha b) (fun _ => rfl))
  subst hs
  have h1 : ¬ shp k < 13 := by omega
  have h2 : ¬ shp k = 15 := by omega
  have h3 : ¬ shp k = 17 := by omega
  simp only [ec, h1, if_false, pay, h2, h3]
  congr 3
  congr 1
  funext b
  simp [sI, upd]
theorem eW_stL {ad : Nat → Nat} {cA : Nat → ClassId} {τ : St} {k j : Nat} {v : Int64} (hs : shp k = 15) : (eW ad cA τ).set k (ad k, .inl (cA 15, len k, .inr (.inl (vp_updL (τ.2 k) j v)))) = eW ad cA (sL τ k j v) := by
  refine eW_set ?_ (fun a ha => ec_same (fun _ => rfl) (fun b => sL_o ha b))
  have h1 : ¬ (15 : Nat) < 13 := by decide
  have e : (sL τ k j v).2 k = vp_updL (τ.2 k) j v := by funext b; simp [sL, vp_updL]
  simp only [ec, hs, h1, if_false, pay, if_true, e]
def tysA (cA : Nat → ClassId) : List (ClassId × FieldType) := [(cA 13, .char), (cA 14, .int), (cA 15, .long), (cA 16, .boolean), (cA 17, .object "OverTheHill$Moment")]
def adA (ad : Nat → Nat) : Nat → Prop := fun q => ∃ k, k < NC ∧ q = ad k
def Inj (ad : Nat → Nat) : Prop := ∀ i j, i < NC → j < NC → ad i = ad j → i = j
theorem eW_D {ad : Nat → Nat} {cA : Nat → ClassId} {τ : St} (h : Inj ad) : va_D (adA ad) (eW ad cA τ) := by
  refine ⟨fun i j p q hi hj e => ?_, fun k q hk => ?_⟩
  · have hi' : i < NC := by have := (List.getElem?_eq_some_iff.mp hi).1; simpa [eW] using this
    have hj' : j < NC := by have := (List.getElem?_eq_some_iff.mp hj).1; simpa [eW] using this
    rw [eW_get hi'] at hi
    rw [eW_get hj'] at hj
    cases hi; cases hj
    exact h i j hi' hj' e
  · have hk' : k < NC := by have := (List.getElem?_eq_some_iff.mp hk).1; simpa [eW] using this
    rw [eW_get hk'] at hk
    cases hk
    exact ⟨k, hk', rfl⟩
/-! the texts of the reference, as they stand in the launch -/
def sTx : List String := ["0123456789~*#", "wuvgh", "<>=", "+-", "*/", "dph"]
def sIx : List Nat := [183, 230, 238, 240, 242, 333]
def sLn : List Nat := [13, 5, 3, 2, 2, 3]
def sBy : List (List Int32) := [[48, 49, 50, 51, 52, 53, 54, 55, 56, 57, 126, 42, 35], [119, 117, 118, 103, 104], [60, 62, 61], [43, 45], [42, 47], [100, 112, 104]]
def SP (w : WP) (U : State) : Prop := vk_S 6 sLn sBy (fun i => w.1 (1000 + i)) (fun i => w.1 (2000 + i)) (adA w.1) U U.heap ∧ (∀ i, i < 6 → vk_R "OverTheHillModel" (sIx.getD i 0) (sTx.getD i "") (w.1 (1000 + i)) U) ∧ va_Z "java/lang/String" "COMPACT_STRINGS" "Z" (.int 1) (adA w.1) U U.heap ∧ (va_Z "jdk/internal/util/Preconditions" "SIOOBE_FORMATTER" "Ljava/util/function/BiFunction;" .null (adA w.1) U U.heap ∨ va_Z "jdk/internal/util/Preconditions" "SIOOBE_FORMATTER" "Ljava/util/function/BiFunction;" (.ref (w.1 3000)) (adA w.1) U U.heap)
theorem SP.step {w : WP} {s U : State} {H : Heap} {locs : List Loc} (h : SP w s) (hS : va_S (adA w.1) s.heap H locs) (hU : U.heap = H) (hW : s.WarmedH U.vm) : SP w U := by
  obtain ⟨h1, h2, h3, h4⟩ := h
  subst hU
  exact ⟨(h1.kept hS.2.1).moved hW.alike, fun i hi => (h2 i hi).warm hW, va_Z.moved hW.alike (h3.kept hS.2.1), h4.elim (fun h4 => Or.inl (va_Z.moved hW.alike (h4.kept hS.2.1))) (fun h4 => Or.inr (va_Z.moved hW.alike (h4.kept hS.2.1)))⟩
theorem SP.calling {w : WP} {U : State} (h : SP w U) (g : JFrame) (mk : MethodId) (a : Array Value) : SP w (U.calling g mk a) := by
  obtain ⟨h1, h2, h3, h4⟩ := h
  exact ⟨h1.moved (u := U) (U := U.calling g mk a) (Vm.Alike.refl U.vm), fun i hi => (h2 i hi).same rfl, va_Z.moved (u := U) (U := U.calling g mk a) (Vm.Alike.refl U.vm) h3, h4.elim (fun h4 => Or.inl (va_Z.moved (u := U) (U := U.calling g mk a) (Vm.Alike.refl U.vm) h4)) (fun h4 => Or.inr (va_Z.moved (u := U) (U := U.calling g mk a) (Vm.Alike.refl U.vm) h4))⟩
