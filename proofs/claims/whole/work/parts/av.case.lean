/-! THE LAW: a case of a call that both answer alike -/
abbrev cA (pc n iH iM : Nat) (off : Int) : Prop := decode code pc = .ok (.aload_n 1, 1) ∧ (∀ j, j < n → pA (pc + 1 + 6 * j) (0 + j + 1)) ∧ decode code (pc + 1 + 6 * n) = .ok (.invokevirtual iH, 3) ∧ decode code (pc + 4 + 6 * n) = .ok (.aload_n 2, 1) ∧ (∀ j, j < n → pA (pc + 5 + 6 * n + 6 * j) (0 + j + 1)) ∧ decode code (pc + 5 + 12 * n) = .ok (.invokevirtual iM, 3) ∧ decode code (pc + 8 + 12 * n) = .ok (.if_icmp .eq off, 3) ∧ ((pc + 8 + 12 * n : Nat) : Int) + off = (1542 : Nat)
theorem cat8 (ad : Nat → Nat) (v : Option Value) : (((v.map (mv ad)).toList ++ ([] : List Value)).map fun v : Value => v.category).sum ≤ 8 := by
  cases v with
  | none => exact Nat.zero_le _
  | some x => cases x <;> exact Nat.le_of_ble_eq_true rfl
section LAW
variable {w : WP} {p : Program} {l : Launch} {e : Env} {s : State} {m : MethodId} {below : List Frame} {meth : Method} {c : Code} {b L : Nat} {xs : Nat → Int32} {τ : St} {H : Heap} {cells slots : Nat} {Z : State → Prop} {ls : Array Slot}
theorem lcase (hC : LwC w p s m meth c b L xs) (hL : LwS w s τ H) {i t : Nat} (hv : LwV w b (nI i) ls) (hi : i + 5 ≤ L) (hcs : cells ≤ 601024 ∧ slots ≤ 7293034) (ht : t < 200000) (hI : Inv t τ) {pc n iH iM m1 m2 : Nat} {off : Int} {M1 M2 : MT} (hn : n ≤ 4) (hd : cA pc n iH iM off) (hF1 : mtb m1 = M1) (hF2 : mtb m2 = M2) (hc1 : CalV M1 n) (hc2 : CalV M2 n) (e1 : M1.1.cls = RX11) (e2 : M2.1.cls = RX12) (hw1 : Cond.methodLink R_law iH M1.1 ∈ lw_good) (hw2 : Cond.methodLink R_law iM M2.1 ∈ lw_good)
    (hp : PrI t m1 m2 (ag xs i n 0))
    (next : ∀ (τ' : St) (H' : Heap), Inv (t + 1) τ' → LwS w s τ' H' → W p l e room_1 s m #[Value.ref b] below meth c H' [] cells slots Z (F0 m 1542 ls [])) :
    W p l e room_1 s m #[Value.ref b] below meth c H [] cells slots Z (F0 m pc ls []) := by
  have ⟨⟨hx, hb, hr, hml, hown, hts, hX, hbl, hlocks, hgv⟩, hLL, hK, hIn, hsp, hnw, hA⟩ := hC
  obtain ⟨d0, d1, d2, d3, d4, d5, d6, d7⟩ := hd
  refine lv_aload_n hx hb d0 rfl (lv_at hv 3 rfl) ?_
  refine lpush hC hL.2 hv hi n 0 (pc + 1) _ (by omega) d1 ?_
  refine lcv hC hL (rest := []) hF1 hc1 fk_11 e1 ⟨by decide, by decide⟩ d2 hw1 (ag_len xs i n 0) (ag_mv w.1 xs i n 0) (by decide) hv.1 hcs (hp ht τ hI) (fun v τ1 H1 hq hL1 => ?_)
  rw [show pc + 1 + 6 * n + 3 = pc + 4 + 6 * n by omega]
  refine lv_aload_n hx hb d3 rfl (lv_at hv 2 rfl) ?_
  rw [show pc + 4 + 6 * n + 1 = pc + 5 + 6 * n by omega]
  refine lpush hC hL1.2 hv hi n 0 (pc + 5 + 6 * n) _ (by omega) d4 ?_
  rw [show pc + 5 + 6 * n + 6 * n = pc + 5 + 12 * n by omega]
  refine lcv hC hL1 (rest := (v.map (mv w.1)).toList ++ []) hF2 hc2 fk_12 e2 ⟨by decide, by decide⟩ d5 hw2 (ag_len xs i n 0) (ag_mv w.1 xs i n 0) (cat8 w.1 v) hv.1 hcs hq (fun v2 τ2 H2 hq2 hL2 => ?_)
  obtain ⟨⟨x, rfl, rfl⟩, hI2⟩ := hq2
  rw [show pc + 5 + 12 * n + 3 = pc + 8 + 12 * n by omega]
  refine lv_icmp_eq (tgt := 1542) hx hb d6 d7 (fun _ => ?_) (fun z => absurd rfl z)
  exact next τ2 H2 hI2 hL2
end LAW
