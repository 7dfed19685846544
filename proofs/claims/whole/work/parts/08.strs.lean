/-! texts' literals, wide constants -/
section STR
variable {F : Nat → MT} {M : MT} {pc : Nat}
theorem sd_ldcw {index : Nat} {v : Int32} (hdg : decode M.2.1 pc = .ok (.ldc_w index, 3)) (hw : Cond.constant M.1.cls index v ∈ lw_good) : Sound F M pc (t_push (.int v) (pc + 3)) := by
  intro w p l e R s m args below meth c d Z C Q hC hM hZ L st τ h H locs ls hl hP hS
  obtain ⟨hx, hb, hml, hr, hown, hts, hK, hI, hlk, hsp, hnw, hf, hlo⟩ := hC
  exact lv_ldcw hx hb hown (hts _ hw) hdg (h _ _ _ hl hP hS)
theorem sd_ldcS {index i : Nat} (hcls : M.1.cls = "OverTheHillModel") (hi : i < 6) (hx : sIx.getD i 0 = index) (hdg : decode M.2.1 pc = .ok (.ldc index, 2)) : Sound F M pc (t_push (.ref (1000 + i)) (pc + 2)) := by
  intro w p l e R s m args below meth c d Z C Q hC hM hZ L st τ h H locs ls hl hP hS
  obtain ⟨hx2, hb, hml, hr, hown, hts, hK, hI, hlk, hsp, hnw, hf, hlo⟩ := hC
  have hR := hsp.2.1 i hi
  rw [hx, ← hcls] at hR
  exact va_ldcS hx2 hb hown hR hdg (h _ _ _ hl hP hS)
theorem va_ldcSW {p : Program} {l : Launch} {e : Env} {R : Room} {s : State} {m : MethodId} {args : Array Value} {below : List Frame} {meth : Method} {c : Code} {H : Heap} {locs : List Loc} {cells slots : Nat} {Q : State → Prop} {ls : Array Slot} {rest : List Value} {cc : ByteArray} (hexec : p.tables.exec = Jvm.exec) (hb : c.code = cc) {own tx : String} {index q : Nat} (hown : s.vm.findClass own = some m.cls) (hZ : vk_R own index tx q s) (hdg : decode cc pc = .ok (.ldc_w index, 3))
    (k : W p l e R s m args below meth c H locs cells slots Q (F0 m (pc + 3) ls (.ref q :: rest))) : W p l e R s m args below meth c H locs cells slots Q (F0 m pc ls rest) := by
  intro T hT X
  obtain ⟨t, a1, b1⟩ := k T hT X
  exact ⟨t, X.ldcStringW hexec hown (text := tx) (a := q) hZ.1 hZ.2 (g := F0 m pc ls rest) rfl (by rw [hb]; exact hdg) t a1, b1⟩
theorem sd_ldcSW {index i : Nat} (hcls : M.1.cls = "OverTheHillModel") (hi : i < 6) (hx : sIx.getD i 0 = index) (hdg : decode M.2.1 pc = .ok (.ldc_w index, 3)) : Sound F M pc (t_push (.ref (1000 + i)) (pc + 3)) := by
  intro w p l e R s m args below meth c d Z C Q hC hM hZ L st τ h H locs ls hl hP hS
  obtain ⟨hx2, hb, hml, hr, hown, hts, hK, hI, hlk, hsp, hnw, hf, hlo⟩ := hC
  have hR := hsp.2.1 i hi
  rw [hx, ← hcls] at hR
  exact va_ldcSW hx2 hb hown hR hdg (h _ _ _ hl hP hS)
theorem sd_slen {idx : Nat} (hw : Cond.methodLink M.1.cls idx yJ0_length_8abf5 ∈ lw_good) (hdg : decode M.2.1 pc = .ok (.invokevirtual idx, 3)) : Sound F M pc (t_slen (pc + 3)) := sorry
theorem sd_schr {idx : Nat} (hw : Cond.methodLink M.1.cls idx yJ0_charAt_5068e ∈ lw_good) (hdg : decode M.2.1 pc = .ok (.invokevirtual idx, 3)) : Sound F M pc (t_schr (pc + 3)) := sorry
end STR
