/-! THE MACHINE DOES EACH STEP -/
theorem NW.step {s U : State} (h : NW s) (hW : s.WarmedH U.vm) : NW U := ⟨va_Nw.warmM hW h.1, va_Nw.warmM hW h.2⟩
theorem NW.calling {U : State} (h : NW U) (g : JFrame) (mk : MethodId) (a : Array Value) : NW (U.calling g mk a) := ⟨va_Nw.same rfl (u := U) (U := U.calling g mk a) rfl h.1, va_Nw.same rfl (u := U) (U := U.calling g mk a) rfl h.2⟩
theorem HW.calling {w : WP} {τ : St} {U : State} (h : HW w τ U) (g : JFrame) (mk : MethodId) (a : Array Value) : HW w τ (U.calling g mk a) :=
  ⟨h.1, va_K.moved (u := U) (U := U.calling g mk a) (Vm.Alike.refl U.vm) h.2.1, h.2.2.1, h.2.2.2.1.calling g mk a, h.2.2.2.2.calling g mk a⟩
theorem HW.of {w : WP} {τ : St} {s U : State} {H : Heap} {locs : List Loc} (hP : va_P w.2.2.1 hcls (eW w.1 w.2.2.2 τ) H) (hK : va_K w.2.2.1 hcls (tysA w.2.2.2) s) (hI : Inj w.1) (hsp : SP w s) (hnw : NW s) (hS : va_S (adA w.1) s.heap H locs) (hU : U.heap = H) (hW : s.WarmedH U.vm) : HW w τ U :=
  ⟨by rw [hU]; exact hP, hK.moved hW.alike, hI, hsp.step hS hU hW, hnw.step hW⟩
theorem blindP (w : WP) (As : List Value) (τ : St) : FrameBlind (pPre w As τ) := fun _ _ g mk h => ⟨h.1, h.2.calling g mk _⟩
def FK (ci : Nat) (C : String) (T : u_T) : Prop := ci < 13 ∧ hcls[ci]? = some (C, T, nfO ci) ∧ (∀ x ∈ u_ws C T (nfO ci), x ∈ lw_good) ∧ (∀ k, k < nfO ci → parseFieldDescriptor (T k).2.2.1 = some (tyO ci k)) ∧ (∀ a, a < nfO ci → ∀ b, b < nfO ci → a ≠ b → (T a).2.1 ≠ (T b).2.1)
section SND
variable {F : Nat → MT} {M : MT} {pc : Nat}
theorem sd_iconst {n : Int} {v : Int32} (hdg : decode M.2.1 pc = .ok (.iconst n, 1)) (hv : Int32.ofInt n = v) : Sound F M pc (t_push (.int v) (pc + 1)) := by
  intro w p l e R s m args below meth c d Z C Q hC hM hZ L st τ h H locs ls hl hP hS
  obtain ⟨hx, hb, hml, hr, hown, hts, hK, hI, hlk, hsp, hnw, hf, hlo⟩ := hC
  exact lv_iconst hx hb hdg hv (h _ _ _ hl hP hS)
theorem sd_bipush {n : Int} {v : Int32} (hdg : decode M.2.1 pc = .ok (.bipush n, 2)) (hv : (Int8.ofInt n).toInt32 = v) : Sound F M pc (t_push (.int v) (pc + 2)) := by
  intro w p l e R s m args below meth c d Z C Q hC hM hZ L st τ h H locs ls hl hP hS
  obtain ⟨hx, hb, hml, hr, hown, hts, hK, hI, hlk, hsp, hnw, hf, hlo⟩ := hC
  exact lv_bipush hx hb hdg hv (h _ _ _ hl hP hS)
theorem sd_sipush {n : Int} {v : Int32} (hdg : decode M.2.1 pc = .ok (.sipush n, 3)) (hv : (Int16.ofInt n).toInt32 = v) : Sound F M pc (t_push (.int v) (pc + 3)) := by
  intro w p l e R s m args below meth c d Z C Q hC hM hZ L st τ h H locs ls hl hP hS
  obtain ⟨hx, hb, hml, hr, hown, hts, hK, hI, hlk, hsp, hnw, hf, hlo⟩ := hC
  exact lv_sipush hx hb hdg hv (h _ _ _ hl hP hS)
theorem sd_lconst {n : Fin 2} {v : Int64} (hdg : decode M.2.1 pc = .ok (.lconst n, 1)) (hv : Int64.ofNat (n : Nat) = v) : Sound F M pc (t_push (.long v) (pc + 1)) := by
  intro w p l e R s m args below meth c d Z C Q hC hM hZ L st τ h H locs ls hl hP hS
  obtain ⟨hx, hb, hml, hr, hown, hts, hK, hI, hlk, hsp, hnw, hf, hlo⟩ := hC
  exact lv_lconst hx hb hdg hv (h _ _ _ hl hP hS)
theorem sd_ldc {index : Nat} {v : Int32} (hdg : decode M.2.1 pc = .ok (.ldc index, 2)) (hw : Cond.constant M.1.cls index v ∈ lw_good) : Sound F M pc (t_push (.int v) (pc + 2)) := by
  intro w p l e R s m args below meth c d Z C Q hC hM hZ L st τ h H locs ls hl hP hS
  obtain ⟨hx, hb, hml, hr, hown, hts, hK, hI, hlk, hsp, hnw, hf, hlo⟩ := hC
  exact lv_ldc hx hb hown (hts _ hw) hdg (h _ _ _ hl hP hS)
theorem sd_ldc2 {index : Nat} {v : Int64} (hdg : decode M.2.1 pc = .ok (.ldc2_w index, 3)) (hw : Cond.constantLong M.1.cls index v ∈ lw_good) : Sound F M pc (t_push (.long v) (pc + 3)) := by
  intro w p l e R s m args below meth c d Z C Q hC hM hZ L st τ h H locs ls hl hP hS
  obtain ⟨hx, hb, hml, hr, hown, hts, hK, hI, hlk, hsp, hnw, hf, hlo⟩ := hC
  exact lv_ldc2 hx hb hown (hts _ hw) hdg (h _ _ _ hl hP hS)
theorem sd_iload_n {k : Fin 4} {i : Nat} (hdg : decode M.2.1 pc = .ok (.iload_n k, 1)) (hi : (k : Nat) = i) : Sound F M pc (t_ild i (pc + 1)) := by
  intro w p l e R s m args below meth c d Z C Q hC hM hZ L st τ h H locs ls hl hP hS
  obtain ⟨hx, hb, hml, hr, hown, hts, hK, hI, hlk, hsp, hnw, hf, hlo⟩ := hC
  obtain ⟨x, q, h⟩ := h
  exact lv_iload_n hx hb hdg hi (lvP_at hl q) (h _ _ _ hl hP hS)
theorem sd_iload {i : Nat} (hdg : decode M.2.1 pc = .ok (.iload i, 2)) : Sound F M pc (t_ild i (pc + 2)) := by
  intro w p l e R s m args below meth c d Z C Q hC hM hZ L st τ h H locs ls hl hP hS
  obtain ⟨hx, hb, hml, hr, hown, hts, hK, hI, hlk, hsp, hnw, hf, hlo⟩ := hC
  obtain ⟨x, q, h⟩ := h
  exact lv_iload hx hb hdg (lvP_at hl q) (h _ _ _ hl hP hS)
theorem sd_lload_n {k : Fin 4} {i : Nat} (hdg : decode M.2.1 pc = .ok (.lload_n k, 1)) (hi : (k : Nat) = i) : Sound F M pc (t_lld i (pc + 1)) := by
  intro w p l e R s m args below meth c d Z C Q hC hM hZ L st τ h H locs ls hl hP hS
  obtain ⟨hx, hb, hml, hr, hown, hts, hK, hI, hlk, hsp, hnw, hf, hlo⟩ := hC
  obtain ⟨x, q, h⟩ := h
  exact lv_lload_n hx hb hdg hi (lvP_at hl q) (h _ _ _ hl hP hS)
theorem sd_lload {i : Nat} (hdg : decode M.2.1 pc = .ok (.lload i, 2)) : Sound F M pc (t_lld i (pc + 2)) := by
  intro w p l e R s m args below meth c d Z C Q hC hM hZ L st τ h H locs ls hl hP hS
  obtain ⟨hx, hb, hml, hr, hown, hts, hK, hI, hlk, hsp, hnw, hf, hlo⟩ := hC
  obtain ⟨x, q, h⟩ := h
  exact lv_lload hx hb hdg (lvP_at hl q) (h _ _ _ hl hP hS)
theorem sd_aload_n {k : Fin 4} {i : Nat} (hdg : decode M.2.1 pc = .ok (.aload_n k, 1)) (hi : (k : Nat) = i) : Sound F M pc (t_ald i (pc + 1)) := by
  intro w p l e R s m args below meth c d Z C Q hC hM hZ L st τ h H locs ls hl hP hS
  obtain ⟨hx, hb, hml, hr, hown, hts, hK, hI, hlk, hsp, hnw, hf, hlo⟩ := hC
  obtain ⟨x, q, h⟩ := h
  exact lv_aload_n hx hb hdg hi (lvP_at hl q) (h _ _ _ hl hP hS)
theorem sd_aload {i : Nat} (hdg : decode M.2.1 pc = .ok (.aload i, 2)) : Sound F M pc (t_ald i (pc + 2)) := by
  intro w p l e R s m args below meth c d Z C Q hC hM hZ L st τ h H locs ls hl hP hS
  obtain ⟨hx, hb, hml, hr, hown, hts, hK, hI, hlk, hsp, hnw, hf, hlo⟩ := hC
  obtain ⟨x, q, h⟩ := h
  exact lv_aload hx hb hdg (lvP_at hl q) (h _ _ _ hl hP hS)
theorem sd_istore_n {k : Fin 4} {i : Nat} (hdg : decode M.2.1 pc = .ok (.istore_n k, 1)) (hi : (k : Nat) = i) (hn : i < M.2.2.1) : Sound F M pc (t_ist i (pc + 1)) := by
  intro w p l e R s m args below meth c d Z C Q hC hM hZ L st τ h H locs ls hl hP hS
  obtain ⟨hx, hb, hml, hr, hown, hts, hK, hI, hlk, hsp, hnw, hf, hlo⟩ := hC
  obtain ⟨x, r, rfl, h⟩ := h
  exact lv_istore_n hx hb hdg hi hl.2 hn rfl (fun ls1 h1 => h _ _ _ (lvP_set1 hl h1) hP hS)
theorem sd_istore {i : Nat} (hdg : decode M.2.1 pc = .ok (.istore i, 2)) (hn : i < M.2.2.1) : Sound F M pc (t_ist i (pc + 2)) := by
  intro w p l e R s m args below meth c d Z C Q hC hM hZ L st τ h H locs ls hl hP hS
  obtain ⟨hx, hb, hml, hr, hown, hts, hK, hI, hlk, hsp, hnw, hf, hlo⟩ := hC
  obtain ⟨x, r, rfl, h⟩ := h
  exact lv_istore hx hb hdg hl.2 hn rfl (fun ls1 h1 => h _ _ _ (lvP_set1 hl h1) hP hS)
theorem sd_lstore_n {k : Fin 4} {i : Nat} (hdg : decode M.2.1 pc = .ok (.lstore_n k, 1)) (hi : (k : Nat) = i) (hn : i + 1 < M.2.2.1) : Sound F M pc (t_lst i (pc + 1)) := by
  intro w p l e R s m args below meth c d Z C Q hC hM hZ L st τ h H locs ls hl hP hS
  obtain ⟨hx, hb, hml, hr, hown, hts, hK, hI, hlk, hsp, hnw, hf, hlo⟩ := hC
  obtain ⟨x, r, rfl, h⟩ := h
  exact lv_lstore_n hx hb hdg hi hl.2 hn rfl (fun ls1 h1 => h _ _ _ (lvP_set2 hl h1) hP hS)
theorem sd_lstore {i : Nat} (hdg : decode M.2.1 pc = .ok (.lstore i, 2)) (hn : i + 1 < M.2.2.1) : Sound F M pc (t_lst i (pc + 2)) := by
  intro w p l e R s m args below meth c d Z C Q hC hM hZ L st τ h H locs ls hl hP hS
  obtain ⟨hx, hb, hml, hr, hown, hts, hK, hI, hlk, hsp, hnw, hf, hlo⟩ := hC
  obtain ⟨x, r, rfl, h⟩ := h
  exact lv_lstore hx hb hdg hl.2 hn rfl (fun ls1 h1 => h _ _ _ (lvP_set2 hl h1) hP hS)
theorem sd_astore_n {k : Fin 4} {i : Nat} (hdg : decode M.2.1 pc = .ok (.astore_n k, 1)) (hi : (k : Nat) = i) (hn : i < M.2.2.1) : Sound F M pc (t_ast i (pc + 1)) := by
  intro w p l e R s m args below meth c d Z C Q hC hM hZ L st τ h H locs ls hl hP hS
  obtain ⟨hx, hb, hml, hr, hown, hts, hK, hI, hlk, hsp, hnw, hf, hlo⟩ := hC
  obtain ⟨x, r, rfl, h⟩ := h
  exact lv_astore_n hx hb hdg hi hl.2 hn rfl (fun ls1 h1 => h _ _ _ (lvP_set1 (v := .ref x) hl h1) hP hS)
theorem sd_astore {i : Nat} (hdg : decode M.2.1 pc = .ok (.astore i, 2)) (hn : i < M.2.2.1) : Sound F M pc (t_ast i (pc + 2)) := by
  intro w p l e R s m args below meth c d Z C Q hC hM hZ L st τ h H locs ls hl hP hS
  obtain ⟨hx, hb, hml, hr, hown, hts, hK, hI, hlk, hsp, hnw, hf, hlo⟩ := hC
  obtain ⟨x, r, rfl, h⟩ := h
  exact lv_astore hx hb hdg hl.2 hn rfl (fun ls1 h1 => h _ _ _ (lvP_set1 (v := .ref x) hl h1) hP hS)
theorem sd_iinc {i : Nat} {n : Int} {v : Int32} (hdg : decode M.2.1 pc = .ok (.iinc i n, 3)) (hv : Int32.ofInt n = v) : Sound F M pc (t_iinc i v (pc + 3)) := by
  intro w p l e R s m args below meth c d Z C Q hC hM hZ L st τ h H locs ls hl hP hS
  obtain ⟨hx, hb, hml, hr, hown, hts, hK, hI, hlk, hsp, hnw, hf, hlo⟩ := hC
  obtain ⟨x, q, h⟩ := h
  subst hv
  obtain ⟨k, hk⟩ := List.getElem?_of_mem (mem_lvl (ad := w.1) (L := L) (i := 0) |>.mpr ⟨i, .int x, rfl, q⟩)
  have hn : i < M.2.2.1 := by rw [← hl.1]; exact (List.getElem?_eq_some_iff.mp q).1
  refine lv_iinc hx hb hdg hl.2 (k := k) (i := i) (x := x) (by rw [hk, Nat.zero_add]; rfl) rfl hn rfl (fun ls1 h1 => h _ _ _ (lvP_set1 hl h1) hP hS)
theorem sd_iadd (hdg : decode M.2.1 pc = .ok (.iadd, 1)) : Sound F M pc (t_bin (fun x y => x + y) (pc + 1)) := by
  intro w p l e R s m args below meth c d Z C Q hC hM hZ L st τ h H locs ls hl hP hS
  obtain ⟨hx, hb, hml, hr, hown, hts, hK, hI, hlk, hsp, hnw, hf, hlo⟩ := hC
  obtain ⟨x, y, r, rfl, h⟩ := h
  exact lv_iadd hx hb hdg (h _ _ _ hl hP hS)
theorem sd_isub (hdg : decode M.2.1 pc = .ok (.isub, 1)) : Sound F M pc (t_bin (fun x y => x - y) (pc + 1)) := by
  intro w p l e R s m args below meth c d Z C Q hC hM hZ L st τ h H locs ls hl hP hS
  obtain ⟨hx, hb, hml, hr, hown, hts, hK, hI, hlk, hsp, hnw, hf, hlo⟩ := hC
  obtain ⟨x, y, r, rfl, h⟩ := h
  exact lv_isub hx hb hdg (h _ _ _ hl hP hS)
theorem sd_imul (hdg : decode M.2.1 pc = .ok (.imul, 1)) : Sound F M pc (t_bin (fun x y => x * y) (pc + 1)) := by
  intro w p l e R s m args below meth c d Z C Q hC hM hZ L st τ h H locs ls hl hP hS
  obtain ⟨hx, hb, hml, hr, hown, hts, hK, hI, hlk, hsp, hnw, hf, hlo⟩ := hC
  obtain ⟨x, y, r, rfl, h⟩ := h
  exact lv_imul hx hb hdg (h _ _ _ hl hP hS)
theorem sd_iand (hdg : decode M.2.1 pc = .ok (.iand, 1)) : Sound F M pc (t_bin (fun x y => x &&& y) (pc + 1)) := by
  intro w p l e R s m args below meth c d Z C Q hC hM hZ L st τ h H locs ls hl hP hS
  obtain ⟨hx, hb, hml, hr, hown, hts, hK, hI, hlk, hsp, hnw, hf, hlo⟩ := hC
  obtain ⟨x, y, r, rfl, h⟩ := h
  exact lv_iand hx hb hdg (h _ _ _ hl hP hS)
theorem sd_ior (hdg : decode M.2.1 pc = .ok (.ior, 1)) : Sound F M pc (t_bin (fun x y => x ||| y) (pc + 1)) := by
  intro w p l e R s m args below meth c d Z C Q hC hM hZ L st τ h H locs ls hl hP hS
  obtain ⟨hx, hb, hml, hr, hown, hts, hK, hI, hlk, hsp, hnw, hf, hlo⟩ := hC
  obtain ⟨x, y, r, rfl, h⟩ := h
  exact lv_ior hx hb hdg (h _ _ _ hl hP hS)
theorem sd_ixor (hdg : decode M.2.1 pc = .ok (.ixor, 1)) : Sound F M pc (t_bin (fun x y => x ^^^ y) (pc + 1)) := by
  intro w p l e R s m args below meth c d Z C Q hC hM hZ L st τ h H locs ls hl hP hS
  obtain ⟨hx, hb, hml, hr, hown, hts, hK, hI, hlk, hsp, hnw, hf, hlo⟩ := hC
  obtain ⟨x, y, r, rfl, h⟩ := h
  exact lv_ixor hx hb hdg (h _ _ _ hl hP hS)
theorem sd_ishl (hdg : decode M.2.1 pc = .ok (.ishl, 1)) : Sound F M pc (t_bin (fun x y => x <<< (y &&& 31)) (pc + 1)) := by
  intro w p l e R s m args below meth c d Z C Q hC hM hZ L st τ h H locs ls hl hP hS
  obtain ⟨hx, hb, hml, hr, hown, hts, hK, hI, hlk, hsp, hnw, hf, hlo⟩ := hC
  obtain ⟨x, y, r, rfl, h⟩ := h
  exact lv_ishl hx hb hdg (h _ _ _ hl hP hS)
theorem sd_ishr (hdg : decode M.2.1 pc = .ok (.ishr, 1)) : Sound F M pc (t_bin (fun x y => x >>> (y &&& 31)) (pc + 1)) := by
  intro w p l e R s m args below meth c d Z C Q hC hM hZ L st τ h H locs ls hl hP hS
  obtain ⟨hx, hb, hml, hr, hown, hts, hK, hI, hlk, hsp, hnw, hf, hlo⟩ := hC
  obtain ⟨x, y, r, rfl, h⟩ := h
  exact lv_ishr hx hb hdg (h _ _ _ hl hP hS)
theorem sd_iushr (hdg : decode M.2.1 pc = .ok (.iushr, 1)) : Sound F M pc (t_bin (fun x y => (x.toUInt32 >>> (y.toUInt32 &&& Int32.toUInt32 31)).toInt32) (pc + 1)) := by
  intro w p l e R s m args below meth c d Z C Q hC hM hZ L st τ h H locs ls hl hP hS
  obtain ⟨hx, hb, hml, hr, hown, hts, hK, hI, hlk, hsp, hnw, hf, hlo⟩ := hC
  obtain ⟨x, y, r, rfl, h⟩ := h
  exact lv_iushr hx hb hdg rfl (h _ _ _ hl hP hS)
theorem sd_idiv (hdg : decode M.2.1 pc = .ok (.idiv, 1)) : Sound F M pc (t_binz (fun x y => x / y) (pc + 1)) := by
  intro w p l e R s m args below meth c d Z C Q hC hM hZ L st τ h H locs ls hl hP hS
  obtain ⟨hx, hb, hml, hr, hown, hts, hK, hI, hlk, hsp, hnw, hf, hlo⟩ := hC
  obtain ⟨x, y, r, rfl, hz, h⟩ := h
  exact lv_idiv hx hb hdg hz (h _ _ _ hl hP hS)
theorem sd_irem (hdg : decode M.2.1 pc = .ok (.irem, 1)) : Sound F M pc (t_binz (fun x y => x - x / y * y) (pc + 1)) := by
  intro w p l e R s m args below meth c d Z C Q hC hM hZ L st τ h H locs ls hl hP hS
  obtain ⟨hx, hb, hml, hr, hown, hts, hK, hI, hlk, hsp, hnw, hf, hlo⟩ := hC
  obtain ⟨x, y, r, rfl, hz, h⟩ := h
  exact lv_irem hx hb hdg hz (h _ _ _ hl hP hS)
theorem sd_lmul (hdg : decode M.2.1 pc = .ok (.lmul, 1)) : Sound F M pc (t_lbin (fun x y => x * y) (pc + 1)) := by
  intro w p l e R s m args below meth c d Z C Q hC hM hZ L st τ h H locs ls hl hP hS
  obtain ⟨hx, hb, hml, hr, hown, hts, hK, hI, hlk, hsp, hnw, hf, hlo⟩ := hC
  obtain ⟨x, y, r, rfl, h⟩ := h
  exact lv_lmul hx hb hdg (h _ _ _ hl hP hS)
theorem sd_ladd (hdg : decode M.2.1 pc = .ok (.ladd, 1)) : Sound F M pc (t_lbin (fun x y => x + y) (pc + 1)) := by
  intro w p l e R s m args below meth c d Z C Q hC hM hZ L st τ h H locs ls hl hP hS
  obtain ⟨hx, hb, hml, hr, hown, hts, hK, hI, hlk, hsp, hnw, hf, hlo⟩ := hC
  obtain ⟨x, y, r, rfl, h⟩ := h
  exact lv_ladd hx hb hdg (h _ _ _ hl hP hS)
theorem sd_lsub (hdg : decode M.2.1 pc = .ok (.lsub, 1)) : Sound F M pc (t_lbin (fun x y => x - y) (pc + 1)) := by
  intro w p l e R s m args below meth c d Z C Q hC hM hZ L st τ h H locs ls hl hP hS
  obtain ⟨hx, hb, hml, hr, hown, hts, hK, hI, hlk, hsp, hnw, hf, hlo⟩ := hC
  obtain ⟨x, y, r, rfl, h⟩ := h
  exact lv_lsub hx hb hdg (h _ _ _ hl hP hS)
theorem sd_land (hdg : decode M.2.1 pc = .ok (.land, 1)) : Sound F M pc (t_lbin (fun x y => x &&& y) (pc + 1)) := by
  intro w p l e R s m args below meth c d Z C Q hC hM hZ L st τ h H locs ls hl hP hS
  obtain ⟨hx, hb, hml, hr, hown, hts, hK, hI, hlk, hsp, hnw, hf, hlo⟩ := hC
  obtain ⟨x, y, r, rfl, h⟩ := h
  exact lv_land hx hb hdg (h _ _ _ hl hP hS)
theorem sd_lor (hdg : decode M.2.1 pc = .ok (.lor, 1)) : Sound F M pc (t_lbin (fun x y => x ||| y) (pc + 1)) := by
  intro w p l e R s m args below meth c d Z C Q hC hM hZ L st τ h H locs ls hl hP hS
  obtain ⟨hx, hb, hml, hr, hown, hts, hK, hI, hlk, hsp, hnw, hf, hlo⟩ := hC
  obtain ⟨x, y, r, rfl, h⟩ := h
  exact lv_lor hx hb hdg (h _ _ _ hl hP hS)
theorem sd_lxor (hdg : decode M.2.1 pc = .ok (.lxor, 1)) : Sound F M pc (t_lbin (fun x y => x ^^^ y) (pc + 1)) := by
  intro w p l e R s m args below meth c d Z C Q hC hM hZ L st τ h H locs ls hl hP hS
  obtain ⟨hx, hb, hml, hr, hown, hts, hK, hI, hlk, hsp, hnw, hf, hlo⟩ := hC
  obtain ⟨x, y, r, rfl, h⟩ := h
  exact lv_lxor hx hb hdg (h _ _ _ hl hP hS)
theorem sd_ldiv (hdg : decode M.2.1 pc = .ok (.ldiv, 1)) : Sound F M pc (t_lbinz (fun x y => x / y) (pc + 1)) := by
  intro w p l e R s m args below meth c d Z C Q hC hM hZ L st τ h H locs ls hl hP hS
  obtain ⟨hx, hb, hml, hr, hown, hts, hK, hI, hlk, hsp, hnw, hf, hlo⟩ := hC
  obtain ⟨x, y, r, rfl, hz, h⟩ := h
  exact lv_ldiv hx hb hdg hz (h _ _ _ hl hP hS)
theorem sd_lrem (hdg : decode M.2.1 pc = .ok (.lrem, 1)) : Sound F M pc (t_lbinz (fun x y => x - x / y * y) (pc + 1)) := by
  intro w p l e R s m args below meth c d Z C Q hC hM hZ L st τ h H locs ls hl hP hS
  obtain ⟨hx, hb, hml, hr, hown, hts, hK, hI, hlk, hsp, hnw, hf, hlo⟩ := hC
  obtain ⟨x, y, r, rfl, hz, h⟩ := h
  exact lv_lrem hx hb hdg hz (h _ _ _ hl hP hS)
theorem sd_lshl (hdg : decode M.2.1 pc = .ok (.lshl, 1)) : Sound F M pc (t_lsh (fun x y => x <<< (y.toInt64 &&& 63)) (pc + 1)) := by
  intro w p l e R s m args below meth c d Z C Q hC hM hZ L st τ h H locs ls hl hP hS
  obtain ⟨hx, hb, hml, hr, hown, hts, hK, hI, hlk, hsp, hnw, hf, hlo⟩ := hC
  obtain ⟨x, y, r, rfl, h⟩ := h
  exact lv_lshl hx hb hdg rfl (h _ _ _ hl hP hS)
theorem sd_lshr (hdg : decode M.2.1 pc = .ok (.lshr, 1)) : Sound F M pc (t_lsh (fun x y => x >>> (y.toInt64 &&& 63)) (pc + 1)) := by
  intro w p l e R s m args below meth c d Z C Q hC hM hZ L st τ h H locs ls hl hP hS
  obtain ⟨hx, hb, hml, hr, hown, hts, hK, hI, hlk, hsp, hnw, hf, hlo⟩ := hC
  obtain ⟨x, y, r, rfl, h⟩ := h
  exact lv_lshr hx hb hdg rfl (h _ _ _ hl hP hS)
theorem sd_lushr (hdg : decode M.2.1 pc = .ok (.lushr, 1)) : Sound F M pc (t_lsh (fun x y => (x.toUInt64 >>> (y.toInt64.toUInt64 &&& Int64.toUInt64 63)).toInt64) (pc + 1)) := by
  intro w p l e R s m args below meth c d Z C Q hC hM hZ L st τ h H locs ls hl hP hS
  obtain ⟨hx, hb, hml, hr, hown, hts, hK, hI, hlk, hsp, hnw, hf, hlo⟩ := hC
  obtain ⟨x, y, r, rfl, h⟩ := h
  exact lv_lushr hx hb hdg rfl (h _ _ _ hl hP hS)
theorem sd_ineg (hdg : decode M.2.1 pc = .ok (.ineg, 1)) : Sound F M pc (t_un (fun x => -x) (pc + 1)) := by
  intro w p l e R s m args below meth c d Z C Q hC hM hZ L st τ h H locs ls hl hP hS
  obtain ⟨hx, hb, hml, hr, hown, hts, hK, hI, hlk, hsp, hnw, hf, hlo⟩ := hC
  obtain ⟨x, r, rfl, h⟩ := h
  exact lv_ineg hx hb hdg (h _ _ _ hl hP hS)
theorem sd_i2b (hdg : decode M.2.1 pc = .ok (.i2b, 1)) : Sound F M pc (t_un (fun x => x.toInt8.toInt32) (pc + 1)) := by
  intro w p l e R s m args below meth c d Z C Q hC hM hZ L st τ h H locs ls hl hP hS
  obtain ⟨hx, hb, hml, hr, hown, hts, hK, hI, hlk, hsp, hnw, hf, hlo⟩ := hC
  obtain ⟨x, r, rfl, h⟩ := h
  exact lv_i2b hx hb hdg rfl (h _ _ _ hl hP hS)
theorem sd_i2s (hdg : decode M.2.1 pc = .ok (.i2s, 1)) : Sound F M pc (t_un (fun x => x.toInt16.toInt32) (pc + 1)) := by
  intro w p l e R s m args below meth c d Z C Q hC hM hZ L st τ h H locs ls hl hP hS
  obtain ⟨hx, hb, hml, hr, hown, hts, hK, hI, hlk, hsp, hnw, hf, hlo⟩ := hC
  obtain ⟨x, r, rfl, h⟩ := h
  exact lv_i2s hx hb hdg rfl (h _ _ _ hl hP hS)
theorem sd_i2c (hdg : decode M.2.1 pc = .ok (.i2c, 1)) : Sound F M pc (t_un (fun x => (x.toUInt32 % 65536).toInt32) (pc + 1)) := by
  intro w p l e R s m args below meth c d Z C Q hC hM hZ L st τ h H locs ls hl hP hS
  obtain ⟨hx, hb, hml, hr, hown, hts, hK, hI, hlk, hsp, hnw, hf, hlo⟩ := hC
  obtain ⟨x, r, rfl, h⟩ := h
  exact lv_i2c hx hb hdg rfl (h _ _ _ hl hP hS)
theorem sd_i2l (hdg : decode M.2.1 pc = .ok (.i2l, 1)) : Sound F M pc (t_il (pc + 1)) := by
  intro w p l e R s m args below meth c d Z C Q hC hM hZ L st τ h H locs ls hl hP hS
  obtain ⟨hx, hb, hml, hr, hown, hts, hK, hI, hlk, hsp, hnw, hf, hlo⟩ := hC
  obtain ⟨x, r, rfl, h⟩ := h
  exact lv_i2l hx hb hdg rfl (h _ _ _ hl hP hS)
theorem sd_l2i (hdg : decode M.2.1 pc = .ok (.l2i, 1)) : Sound F M pc (t_li (pc + 1)) := by
  intro w p l e R s m args below meth c d Z C Q hC hM hZ L st τ h H locs ls hl hP hS
  obtain ⟨hx, hb, hml, hr, hown, hts, hK, hI, hlk, hsp, hnw, hf, hlo⟩ := hC
  obtain ⟨x, r, rfl, h⟩ := h
  exact lv_l2i hx hb hdg rfl (h _ _ _ hl hP hS)
theorem sd_lcmp (hdg : decode M.2.1 pc = .ok (.lcmp, 1)) : Sound F M pc (t_lcmp (pc + 1)) := by
  intro w p l e R s m args below meth c d Z C Q hC hM hZ L st τ h H locs ls hl hP hS
  obtain ⟨hx, hb, hml, hr, hown, hts, hK, hI, hlk, hsp, hnw, hf, hlo⟩ := hC
  obtain ⟨x, y, r, rfl, h⟩ := h
  exact W.lcmp hx hb hdg (h _ _ _ hl hP hS)
theorem sd_dup (hdg : decode M.2.1 pc = .ok (.dup, 1)) : Sound F M pc (t_dup (pc + 1)) := by
  intro w p l e R s m args below meth c d Z C Q hC hM hZ L st τ h H locs ls hl hP hS
  obtain ⟨hx, hb, hml, hr, hown, hts, hK, hI, hlk, hsp, hnw, hf, hlo⟩ := hC
  obtain ⟨v, r, rfl, hc, h⟩ := h
  exact lv_dup hx hb hdg (by rw [mv_cat]; exact hc) (h _ _ _ hl hP hS)
theorem sd_dup2 (hdg : decode M.2.1 pc = .ok (.dup2, 1)) : Sound F M pc (t_dup2 (pc + 1)) := by
  intro w p l e R s m args below meth c d Z C Q hC hM hZ L st τ h H locs ls hl hP hS
  obtain ⟨hx, hb, hml, hr, hown, hts, hK, hI, hlk, hsp, hnw, hf, hlo⟩ := hC
  obtain ⟨v, u, r, rfl, hc, hc2, h⟩ := h
  exact lv_dup2_11 hx hb hdg (by rw [mv_cat]; exact hc) (by rw [mv_cat]; exact hc2) (h _ _ _ hl hP hS)
theorem sd_dup2l (hdg : decode M.2.1 pc = .ok (.dup2, 1)) : Sound F M pc (t_dup2l (pc + 1)) := by
  intro w p l e R s m args below meth c d Z C Q hC hM hZ L st τ h H locs ls hl hP hS
  obtain ⟨hx, hb, hml, hr, hown, hts, hK, hI, hlk, hsp, hnw, hf, hlo⟩ := hC
  obtain ⟨v, r, rfl, hc, h⟩ := h
  exact lv_dup2_2 hx hb hdg (by rw [mv_cat]; exact hc) (h _ _ _ hl hP hS)
theorem sd_pop (hdg : decode M.2.1 pc = .ok (.pop, 1)) : Sound F M pc (t_pop (pc + 1)) := by
  intro w p l e R s m args below meth c d Z C Q hC hM hZ L st τ h H locs ls hl hP hS
  obtain ⟨hx, hb, hml, hr, hown, hts, hK, hI, hlk, hsp, hnw, hf, hlo⟩ := hC
  obtain ⟨v, r, rfl, hc, h⟩ := h
  exact lv_pop hx hb hdg (by rw [mv_cat]; exact hc) (h _ _ _ hl hP hS)
section BR
variable {off : Int} {tg : Nat}
theorem sd_ifeq (hdg : decode M.2.1 pc = .ok (.ifCond .eq off, 3)) (ht : (pc : Int) + off = (tg : Int)) : Sound F M pc (t_if (fun x => x = 0) tg (pc + 3)) := by
  intro w p l e R s m args below meth c d Z C Q hC hM hZ L st τ h H locs ls hl hP hS
  obtain ⟨hx, hb, hml, hr, hown, hts, hK, hI, hlk, hsp, hnw, hf, hlo⟩ := hC
  obtain ⟨x, r, rfl, h, h2⟩ := h
  exact lv_if_eq hx hb hdg ht (fun z => h z _ _ _ hl hP hS) (fun z => h2 z _ _ _ hl hP hS)
theorem sd_ifne (hdg : decode M.2.1 pc = .ok (.ifCond .ne off, 3)) (ht : (pc : Int) + off = (tg : Int)) : Sound F M pc (t_ifn (fun x => x = 0) tg (pc + 3)) := by
  intro w p l e R s m args below meth c d Z C Q hC hM hZ L st τ h H locs ls hl hP hS
  obtain ⟨hx, hb, hml, hr, hown, hts, hK, hI, hlk, hsp, hnw, hf, hlo⟩ := hC
  obtain ⟨x, r, rfl, h, h2⟩ := h
  exact lv_if_ne hx hb hdg ht (fun z => h z _ _ _ hl hP hS) (fun z => h2 z _ _ _ hl hP hS)
theorem sd_iflt (hdg : decode M.2.1 pc = .ok (.ifCond .lt off, 3)) (ht : (pc : Int) + off = (tg : Int)) : Sound F M pc (t_if (fun x => x < 0) tg (pc + 3)) := by
  intro w p l e R s m args below meth c d Z C Q hC hM hZ L st τ h H locs ls hl hP hS
  obtain ⟨hx, hb, hml, hr, hown, hts, hK, hI, hlk, hsp, hnw, hf, hlo⟩ := hC
  obtain ⟨x, r, rfl, h, h2⟩ := h
  exact lv_if_lt hx hb hdg ht (fun z => h z _ _ _ hl hP hS) (fun z => h2 z _ _ _ hl hP hS)
theorem sd_ifge (hdg : decode M.2.1 pc = .ok (.ifCond .ge off, 3)) (ht : (pc : Int) + off = (tg : Int)) : Sound F M pc (t_if (fun x => 0 ≤ x) tg (pc + 3)) := by
  intro w p l e R s m args below meth c d Z C Q hC hM hZ L st τ h H locs ls hl hP hS
  obtain ⟨hx, hb, hml, hr, hown, hts, hK, hI, hlk, hsp, hnw, hf, hlo⟩ := hC
  obtain ⟨x, r, rfl, h, h2⟩ := h
  exact lv_if_ge hx hb hdg ht (fun z => h z _ _ _ hl hP hS) (fun z => h2 z _ _ _ hl hP hS)
theorem sd_ifgt (hdg : decode M.2.1 pc = .ok (.ifCond .gt off, 3)) (ht : (pc : Int) + off = (tg : Int)) : Sound F M pc (t_if (fun x => 0 < x) tg (pc + 3)) := by
  intro w p l e R s m args below meth c d Z C Q hC hM hZ L st τ h H locs ls hl hP hS
  obtain ⟨hx, hb, hml, hr, hown, hts, hK, hI, hlk, hsp, hnw, hf, hlo⟩ := hC
  obtain ⟨x, r, rfl, h, h2⟩ := h
  exact lv_if_gt hx hb hdg ht (fun z => h z _ _ _ hl hP hS) (fun z => h2 z _ _ _ hl hP hS)
theorem sd_ifle (hdg : decode M.2.1 pc = .ok (.ifCond .le off, 3)) (ht : (pc : Int) + off = (tg : Int)) : Sound F M pc (t_if (fun x => x ≤ 0) tg (pc + 3)) := by
  intro w p l e R s m args below meth c d Z C Q hC hM hZ L st τ h H locs ls hl hP hS
  obtain ⟨hx, hb, hml, hr, hown, hts, hK, hI, hlk, hsp, hnw, hf, hlo⟩ := hC
  obtain ⟨x, r, rfl, h, h2⟩ := h
  exact lv_if_le hx hb hdg ht (fun z => h z _ _ _ hl hP hS) (fun z => h2 z _ _ _ hl hP hS)
theorem sd_iceq (hdg : decode M.2.1 pc = .ok (.if_icmp .eq off, 3)) (ht : (pc : Int) + off = (tg : Int)) : Sound F M pc (t_ic (fun x y => x = y) tg (pc + 3)) := by
  intro w p l e R s m args below meth c d Z C Q hC hM hZ L st τ h H locs ls hl hP hS
  obtain ⟨hx, hb, hml, hr, hown, hts, hK, hI, hlk, hsp, hnw, hf, hlo⟩ := hC
  obtain ⟨x, y, r, rfl, h, h2⟩ := h
  exact lv_icmp_eq hx hb hdg ht (fun z => h z _ _ _ hl hP hS) (fun z => h2 z _ _ _ hl hP hS)
theorem sd_icne (hdg : decode M.2.1 pc = .ok (.if_icmp .ne off, 3)) (ht : (pc : Int) + off = (tg : Int)) : Sound F M pc (t_icn (fun x y => x = y) tg (pc + 3)) := by
  intro w p l e R s m args below meth c d Z C Q hC hM hZ L st τ h H locs ls hl hP hS
  obtain ⟨hx, hb, hml, hr, hown, hts, hK, hI, hlk, hsp, hnw, hf, hlo⟩ := hC
  obtain ⟨x, y, r, rfl, h, h2⟩ := h
  exact lv_icmp_ne hx hb hdg ht (fun z => h z _ _ _ hl hP hS) (fun z => h2 z _ _ _ hl hP hS)
theorem sd_iclt (hdg : decode M.2.1 pc = .ok (.if_icmp .lt off, 3)) (ht : (pc : Int) + off = (tg : Int)) : Sound F M pc (t_ic (fun x y => x < y) tg (pc + 3)) := by
  intro w p l e R s m args below meth c d Z C Q hC hM hZ L st τ h H locs ls hl hP hS
  obtain ⟨hx, hb, hml, hr, hown, hts, hK, hI, hlk, hsp, hnw, hf, hlo⟩ := hC
  obtain ⟨x, y, r, rfl, h, h2⟩ := h
  exact lv_icmp_lt hx hb hdg ht (fun z => h z _ _ _ hl hP hS) (fun z => h2 z _ _ _ hl hP hS)
theorem sd_icge (hdg : decode M.2.1 pc = .ok (.if_icmp .ge off, 3)) (ht : (pc : Int) + off = (tg : Int)) : Sound F M pc (t_ic (fun x y => y ≤ x) tg (pc + 3)) := by
  intro w p l e R s m args below meth c d Z C Q hC hM hZ L st τ h H locs ls hl hP hS
  obtain ⟨hx, hb, hml, hr, hown, hts, hK, hI, hlk, hsp, hnw, hf, hlo⟩ := hC
  obtain ⟨x, y, r, rfl, h, h2⟩ := h
  exact lv_icmp_ge hx hb hdg ht (fun z => h z _ _ _ hl hP hS) (fun z => h2 z _ _ _ hl hP hS)
theorem sd_icgt (hdg : decode M.2.1 pc = .ok (.if_icmp .gt off, 3)) (ht : (pc : Int) + off = (tg : Int)) : Sound F M pc (t_ic (fun x y => y < x) tg (pc + 3)) := by
  intro w p l e R s m args below meth c d Z C Q hC hM hZ L st τ h H locs ls hl hP hS
  obtain ⟨hx, hb, hml, hr, hown, hts, hK, hI, hlk, hsp, hnw, hf, hlo⟩ := hC
  obtain ⟨x, y, r, rfl, h, h2⟩ := h
  exact lv_icmp_gt hx hb hdg ht (fun z => h z _ _ _ hl hP hS) (fun z => h2 z _ _ _ hl hP hS)
theorem sd_icle (hdg : decode M.2.1 pc = .ok (.if_icmp .le off, 3)) (ht : (pc : Int) + off = (tg : Int)) : Sound F M pc (t_ic (fun x y => x ≤ y) tg (pc + 3)) := by
  intro w p l e R s m args below meth c d Z C Q hC hM hZ L st τ h H locs ls hl hP hS
  obtain ⟨hx, hb, hml, hr, hown, hts, hK, hI, hlk, hsp, hnw, hf, hlo⟩ := hC
  obtain ⟨x, y, r, rfl, h, h2⟩ := h
  exact lv_icmp_le hx hb hdg ht (fun z => h z _ _ _ hl hP hS) (fun z => h2 z _ _ _ hl hP hS)
theorem sd_ifnull (hdg : decode M.2.1 pc = .ok (.ifnull off, 3)) (ht : (pc : Int) + off = (tg : Int)) : Sound F M pc (t_ifnull tg (pc + 3)) := by
  intro w p l e R s m args below meth c d Z C Q hC hM hZ L st τ h H locs ls hl hP hS
  obtain ⟨hx, hb, hml, hr, hown, hts, hK, hI, hlk, hsp, hnw, hf, hlo⟩ := hC
  rcases h with ⟨r, rfl, h⟩ | ⟨k, r, rfl, h⟩
  · exact lv_ifnullN hx hb hdg ht (h _ _ _ hl hP hS)
  · exact lv_ifnull hx hb hdg (h _ _ _ hl hP hS)
theorem sd_goto (hdg : decode M.2.1 pc = .ok (.goto off, 3)) (ht : (pc : Int) + off = (tg : Int)) : Sound F M pc (t_goto tg) := by
  intro w p l e R s m args below meth c d Z C Q hC hM hZ L st τ h H locs ls hl hP hS
  obtain ⟨hx, hb, hml, hr, hown, hts, hK, hI, hlk, hsp, hnw, hf, hlo⟩ := hC
  exact lv_goto hx hb hdg ht (h _ _ _ hl hP hS)
end BR
def tsOk (pc : Nat) (lo hi : Int) (offs : Array Int) (cs : List (Int32 × Nat)) : Bool := decide (lo ≤ hi) && decide ((cs.length : Int) = hi - lo + 1) && (List.range cs.length).all (fun i => decide ((cs.getD i (0, 0)).1.toInt = lo + i) && decide (offs[i]? = some (((cs.getD i (0, 0)).2 : Int) - pc)))
theorem sd_tsw {dflt lo hi : Int} {offs : Array Int} {len : Nat} {cs : List (Int32 × Nat)} {dd : Nat} (hdg : decode M.2.1 pc = .ok (.tableswitch dflt lo hi offs, len)) (hok : tsOk pc lo hi offs cs = true) (hd : (pc : Int) + dflt = (dd : Int)) : Sound F M pc (t_sw cs dd) := by
  intro w p l e R s m args below meth c d Z C Q hC hM hZ L st τ h H locs ls hl hP hS
  obtain ⟨hx, hb, hml, hr, hown, hts, hK, hI, hlk, hsp, hnw, hf, hlo⟩ := hC
  obtain ⟨x, r, rfl, h, h2⟩ := h
  simp only [tsOk, Bool.and_eq_true, decide_eq_true_eq, List.all_eq_true, List.mem_range] at hok
  obtain ⟨⟨k1, k2⟩, k3⟩ := hok
  by_cases hx2 : x.toInt < lo ∨ hi < x.toInt
  · refine lv_tableOut hx hb hdg hx2 hd (h2 (fun q hq e => ?_) _ _ _ hl hP hS)
    obtain ⟨i, hi2⟩ := List.getElem?_of_mem hq
    have hi3 : i < cs.length := (List.getElem?_eq_some_iff.mp hi2).1
    have e1 := (k3 i hi3).1
    rw [List.getD_eq_getElem?_getD, hi2] at e1
    simp only [Option.getD_some] at e1
    rw [e] at hx2
    omega
  · have hi3 : (x.toInt - lo).toNat < cs.length := by omega
    obtain ⟨e1, e2⟩ := k3 _ hi3
    have hg : cs[(x.toInt - lo).toNat]? = some (cs.getD (x.toInt - lo).toNat (0, 0)) := by rw [List.getD_eq_getElem?_getD, List.getElem?_eq_getElem hi3]; rfl
    refine lv_tableIn hx hb hdg (by omega) (by omega) e2 (tgt := (cs.getD (x.toInt - lo).toNat (0, 0)).2) (by omega) (h _ (List.mem_of_getElem? hg) (Int32.toInt_inj.mp (by omega)) _ _ _ hl hP hS)
def lkOk (pc : Nat) (ps : List (Int × Int)) (cs : List (Int32 × Nat)) : Bool := decide (cs.map (fun q => (q.1.toInt, (q.2 : Int) - pc)) = ps)
theorem lk_off (pc : Nat) (d : Int) (x : Int32) : ∀ cs : List (Int32 × Nat), (∃ q ∈ cs, x = q.1 ∧ Op.lookupswitch.offset (cs.map (fun q => (q.1.toInt, (q.2 : Int) - pc))) d x.toInt = (q.2 : Int) - pc) ∨ ((∀ q ∈ cs, ¬ x = q.1) ∧ Op.lookupswitch.offset (cs.map (fun q => (q.1.toInt, (q.2 : Int) - pc))) d x.toInt = d)
  | [] => Or.inr ⟨fun _ h => absurd h List.not_mem_nil, rfl⟩
  | q :: cs => by
    by_cases hq : x = q.1
    · refine Or.inl ⟨q, List.mem_cons_self, hq, ?_⟩
      rw [List.map_cons, Op.lookupswitch.offset_cons, if_pos (by rw [hq])]
    · have e : Op.lookupswitch.offset ((q :: cs).map (fun q => (q.1.toInt, (q.2 : Int) - pc))) d x.toInt = Op.lookupswitch.offset (cs.map (fun q => (q.1.toInt, (q.2 : Int) - pc))) d x.toInt := lv_osw hq rfl
      rw [e]
      rcases lk_off pc d x cs with ⟨a, h1, h2, h3⟩ | ⟨h1, h2⟩
      · exact Or.inl ⟨a, List.mem_cons_of_mem _ h1, h2, h3⟩
      · exact Or.inr ⟨fun a ha => (List.mem_cons.mp ha).elim (fun z => by rw [z]; exact hq) (h1 a), h2⟩
theorem sd_lsw {dflt : Int} {ps : Array (Int × Int)} {len : Nat} {cs : List (Int32 × Nat)} {dd : Nat} (hdg : decode M.2.1 pc = .ok (.lookupswitch dflt ps, len)) (hp : (ps.toList.zip (ps.toList.drop 1)).all (fun (a, next) => a.1 < next.1) = true) (hok : lkOk pc ps.toList cs = true) (hd : (pc : Int) + dflt = (dd : Int)) : Sound F M pc (t_sw cs dd) := by
  intro w p l e R s m args below meth c d Z C Q hC hM hZ L st τ h H locs ls hl hP hS
  obtain ⟨hx, hb, hml, hr, hown, hts, hK, hI, hlk, hsp, hnw, hf, hlo⟩ := hC
  obtain ⟨x, r, rfl, h, h2⟩ := h
  simp only [lkOk, decide_eq_true_eq] at hok
  rcases lk_off pc dflt x cs with ⟨q, h3, h4, h5⟩ | ⟨h3, h5⟩
  · exact lv_lookup hx hb hdg hp (off := (q.2 : Int) - pc) (by rw [← hok]; exact h5) (by omega) (h q h3 h4 _ _ _ hl hP hS)
  · exact lv_lookup hx hb hdg hp (off := dflt) (by rw [← hok]; exact h5) hd (h2 h3 _ _ _ hl hP hS)
section FLD
variable {ci j idx : Nat} {CC : String} {T : u_T}
theorem fs_get {w : WP} {τ : St} {k : Nat} (hj : j < nfO ci) : ((List.range (nfO ci)).map (fun i => fv w.1 τ k (tyO ci i) i))[j]? = some (fv w.1 τ k (tyO ci j) j) := by
  rw [List.getElem?_map, List.getElem?_range hj]; rfl
theorem sd_gI (fk : FK ci CC T) (hj : j < nfO ci) (ht : tyO ci j = .int) (hdg : decode M.2.1 pc = .ok (.getfield idx, 3)) (hw : Cond.fieldLink M.1.cls idx (T j).1 (T j).2.1 (T j).2.2.1 ∈ lw_good) : Sound F M pc (t_gI ci j (pc + 3)) := by
  intro w p l e R s m args below meth c d Z C Q hC hM hZ L st τ h H locs ls hl hP hS
  obtain ⟨hx, hb, hml, hr, hown, hts, hK, hI, hlk, hsp, hnw, hf, hlo⟩ := hC
  obtain ⟨k, r, rfl, ⟨hk, hs⟩, h⟩ := h
  obtain ⟨f1, f2, f3, f4, f5⟩ := fk
  exact va_get hx hb hts f3 hown hK hP k (eW_obj hk hs f1) f2 j hj (hts _ hw) (fun _ z => z) (by rw [fs_get (w := w) hj, ht]; rfl) hdg (h _ _ _ hl hP hS)
theorem sd_gL (fk : FK ci CC T) (hj : j < nfO ci) (ht : tyO ci j = .long) (hdg : decode M.2.1 pc = .ok (.getfield idx, 3)) (hw : Cond.fieldLink M.1.cls idx (T j).1 (T j).2.1 (T j).2.2.1 ∈ lw_good) : Sound F M pc (t_gL ci j (pc + 3)) := by
  intro w p l e R s m args below meth c d Z C Q hC hM hZ L st τ h H locs ls hl hP hS
  obtain ⟨hx, hb, hml, hr, hown, hts, hK, hI, hlk, hsp, hnw, hf, hlo⟩ := hC
  obtain ⟨k, r, rfl, ⟨hk, hs⟩, h⟩ := h
  obtain ⟨f1, f2, f3, f4, f5⟩ := fk
  exact va_get hx hb hts f3 hown hK hP k (eW_obj hk hs f1) f2 j hj (hts _ hw) (fun _ z => z) (by rw [fs_get (w := w) hj, ht]; rfl) hdg (h _ _ _ hl hP hS)
theorem fv_ref {ad : Nat → Nat} {τ : St} {k : Nat} {ty : FieldType} (h1 : ty ≠ .int) (h2 : ty ≠ .long) (hd : dynW k j = false) : fv ad τ k ty j = .ref (ad (rtab k j)) := by
  unfold fv
  split
  · exact absurd rfl h1
  · exact absurd rfl h2
  · rw [hd]; rfl
theorem sd_gR (fk : FK ci CC T) (hj : j < nfO ci) (ht : tyO ci j ≠ .int) (ht2 : tyO ci j ≠ .long) (hd : ci ≠ 10 ∨ j ≠ 2) (hdg : decode M.2.1 pc = .ok (.getfield idx, 3)) (hw : Cond.fieldLink M.1.cls idx (T j).1 (T j).2.1 (T j).2.2.1 ∈ lw_good) : Sound F M pc (t_gR ci j (pc + 3)) := by
  intro w p l e R s m args below meth c d Z C Q hC hM hZ L st τ h H locs ls hl hP hS
  obtain ⟨hx, hb, hml, hr, hown, hts, hK, hI, hlk, hsp, hnw, hf, hlo⟩ := hC
  obtain ⟨k, r, rfl, ⟨hk, hs⟩, h⟩ := h
  obtain ⟨f1, f2, f3, f4, f5⟩ := fk
  have hdy : dynW k j = false := by
    rcases hd with q | q
    · have : k ≠ 59 := fun z => q (by rw [← hs, z]; decide)
      simp [dynW, this]
    · have q2 : Nat.beq j 2 = false := by
        cases z : Nat.beq j 2 with
        | true => exact absurd (Nat.eq_of_beq_eq_true z) q
        | false => rfl
      unfold dynW
      rw [q2, Bool.and_false]
  exact va_get hx hb hts f3 hown hK hP k (eW_obj hk hs f1) f2 j hj (hts _ hw) (fun _ z => z) (by rw [fs_get (w := w) hj, fv_ref ht ht2 hdy]; rfl) hdg (h _ _ _ hl hP hS)
theorem sd_gD (fk : FK 10 CC T) (hdg : decode M.2.1 pc = .ok (.getfield idx, 3)) (hw : Cond.fieldLink M.1.cls idx (T 2).1 (T 2).2.1 (T 2).2.2.1 ∈ lw_good) : Sound F M pc (t_gD (pc + 3)) := by
  intro w p l e R s m args below meth c d Z C Q hC hM hZ L st τ h H locs ls hl hP hS
  obtain ⟨hx, hb, hml, hr, hown, hts, hK, hI, hlk, hsp, hnw, hf, hlo⟩ := hC
  obtain ⟨r, rfl, h⟩ := h
  obtain ⟨f1, f2, f3, f4, f5⟩ := fk
  have e : fv w.1 τ 59 (tyO 10 2) 2 = mv w.1 (if τ.1 59 2 = 0 then Value.null else .ref (τ.1 59 2).toNatClampNeg) := by
    show (if dynW 59 2 = true then (if τ.1 59 2 = 0 then Value.null else Value.ref (w.1 (τ.1 59 2).toNatClampNeg)) else Value.ref (w.1 (rtab 59 2))) = _
    rw [if_pos (by decide)]
    split <;> rfl
  exact va_get hx hb hts f3 hown hK hP 59 (eW_obj (by decide) (by decide) f1) f2 2 (by decide) (hts _ hw) (fun _ z => z) (by rw [fs_get (w := w) (by decide), e]) hdg (h _ _ _ hl hP hS)
theorem sd_pI (fk : FK ci CC T) (hj : j < nfO ci) (ht : tyO ci j = .int) (hfin : (T j).2.2.2 = false) (hdg : decode M.2.1 pc = .ok (.putfield idx, 3)) (hw : Cond.fieldLink M.1.cls idx (T j).1 (T j).2.1 (T j).2.2.1 ∈ lw_good) : Sound F M pc (t_pI ci j (pc + 3)) := by
  intro w p l e R s m args below meth c d Z C Q hC hM hZ L st τ h H locs ls hl hP hS
  obtain ⟨hx, hb, hml, hr, hown, hts, hK, hI, hlk, hsp, hnw, hf, hlo⟩ := hC
  obtain ⟨k, x, r, rfl, ⟨hk, hs⟩, h⟩ := h
  obtain ⟨f1, f2, f3, f4, f5⟩ := fk
  refine va_put hx hb hts f3 (tyO ci) f4 f5 hown hK hP (eW_D hI) hS k (eW_obj hk hs f1) f2 j hj (hts _ hw) (fun _ z => z) hfin (ty := .int) (v := .int x) (by rw [← ht]; exact f4 j hj) rfl rfl (by simpa using hj) hdg (fun H1 locs1 hP1 hD1 hS1 => ?_)
  rw [eW_putI hs f1 ht] at hP1
  exact h _ _ _ hl hP1 hS1
theorem sd_pL (fk : FK ci CC T) (hj : j < nfO ci) (ht : tyO ci j = .long) (hfin : (T j).2.2.2 = false) (hdg : decode M.2.1 pc = .ok (.putfield idx, 3)) (hw : Cond.fieldLink M.1.cls idx (T j).1 (T j).2.1 (T j).2.2.1 ∈ lw_good) : Sound F M pc (t_pL ci j (pc + 3)) := by
  intro w p l e R s m args below meth c d Z C Q hC hM hZ L st τ h H locs ls hl hP hS
  obtain ⟨hx, hb, hml, hr, hown, hts, hK, hI, hlk, hsp, hnw, hf, hlo⟩ := hC
  obtain ⟨k, x, r, rfl, ⟨hk, hs⟩, h⟩ := h
  obtain ⟨f1, f2, f3, f4, f5⟩ := fk
  refine va_put hx hb hts f3 (tyO ci) f4 f5 hown hK hP (eW_D hI) hS k (eW_obj hk hs f1) f2 j hj (hts _ hw) (fun _ z => z) hfin (ty := .long) (v := .long x) (by rw [← ht]; exact f4 j hj) rfl rfl (by simpa using hj) hdg (fun H1 locs1 hP1 hD1 hS1 => ?_)
  rw [eW_putL hs f1 ht] at hP1
  exact h _ _ _ hl hP1 hS1
theorem sd_pD {cn : String} (fk : FK 10 CC T) (ht : tyO 10 2 = .object cn) (hfin : (T 2).2.2.2 = false) (hdg : decode M.2.1 pc = .ok (.putfield idx, 3)) (hw : Cond.fieldLink M.1.cls idx (T 2).1 (T 2).2.1 (T 2).2.2.1 ∈ lw_good) : Sound F M pc (t_pD (pc + 3)) := by
  intro w p l e R s m args below meth c d Z C Q hC hM hZ L st τ h H locs ls hl hP hS
  obtain ⟨hx, hb, hml, hr, hown, hts, hK, hI, hlk, hsp, hnw, hf, hlo⟩ := hC
  obtain ⟨q, r, rfl, ⟨h0, h1⟩, h⟩ := h
  obtain ⟨f1, f2, f3, f4, f5⟩ := fk
  refine va_put hx hb hts f3 (tyO 10) f4 f5 hown hK hP (eW_D hI) hS 59 (eW_obj (by decide) (by decide) f1) f2 2 (by decide) (hts _ hw) (fun _ z => z) hfin (ty := .object cn) (v := .ref (w.1 q)) (by rw [← ht]; exact f4 2 (by decide)) rfl rfl (by rw [List.length_map, List.length_range]; decide) hdg (fun H1 locs1 hP1 hD1 hS1 => ?_)
  rw [eW_putR h0 h1] at hP1
  exact h _ _ _ hl hP1 hS1
end FLD
section ARR
theorem pay_i {ad : Nat → Nat} {τ : St} {k : Nat} (h1 : shp k ≠ 15) (h2 : shp k ≠ 17) : pay ad τ k = (len k, .inl (τ.1 k)) := by unfold pay; rw [if_neg h1, if_neg h2]
theorem pay_l {ad : Nat → Nat} {τ : St} {k : Nat} (h1 : shp k = 15) : pay ad τ k = (len k, .inr (.inl (τ.2 k))) := by unfold pay; rw [if_pos h1]
theorem pay_r {ad : Nat → Nat} {τ : St} {k : Nat} (h1 : shp k = 17) : pay ad τ k = (len k, .inr (.inr (.inr (.inr (fun i => some (ad (mrf k i))))))) := by unfold pay; rw [if_neg (by rw [h1]; decide), if_pos h1]
theorem sd_iaload (hdg : decode M.2.1 pc = .ok (.iaload, 1)) : Sound F M pc (t_al 14 (pc + 1)) := by
  intro w p l e R s m args below meth c d Z C Q hC hM hZ L st τ h H locs ls hl hP hS
  obtain ⟨hx, hb, hml, hr, hown, hts, hK, hI, hlk, hsp, hnw, hf, hlo⟩ := hC
  obtain ⟨k, i, r, rfl, ⟨hk, hs⟩, hi, h⟩ := h
  exact va_iald hx hb hK hP k 1 (by rw [eW_arr hk hs (by decide), pay_i (by rw [hs]; decide) (by rw [hs]; decide)]) rfl hi hdg (h _ _ _ hl hP hS)
theorem sd_caload (hdg : decode M.2.1 pc = .ok (.caload, 1)) : Sound F M pc (t_al 13 (pc + 1)) := by
  intro w p l e R s m args below meth c d Z C Q hC hM hZ L st τ h H locs ls hl hP hS
  obtain ⟨hx, hb, hml, hr, hown, hts, hK, hI, hlk, hsp, hnw, hf, hlo⟩ := hC
  obtain ⟨k, i, r, rfl, ⟨hk, hs⟩, hi, h⟩ := h
  exact va_cald hx hb hK hP k 0 (by rw [eW_arr hk hs (by decide), pay_i (by rw [hs]; decide) (by rw [hs]; decide)]) rfl hi hdg (h _ _ _ hl hP hS)
theorem sd_baload (hdg : decode M.2.1 pc = .ok (.baload, 1)) : Sound F M pc (t_al 16 (pc + 1)) := by
  intro w p l e R s m args below meth c d Z C Q hC hM hZ L st τ h H locs ls hl hP hS
  obtain ⟨hx, hb, hml, hr, hown, hts, hK, hI, hlk, hsp, hnw, hf, hlo⟩ := hC
  obtain ⟨k, i, r, rfl, ⟨hk, hs⟩, hi, h⟩ := h
  exact va_zald hx hb hK hP k 3 (by rw [eW_arr hk hs (by decide), pay_i (by rw [hs]; decide) (by rw [hs]; decide)]) rfl hi hdg (h _ _ _ hl hP hS)
theorem sd_laload (hdg : decode M.2.1 pc = .ok (.laload, 1)) : Sound F M pc (t_all (pc + 1)) := by
  intro w p l e R s m args below meth c d Z C Q hC hM hZ L st τ h H locs ls hl hP hS
  obtain ⟨hx, hb, hml, hr, hown, hts, hK, hI, hlk, hsp, hnw, hf, hlo⟩ := hC
  obtain ⟨k, i, r, rfl, ⟨hk, hs⟩, hi, h⟩ := h
  exact va_lald hx hb hK hP k 2 (by rw [eW_arr hk hs (by decide), pay_l hs]) rfl hi hdg (h _ _ _ hl hP hS)
theorem sd_aaload (hdg : decode M.2.1 pc = .ok (.aaload, 1)) : Sound F M pc (t_ala (pc + 1)) := by
  intro w p l e R s m args below meth c d Z C Q hC hM hZ L st τ h H locs ls hl hP hS
  obtain ⟨hx, hb, hml, hr, hown, hts, hK, hI, hlk, hsp, hnw, hf, hlo⟩ := hC
  obtain ⟨k, i, r, rfl, ⟨hk, hs⟩, hi, h⟩ := h
  exact va_aldq hx hb hK hP k 4 (f := fun i => some (w.1 (mrf k i))) (by rw [eW_arr hk hs (by decide), pay_r hs]) rfl hi hdg (h _ _ _ hl hP hS)
theorem sd_iastore (hdg : decode M.2.1 pc = .ok (.iastore, 1)) : Sound F M pc (t_as (fun x => x) 14 (pc + 1)) := by
  intro w p l e R s m args below meth c d Z C Q hC hM hZ L st τ h H locs ls hl hP hS
  obtain ⟨hx, hb, hml, hr, hown, hts, hK, hI, hlk, hsp, hnw, hf, hlo⟩ := hC
  obtain ⟨k, i, x, r, rfl, ⟨hk, hs⟩, hi, h⟩ := h
  refine va_iast hx hb hK hP (eW_D hI) hS k 1 (by rw [eW_arr hk hs (by decide), pay_i (by rw [hs]; decide) (by rw [hs]; decide)]) rfl hi hdg (fun H1 locs1 hP1 hD1 hS1 => ?_)
  rw [eW_stI hs (by decide)] at hP1
  exact h _ _ _ hl hP1 hS1
theorem sd_castore (hdg : decode M.2.1 pc = .ok (.castore, 1)) : Sound F M pc (t_as (fun x => vp_nar .char x) 13 (pc + 1)) := by
  intro w p l e R s m args below meth c d Z C Q hC hM hZ L st τ h H locs ls hl hP hS
  obtain ⟨hx, hb, hml, hr, hown, hts, hK, hI, hlk, hsp, hnw, hf, hlo⟩ := hC
  obtain ⟨k, i, x, r, rfl, ⟨hk, hs⟩, hi, h⟩ := h
  refine va_cast hx hb hK hP (eW_D hI) hS k 0 (by rw [eW_arr hk hs (by decide), pay_i (by rw [hs]; decide) (by rw [hs]; decide)]) rfl hi hdg (fun H1 locs1 hP1 hD1 hS1 => ?_)
  rw [eW_stI hs (by decide)] at hP1
  exact h _ _ _ hl hP1 hS1
theorem sd_bastore (hdg : decode M.2.1 pc = .ok (.bastore, 1)) : Sound F M pc (t_as (fun x => vp_nar .boolean x) 16 (pc + 1)) := by
  intro w p l e R s m args below meth c d Z C Q hC hM hZ L st τ h H locs ls hl hP hS
  obtain ⟨hx, hb, hml, hr, hown, hts, hK, hI, hlk, hsp, hnw, hf, hlo⟩ := hC
  obtain ⟨k, i, x, r, rfl, ⟨hk, hs⟩, hi, h⟩ := h
  refine va_zast hx hb hK hP (eW_D hI) hS k 3 (by rw [eW_arr hk hs (by decide), pay_i (by rw [hs]; decide) (by rw [hs]; decide)]) rfl hi hdg (fun H1 locs1 hP1 hD1 hS1 => ?_)
  rw [eW_stI hs (by decide)] at hP1
  exact h _ _ _ hl hP1 hS1
theorem sd_lastore (hdg : decode M.2.1 pc = .ok (.lastore, 1)) : Sound F M pc (t_asl (pc + 1)) := by
  intro w p l e R s m args below meth c d Z C Q hC hM hZ L st τ h H locs ls hl hP hS
  obtain ⟨hx, hb, hml, hr, hown, hts, hK, hI, hlk, hsp, hnw, hf, hlo⟩ := hC
  obtain ⟨k, i, x, r, rfl, ⟨hk, hs⟩, hi, h⟩ := h
  refine va_last hx hb hK hP (eW_D hI) hS k 2 (by rw [eW_arr hk hs (by decide), pay_l hs]) rfl hi hdg (fun H1 locs1 hP1 hD1 hS1 => ?_)
  rw [eW_stL hs] at hP1
  exact h _ _ _ hl hP1 hS1
theorem sd_alen (hdg : decode M.2.1 pc = .ok (.arraylength, 1)) : Sound F M pc (t_len (pc + 1)) := by
  intro w p l e R s m args below meth c d Z C Q hC hM hZ L st τ h H locs ls hl hP hS
  obtain ⟨hx, hb, hml, hr, hown, hts, hK, hI, hlk, hsp, hnw, hf, hlo⟩ := hC
  obtain ⟨k, r, rfl, hk, ⟨h1, h2⟩, h⟩ := h
  have hv : Int32.ofNat (pay w.1 τ k).1 = Int32.ofNat (len k) := rfl
  have ha : (eW w.1 w.2.2.2 τ)[k]? = some (w.1 k, .inl (w.2.2.2 (shp k), pay w.1 τ k)) := eW_arr hk rfl h1
  rcases (show shp k = 13 ∨ shp k = 14 ∨ shp k = 15 ∨ shp k = 16 ∨ shp k = 17 by omega) with q | q | q | q | q
  · exact va_alen hx hb hK hP k 0 ha (by rw [q]; rfl) hv hdg (h _ _ _ hl hP hS)
  · exact va_alen hx hb hK hP k 1 ha (by rw [q]; rfl) hv hdg (h _ _ _ hl hP hS)
  · exact va_alen hx hb hK hP k 2 ha (by rw [q]; rfl) hv hdg (h _ _ _ hl hP hS)
  · exact va_alen hx hb hK hP k 3 ha (by rw [q]; rfl) hv hdg (h _ _ _ hl hP hS)
  · exact va_alen hx hb hK hP k 4 ha (by rw [q]; rfl) hv hdg (h _ _ _ hl hP hS)
end ARR
end SND
