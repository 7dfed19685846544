/-! WAYS: what the reference lays are the class's costs -/
theorem rx_it {P : Nat → Nat → Nat} {hd mm : Nat → Nat} {f q : Nat} (h : hd q < 1000000) : rxP P true hd mm f q ↔ hd q + P f q < hd f ∨ hd q + P f q = hd f ∧ mm q + 1 < mm f := by
  unfold rxP hbV
  rw [if_pos h, if_pos rfl]
theorem rx_if {P : Nat → Nat → Nat} {hd mm : Nat → Nat} {f q : Nat} (h : hd q < 1000000) (n : ¬ rxP P false hd mm f q) : hd f ≤ max (hd q) (P f q) := by
  unfold rxP hbV at n
  rw [if_pos h, if_neg (by decide)] at n
  omega
/-- costs told by sums and drags -/
def ccS (hd mm : Nat → Nat) : Nat → Nat := fun f => if hd f < 1000000 then 64 * hd f + mm f else 2 ^ 30
def ccM (mm : Nat → Nat) : Nat → Nat := fun f => if mm f < 1000000 then mm f else 2 ^ 30
theorem ccS_lt {hd mm : Nat → Nat} {f : Nat} (h : hd f < 1000000) : ccS hd mm f = 64 * hd f + mm f := if_pos h
theorem ccS_ge {hd mm : Nat → Nat} {f : Nat} (h : ¬ hd f < 1000000) : ccS hd mm f = 2 ^ 30 := if_neg h
theorem ccM_lt {mm : Nat → Nat} {f : Nat} (h : mm f < 1000000) : ccM mm f = mm f := if_pos h
theorem ccM_ge {mm : Nat → Nat} {f : Nat} (h : ¬ mm f < 1000000) : ccM mm f = 2 ^ 30 := if_neg h
section LK
variable {kd : Nat → Nat} {R C t : Nat} {P : Nat → Nat → Nat} {hd mm : Nat → Nat}
theorem ccS_far (hn : R * C ≤ 36) (lh : lhP kd R C P true t hd mm) {f : Nat} (hf : f < R * C) : (ccS hd mm f < 2 ^ 30 ↔ hd f < 1000000) ∧ ccS hd mm f ≤ 2 ^ 30 := by
  by_cases c : hd f < 1000000
  · have := lh_small lh (show f < 36 by omega) c
    rw [ccS_lt c]
    exact ⟨⟨fun _ => c, fun _ => by omega⟩, by omega⟩
  · rw [ccS_ge c]
    exact ⟨⟨fun w => absurd w (by omega), fun w => absurd w c⟩, Nat.le_refl _⟩
theorem lh_mz (hn : R * C ≤ 36) (ht2 : t < R * C) (kt : kd t ≠ 3) (hP : ∀ f q, P f q ≤ 1498) (lh : lhP kd R C P true t hd mm) (tg : ∀ f h q, eG kd R C f h q → ¬ rxP P true hd mm f q) : mzP kd R C P t 1498 64 (ccS hd mm) := by
  have t0 : hd t < 1000000 := by rw [lh.1.1]; omega
  refine ⟨by rw [ccS_lt t0, lh.1.1, lh.1.2], fun f hf => (ccS_far hn lh hf).2, fun p f h hp hh cp e _ => ?_, fun f hf ft cf => ?_⟩
  · have p6 := (ccS_far hn lh hp).1.mp cp
    have kp : kd p ≠ 3 := by
      by_cases w : p = t
      · rw [w]; exact kt
      · obtain ⟨h', q, e', _⟩ := lh.2.2.2.1 rfl p (by omega) w p6
        exact e'.2.2.1
    have e1 : eG kd R C p h f := ⟨hp, hh, kp, e⟩
    have e2 := eG_sym e1
    have n := tg f _ p e2
    rw [rx_it p6] at n
    obtain ⟨s1, s2⟩ := lh_small lh (show p < 36 by omega) p6
    have := hP f p
    have f6 : hd f < 1000000 := by omega
    have := lh_small lh (show f < 36 by have := e2.1; omega) f6
    rw [ccS_lt p6, ccS_lt f6]
    omega
  · have f6 := (ccS_far hn lh hf).1.mp cf
    obtain ⟨h, q, e, q6, l⟩ := lh.2.2.2.1 rfl f (by omega) ft f6
    have n := tg f h q e
    rw [rx_it q6] at n
    have e2 := eG_sym e
    refine ⟨q, _, e2.1, e2.2.1, e2.2.2.2, hP f q, (ccS_far hn lh e2.1).1.mpr q6, ?_⟩
    rw [ccS_lt f6, ccS_lt q6]
    omega
theorem mu_small {lim : Nat} (hn : R * C ≤ 36) (mu : muP kd R C P t lim mm) (me : meP kd R C P lim mm) {f : Nat} (hf : f < 36) (h : mm f < 1000000) : mm f < 36 := by
  refine chain_le (v := mm) (g := fun f => mm f < 1000000) (fun f hf hg h0 => ?_) f hf h
  obtain ⟨h, q, e, l, w⟩ := mu.2.2 f hf (fun z => by subst z; exact h0 mu.1) hg
  have := me f h q e l
  have := eG_lt e
  exact ⟨q, by omega, by omega, by omega⟩
theorem ccM_far {lim : Nat} (hn : R * C ≤ 36) (mu : muP kd R C P t lim mm) (me : meP kd R C P lim mm) {f : Nat} (hf : f < R * C) : (ccM mm f < 2 ^ 30 ↔ mm f < 1000000) ∧ ccM mm f ≤ 2 ^ 30 := by
  by_cases c : mm f < 1000000
  · have := mu_small hn mu me (show f < 36 by omega) c
    rw [ccM_lt c]
    exact ⟨⟨fun _ => c, fun _ => by omega⟩, by omega⟩
  · rw [ccM_ge c]
    exact ⟨⟨fun w => absurd w (by omega), fun w => absurd w c⟩, Nat.le_refl _⟩
theorem mu_mz {lim : Nat} (hn : R * C ≤ 36) (ht2 : t < R * C) (kt : kd t ≠ 3) (mu : muP kd R C P t lim mm) (me : meP kd R C P lim mm) : mzP kd R C P t lim 0 (ccM mm) := by
  have t0 : mm t < 1000000 := by rw [mu.1]; omega
  refine ⟨by rw [ccM_lt t0, mu.1], fun f hf => (ccM_far hn mu me hf).2, fun p f h hp hh cp e l => ?_, fun f hf ft cf => ?_⟩
  · have p6 := (ccM_far hn mu me hp).1.mp cp
    have kp : kd p ≠ 3 := by
      by_cases w : p = t
      · rw [w]; exact kt
      · obtain ⟨h', q, e', _⟩ := mu.2.2 p (by omega) w p6
        exact e'.2.2.1
    have e2 := eG_sym (show eG kd R C p h f from ⟨hp, hh, kp, e⟩)
    have n := me f _ p e2 l
    have := mu_small hn mu me (show p < 36 by omega) p6
    have f6 : mm f < 1000000 := by omega
    rw [ccM_lt p6, ccM_lt f6]
    omega
  · have f6 := (ccM_far hn mu me hf).1.mp cf
    obtain ⟨h, q, e, l, w⟩ := mu.2.2 f (by omega) ft f6
    have n := me f h q e l
    have e2 := eG_sym e
    have q6 : mm q < 1000000 := by omega
    refine ⟨q, _, e2.1, e2.2.1, e2.2.2.2, l, (ccM_far hn mu me e2.1).1.mpr q6, ?_⟩
    rw [ccM_lt f6, ccM_lt q6]
    omega
/-- the greatest pull: what is laid tells to which bound ways lead -/
theorem lh_to (lh : lhP kd R C P false t hd mm) (tg : ∀ f h q, eG kd R C f h q → ¬ rxP P false hd mm f q) {l : Nat} (hl : l < 1000000) : ∀ k f, toK kd R C P (fun q => q = t) l k f → hd f ≤ l
  | 0, f, z => by
    have z : f = t := z
    rw [z, lh.1.1]
    exact Nat.zero_le _
  | k + 1, f, ⟨h, q, e, a, b⟩ => by
    have := lh_to lh tg hl k q b
    have := rx_if (show hd q < 1000000 by omega) (tg f h q e)
    omega
theorem lh_of (lh : lhP kd R C P false t hd mm) {l f : Nat} (hf : f < 36) (hl : l < 1000000) (h : hd f ≤ l) : ∃ k, toK kd R C P (fun q => q = t) l k f := by
  obtain ⟨_, k, a⟩ := lh.2.2.2.2 rfl f hf (by omega)
  exact ⟨k, toK_lim h k f a⟩
end LK
/-! ways forth and back -/
section FB
variable {kd : Nat → Nat} {R C : Nat} {P : Nat → Nat → Nat} {pl : Nat → Nat → Int32} {A : Int64} {T : Nat → Prop} {l : Nat}
theorem rc_good (hA : ∀ q, bitL A q = true → q < R * C ∧ kd q ≠ 3) {lim : Int32} : ∀ k q, rcK kd R C pl A lim k q → q < R * C ∧ kd q ≠ 3
  | 0, q, z => hA q z
  | k + 1, q, z => by
    rcases z with z | ⟨f, h, a, b, c, e, g⟩
    · exact rc_good hA k q z
    · exact ⟨nk_lt a b e, (nk_nb e).2⟩
theorem pl_le (hpl : ∀ f q, pl f q = nI (P f q)) (hP : ∀ f q, P f q ≤ 1498) (hl : l < 2 ^ 31) (f q : Nat) : (¬ nI l < pl f q) ↔ P f q ≤ l := by
  have := hP f q
  rw [hpl]
  constructor
  · intro h; exact Nat.le_of_not_lt (fun w => h (nI_lt w (by omega)))
  · intro h w
    have := (nI_ltI (by omega) (by omega)).mp w
    omega
theorem rc_to (hpl : ∀ f q, pl f q = nI (P f q)) (hP : ∀ f q, P f q ≤ 1498) (hl : l < 2 ^ 31) (hA : ∀ q, bitL A q = true → q < R * C ∧ kd q ≠ 3) : ∀ k q j, rcK kd R C pl A (nI l) k q → toK kd R C P T l j q → ∃ f j', bitL A f = true ∧ toK kd R C P T l j' f
  | 0, q, j, z, w => ⟨q, j, z, w⟩
  | k + 1, q, j, z, w => by
    rcases z with z | ⟨f, h, a, b, c, e, g⟩
    · exact rc_to hpl hP hl hA k q j z w
    · exact rc_to hpl hP hl hA k f (j + 1) c ⟨h, q, ⟨a, b, (rc_good hA k f c).2, e⟩, (pl_le hpl hP hl f q).mp g, w⟩
theorem to_rc (hpl : ∀ f q, pl f q = nI (P f q)) (hP : ∀ f q, P f q ≤ 1498) (hl : l < 2 ^ 31) : ∀ j f k, toK kd R C P T l j f → rcK kd R C pl A (nI l) k f → ∃ q k', T q ∧ rcK kd R C pl A (nI l) k' q
  | 0, f, k, z, w => ⟨f, k, z, w⟩
  | j + 1, f, k, ⟨h, q, e, a, b⟩, w => to_rc hpl hP hl j q (k + 1) b (Or.inr ⟨f, h, e.1, e.2.1, w, e.2.2.2, (pl_le hpl hP hl f q).mpr a⟩)
theorem hit_to {B : Int64} (hpl : ∀ f q, pl f q = nI (P f q)) (hP : ∀ f q, P f q ≤ 1498) (hl : l < 2 ^ 31) (hA : ∀ q, bitL A q = true → q < R * C ∧ kd q ≠ 3) : hitP kd R C pl A B l ↔ ∃ f j, bitL A f = true ∧ toK kd R C P (fun q => bitL B q = true) l j f := by
  constructor
  · rintro ⟨q, k, a, b, c⟩
    exact rc_to (T := fun q => bitL B q = true) hpl hP hl hA k q 0 c b
  · rintro ⟨f, j, a, b⟩
    obtain ⟨q, k, c, e⟩ := to_rc hpl hP hl j f 0 b (show rcK kd R C pl A (nI l) 0 f from a)
    exact ⟨q, k, Nat.lt_of_not_le (fun w => by rw [bL_big w] at c; exact absurd c (by decide)), c, e⟩
theorem toK_T {T T' : Nat → Prop} (h : ∀ q, T q → T' q) : ∀ k f, toK kd R C P T l k f → toK kd R C P T' l k f
  | 0, f, z => h f z
  | k + 1, f, ⟨h', q, e, a, b⟩ => ⟨h', q, e, a, toK_T h k q b⟩
theorem toK_one : ∀ k f, toK kd R C P T l k f → ∃ t, T t ∧ toK kd R C P (fun q => q = t) l k f
  | 0, f, z => ⟨f, z, rfl⟩
  | k + 1, f, ⟨h', q, e, a, b⟩ => by
    obtain ⟨t, t1, t2⟩ := toK_one k q b
    exact ⟨t, t1, h', q, e, a, t2⟩
end FB
/-! the next field of a way -/
section NX
variable {kd : Nat → Nat} {R C lim s : Nat} {P : Nat → Nat → Nat} {c : Nat → Nat}
theorem onB_ex {f : Nat} (hf : f < R * C) : ∀ h, h ≤ 4 → ∃ o, onB kd R C P lim s c f h o
  | 0, _ => ⟨none, fun q e => absurd e (by simp), fun h' q' z => absurd z (Nat.not_lt_zero _)⟩
  | h + 1, hh => by
    obtain ⟨o, ho⟩ := onB_ex hf h (by omega)
    cases hn : nk kd R C f h with
    | none => exact ⟨o, onB_skip ho (fun q e => by rw [hn] at e; exact absurd e (by simp))⟩
    | some q =>
      by_cases on : onQ P lim s c f q
      · by_cases lt : ∀ p, o = some p → q ≤ p
        · exact ⟨some q, onB_take ho hn (nk_lt hf (by omega) hn) on lt⟩
        · refine ⟨o, onB_skip ho (fun q' e _ => ?_)⟩
          rw [hn] at e
          obtain rfl : q = q' := Option.some.inj e
          cases o with
          | none => exact absurd (fun p e => absurd e (by simp)) lt
          | some p => exact ⟨p, rfl, Nat.le_of_not_le (fun w => lt (fun p' e => by obtain rfl := Option.some.inj e; exact w))⟩
      · exact ⟨o, onB_skip ho (fun q' e k => by
          rw [hn] at e
          obtain rfl : q = q' := Option.some.inj e
          exact absurd k on)⟩
theorem onB_uq {f : Nat} {o o' : Option Nat} (h1 : onB kd R C P lim s c f 4 o) (h2 : onB kd R C P lim s c f 4 o') : o = o' := by
  have go : ∀ {o o' : Option Nat} {q : Nat}, onB kd R C P lim s c f 4 o → onB kd R C P lim s c f 4 o' → o = some q → ∃ p, o' = some p ∧ p ≤ q := fun {o o' q} a b e => by
    obtain ⟨_, on, h', e1, e2⟩ := a.1 q e
    exact b.2 h' q e1 e2 on
  cases o with
  | none =>
    cases o' with
    | none => rfl
    | some q => obtain ⟨p, e, _⟩ := go h2 h1 rfl; exact absurd e (by simp)
  | some q =>
    obtain ⟨p, e, l⟩ := go h1 h2 rfl
    obtain ⟨p', e', l'⟩ := go h2 h1 e
    obtain rfl := Option.some.inj e'
    rw [e]
    congr 1
    omega
theorem onB_c {c' : Nat → Nat} {f : Nat} {o : Option Nat} (hf : f < R * C) (he : ∀ q, q < R * C → c q = c' q) (h : onB kd R C P lim s c f 4 o) : onB kd R C P lim s c' f 4 o := by
  have on : ∀ q, q < R * C → (onQ P lim s c f q ↔ onQ P lim s c' f q) := fun q hq => by
    unfold onQ
    rw [he q hq, he f hf]
  refine ⟨fun q e => ?_, fun h' q' a b k => h.2 h' q' a b ((on q' (nk_lt hf a b)).mpr k)⟩
  obtain ⟨a, b, k⟩ := h.1 q e
  exact ⟨a, (on q a).mp b, k⟩
/-- .. there is one, but at the end -/
theorem onB_no {t f : Nat} {o : Option Nat} (mz : mzP kd R C P t lim s c) (ft : f = t) (h : onB kd R C P lim s c f 4 o) : o = none := by
  cases o with
  | none => rfl
  | some q =>
    have := (h.1 q rfl).2.1.2.2
    rw [ft, mz.1] at this
    omega
theorem onB_so {t f : Nat} {o : Option Nat} (mz : mzP kd R C P t lim s c) (kt : kd t ≠ 3) (hf : f < R * C) (cf : c f < 2 ^ 30) (ft : f ≠ t) (h : onB kd R C P lim s c f 4 o) : ∃ q, o = some q ∧ q < R * C ∧ c q < 2 ^ 30 ∧ c q + P f q * s + 1 = c f ∧ ∃ h', eG kd R C f h' q := by
  have good : ∀ f, f < R * C → f ≠ t → c f < 2 ^ 30 → kd f ≠ 3 := fun f hf ft cf => by
    obtain ⟨p, h', p1, p2, p3, _⟩ := mz.2.2.2 f hf ft cf
    exact (nk_nb p3).2
  obtain ⟨p, h', p1, p2, p3, p4, p5, p6⟩ := mz.2.2.2 f hf ft cf
  have kp : kd p ≠ 3 := by
    by_cases w : p = t
    · rw [w]; exact kt
    · exact good p p1 w p5
  have e2 := eG_sym (show eG kd R C p h' f from ⟨p1, p2, kp, p3⟩)
  obtain ⟨q, e, _⟩ := h.2 _ p e2.2.1 e2.2.2.2 ⟨by omega, p4, p6.symm⟩
  obtain ⟨a, ⟨b1, b2, b3⟩, h'', g1, g2⟩ := h.1 q e
  have := mz.2.1 q a
  exact ⟨q, e, a, by omega, b3, h'', hf, g1, good f hf ft cf, g2⟩
end NX
/-- the fields of a way behind f -/
def pth (kd : Nat → Nat) (R C : Nat) (P : Nat → Nat → Nat) (lim s : Nat) (c : Nat → Nat) : Nat → List Nat → Prop
  | f, [] => onB kd R C P lim s c f 4 none
  | f, q :: l => onB kd R C P lim s c f 4 (some q) ∧ pth kd R C P lim s c q l
theorem pth_ex {kd : Nat → Nat} {R C lim s t : Nat} {P : Nat → Nat → Nat} {c v : Nat → Nat} (mz : mzP kd R C P t lim s c) (kt : kd t ≠ 3) (vd : ∀ f q, f < R * C → q < R * C → c f < 2 ^ 30 → c q < 2 ^ 30 → c q + P f q * s + 1 = c f → v q + 1 = v f) : ∀ n f, v f = n → f < R * C → c f < 2 ^ 30 → ∃ l : List Nat, l.length ≤ n ∧ pth kd R C P lim s c f l := by
  intro n
  induction n with
  | zero =>
    intro f hv hf cf
    obtain ⟨o, ho⟩ := onB_ex (kd := kd) (P := P) (lim := lim) (s := s) (c := c) hf 4 (Nat.le_refl _)
    by_cases ft : f = t
    · obtain rfl := onB_no mz ft ho
      exact ⟨[], Nat.le_refl _, ho⟩
    · obtain ⟨q, e, hq, cq, w, _⟩ := onB_so mz kt hf cf ft ho
      have := vd f q hf hq cf cq w
      omega
  | succ n ih =>
    intro f hv hf cf
    obtain ⟨o, ho⟩ := onB_ex (kd := kd) (P := P) (lim := lim) (s := s) (c := c) hf 4 (Nat.le_refl _)
    by_cases ft : f = t
    · obtain rfl := onB_no mz ft ho
      exact ⟨[], Nat.zero_le _, ho⟩
    · obtain ⟨q, e, hq, cq, w, _⟩ := onB_so mz kt hf cf ft ho
      have := vd f q hf hq cf cq w
      obtain ⟨l, l1, l2⟩ := ih q (by omega) hq cq
      subst e
      exact ⟨q :: l, by rw [List.length_cons]; omega, ho, l2⟩
