-- ONLY IMAGE writes the array of images
def iv_k53 (r : iv_R) : Bool := match r.2.1 with
  | .aastore => false
  | .invokevirtual _ => decide (r.2.2.2.1 ≠ 187) && decide (r.2.2.2.1 ≠ 351)
  | .invokestatic _ => decide (r.2.2.2.1 ≠ 187) && decide (r.2.2.2.1 ≠ 351)
  | .invokespecial _ => decide (r.2.2.2.1 ≠ 187) && decide (r.2.2.2.1 ≠ 351)
  | _ => true
def iv_c53 (q : (iv_I × List iv_R) × Nat) : Bool := decide (q.2 = 187) || decide (q.2 = 351) || q.1.2.all iv_k53
set_option maxRecDepth 100000 in
theorem iv_c53_ok : iv_Z.zipIdx.all iv_c53 = true := by decide +kernel
theorem iv_k53_at {mi pc : Nat} {f : iv_F} (h1 : mi ≠ 187) (h2 : mi ≠ 351) (h : PG.1 mi pc = some f) : iv_k53 (pc, f) = true := by
  unfold PG at h
  dsimp only at h
  obtain ⟨q, e1, e2⟩ := Option.bind_eq_some_iff.mp h
  have m : (q, mi) ∈ iv_Z.zipIdx := List.mem_zipIdx_iff_getElem?.mpr e1
  have := List.all_eq_true.mp iv_c53_ok _ m
  unfold iv_c53 at this
  dsimp only at this
  rw [Bool.or_eq_true, Bool.or_eq_true, decide_eq_true_eq, decide_eq_true_eq] at this
  rcases this with (z | z) | z
  · exact absurd z h1
  · exact absurd z h2
  · exact List.all_eq_true.mp z _ (iv_lk_in e2)
def K4 (h : iv_H) : Prop := 53 < h.1 ∧ ∃ n f, h.2.2 53 = .inl (4, n, .inr (.inr f))
def KP (h h' : iv_H) : Prop := h.1 ≤ h'.1 ∧ h'.2.2 53 = h.2.2 53
theorem KP.refl {h : iv_H} : KP h h := ⟨Nat.le_refl _, rfl⟩
theorem KP.trans {h h1 h2 : iv_H} (a : KP h h1) (b : KP h1 h2) : KP h h2 := ⟨Nat.le_trans a.1 b.1, b.2.trans a.2⟩
theorem K4_kp {h h' : iv_H} (a : K4 h) (b : KP h h') : K4 h' := ⟨Nat.lt_of_lt_of_le a.1 b.1, by rw [b.2]; exact a.2⟩
theorem KP_up {h : iv_H} {q m : Nat} {c : iv_C} (hq : q ≠ 53) : KP h (h.1, m, iv_up h.2.2 q c) := ⟨Nat.le_refl _, if_neg (fun z => hq z.symm)⟩
theorem K4_obj {h : iv_H} {q a : Nat} {fs : List Value} (k : K4 h) (e : iv_obj h q a = some fs) : q ≠ 53 := by
  intro z
  subst z
  obtain ⟨k1, n, f, k2⟩ := k
  unfold iv_obj at e
  rw [if_pos k1, k2] at e
  cases e
theorem K4_arr {h : iv_H} {q k' n' : Nat} {x : (Nat → Int32) ⊕ (Nat → Int64) ⊕ (Nat → Option Nat)} (k : K4 h) (e : iv_arr h q = some (k', n', x)) (hx : ∀ f, x ≠ .inr (.inr f)) : q ≠ 53 := by
  intro z
  subst z
  obtain ⟨k1, n, f, k2⟩ := k
  unfold iv_arr at e
  rw [if_pos (Or.inl k1), k2] at e
  cases e
  exact hx f rfl
theorem KP_new {h : iv_H} {m : Nat} {c : iv_C} (k : K4 h) : KP h (h.1 + 1, m, iv_up h.2.2 h.1 c) := ⟨Nat.le_succ _, if_neg (by have := k.1; omega)⟩
