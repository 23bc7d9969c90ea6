-- CONSTRUCTORS: what they make does not hang on what stood before
/-- two runs of making, one over any heap, one over an empty one -/
def Sm (nc m : Nat) (g : Nat → iv_C) (h k : iv_H) : Prop := h.1 = k.1 ∧ h.2.1 = m + k.2.1 ∧ nc ≤ k.1 ∧ (∀ a, nc ≤ a → a < k.1 → h.2.2 a = k.2.2 a) ∧ ∀ a, (a < nc ∨ k.1 ≤ a) → h.2.2 a = g a ∧ k.2.2 a = .inr (999, [])
theorem Sm_obj {nc m : Nat} {g : Nat → iv_C} {h k : iv_H} {q ci : Nat} {fs : List Value} (hs : Sm nc m g h k) (hc : ci < 999) (e : iv_obj k q ci = some fs) : nc ≤ q ∧ q < k.1 ∧ iv_obj h q ci = some fs := by
  obtain ⟨h1, h2, h3, h4, h5⟩ := hs
  have hq : nc ≤ q ∧ q < k.1 := by
    by_cases z : nc ≤ q ∧ q < k.1
    · exact z
    · have := (h5 q (by omega)).2
      unfold iv_obj at e
      rw [this] at e
      dsimp only at e
      rw [if_neg (show ¬ 999 = ci by omega)] at e
      split at e <;> cases e
  refine ⟨hq.1, hq.2, ?_⟩
  unfold iv_obj at e ⊢
  rw [h4 q hq.1 hq.2, h1]
  exact e
theorem Sm_arr {nc m : Nat} {g : Nat → iv_C} {h k : iv_H} {q : Nat} {x : Nat × Nat × ((Nat → Int32) ⊕ (Nat → Int64) ⊕ (Nat → Option Nat))} (hs : Sm nc m g h k) (e : iv_arr k q = some x) : nc ≤ q ∧ q < k.1 ∧ iv_arr h q = some x := by
  obtain ⟨h1, h2, h3, h4, h5⟩ := hs
  have hq : nc ≤ q ∧ q < k.1 := by
    by_cases z : nc ≤ q ∧ q < k.1
    · exact z
    · have := (h5 q (by omega)).2
      unfold iv_arr at e
      rw [this] at e
      dsimp only at e
      split at e <;> cases e
  refine ⟨hq.1, hq.2, ?_⟩
  unfold iv_arr at e ⊢
  rw [h4 q hq.1 hq.2, h1]
  exact e
theorem Sm_up {nc m : Nat} {g : Nat → iv_C} {h k : iv_H} {q : Nat} {c : iv_C} (hs : Sm nc m g h k) (q0 : nc ≤ q) (q1 : q < k.1) : Sm nc m g (h.1, h.2.1, iv_up h.2.2 q c) (k.1, k.2.1, iv_up k.2.2 q c) := by
  obtain ⟨h1, h2, h3, h4, h5⟩ := hs
  refine ⟨h1, h2, h3, fun a a0 a1 => ?_, fun a ha => ?_⟩
  · show (if a = q then c else h.2.2 a) = if a = q then c else k.2.2 a
    rw [h4 a a0 a1]
  · show (if a = q then c else h.2.2 a) = g a ∧ (if a = q then c else k.2.2 a) = .inr (999, [])
    have ha : a < nc ∨ k.1 ≤ a := ha
    rw [if_neg (by omega), if_neg (by omega)]; exact h5 a ha
theorem Sm_new {nc m n : Nat} {g : Nat → iv_C} {h k : iv_H} {c : iv_C} (hs : Sm nc m g h k) : Sm nc m g (h.1 + 1, h.2.1 + n, iv_up h.2.2 h.1 c) (k.1 + 1, k.2.1 + n, iv_up k.2.2 k.1 c) := by
  obtain ⟨h1, h2, h3, h4, h5⟩ := hs
  refine ⟨by show h.1 + 1 = k.1 + 1; omega, by show h.2.1 + n = m + (k.2.1 + n); omega, by show nc ≤ k.1 + 1; omega, fun a a0 a1 => ?_, fun a ha => ?_⟩
  · show (if a = h.1 then c else h.2.2 a) = if a = k.1 then c else k.2.2 a
    have a1 : a < k.1 + 1 := a1
    by_cases e : a = k.1
    · rw [if_pos (by omega), if_pos e]
    · rw [if_neg (by omega), if_neg e, h4 a a0 (by omega)]
  · show (if a = h.1 then c else h.2.2 a) = g a ∧ (if a = k.1 then c else k.2.2 a) = .inr (999, [])
    have ha : a < nc ∨ k.1 + 1 ≤ a := ha
    rw [if_neg (by omega), if_neg (by omega)]; exact h5 a (by omega)
def So (nc m : Nat) (g : Nat → iv_C) (x y : Option iv_H) : Prop := ∀ k, y = some k → ∃ h, x = some h ∧ Sm nc m g h k
def Szq (nc m : Nat) (g : Nat → iv_C) (x y : Option (Nat × iv_H)) : Prop := ∀ v k, y = some (v, k) → ∃ h, x = some (v, h) ∧ Sm nc m g h k
theorem So_some {nc m : Nat} {g : Nat → iv_C} {h k : iv_H} (hs : Sm nc m g h k) : So nc m g (some h) (some k) := fun k1 e => by cases e; exact ⟨h, rfl, hs⟩
theorem So_b {nc m : Nat} {g : Nat → iv_C} {x y : Option iv_H} {f f' : iv_H → Option iv_H} (h1 : So nc m g x y) (h2 : ∀ h k, Sm nc m g h k → So nc m g (f h) (f' k)) : So nc m g (x.bind f) (y.bind f') := fun k e => by
  obtain ⟨k1, e1, e2⟩ := Option.bind_eq_some_iff.mp e
  obtain ⟨z, z1, z2⟩ := h1 k1 e1
  rw [z1, Option.bind_some]
  exact h2 z k1 z2 k e2
theorem Szq_b {nc m : Nat} {g : Nat → iv_C} {x y : Option (Nat × iv_H)} {f f' : (Nat × iv_H) → Option iv_H} (h1 : Szq nc m g x y) (h2 : ∀ v h k, Sm nc m g h k → So nc m g (f (v, h)) (f' (v, k))) : So nc m g (x.bind f) (y.bind f') := fun k e => by
  obtain ⟨⟨v, k1⟩, e1, e2⟩ := Option.bind_eq_some_iff.mp e
  obtain ⟨z, z1, z2⟩ := h1 v k1 e1
  rw [z1, Option.bind_some]
  exact h2 v z k1 z2 k e2
theorem Sv_b {nc m : Nat} {g : Nat → iv_C} {β : Type} {x y : Option β} {f f' : β → Option iv_H} (h1 : ∀ v, y = some v → x = some v) (h2 : ∀ v, So nc m g (f v) (f' v)) : So nc m g (x.bind f) (y.bind f') := fun k e => by
  obtain ⟨v, e1, e2⟩ := Option.bind_eq_some_iff.mp e
  rw [h1 v e1, Option.bind_some]
  exact h2 v k e2
theorem So_pV {nc m : Nat} {g : Nat → iv_C} {h k : iv_H} {ci j q : Nat} {v : Value} (hs : Sm nc m g h k) (hc : ci < 999) : So nc m g (pV h ci j q v) (pV k ci j q v) := fun k1 e => by
  unfold pV at e ⊢
  obtain ⟨fs, e1, e2⟩ := Option.bind_eq_some_iff.mp e
  obtain ⟨a1, a2, a3⟩ := Sm_obj hs hc e1
  rw [a3, Option.bind_some]
  split at e2
  · next hj =>
    rw [if_pos hj]
    cases e2
    exact ⟨_, rfl, Sm_up hs a1 a2⟩
  · cases e2
theorem Szq_nA {nc m : Nat} {g : Nat → iv_C} {h k : iv_H} {c : Nat} {n : Int32} (hs : Sm nc m g h k) : Szq nc m g (nA h c n) (nA k c n) := fun v k1 e => by
  unfold nA at e ⊢
  have h1 := hs.1
  split at e
  · next hj =>
    rw [if_pos (by rw [h1]; exact hj)]
    cases e
    exact ⟨_, by rw [h1], by have := Sm_new (n := n.toNatClampNeg) (c := .inl (c, n.toNatClampNeg, iv_z c)) hs; rw [h1] at this; exact this⟩
  · cases e
theorem Szq_nO {nc m : Nat} {g : Nat → iv_C} {h k : iv_H} {c : Nat} (hs : Sm nc m g h k) : Szq nc m g (nO h c) (nO k c) := fun v k1 e => by
  unfold nO at e ⊢
  have h1 := hs.1
  split at e
  · next hj =>
    rw [if_pos (by rw [h1]; exact hj)]
    cases e
    exact ⟨_, by rw [h1], by have := Sm_new (n := (iv_df c).length) (c := .inr (c, iv_df c)) hs; rw [h1] at this; exact this⟩
  · cases e
theorem Szq_nM {nc m : Nat} {g : Nat → iv_C} {h k : iv_H} {n c : Int32} (hs : Sm nc m g h k) : Szq nc m g (nM h n c) (nM k n c) := fun v k1 e => by
  unfold nM iv_mkm at e ⊢
  obtain ⟨h1, h2, h3, h4, h5⟩ := hs
  dsimp only at e ⊢
  split at e
  · next hj =>
    rw [if_pos (by rw [h1]; exact hj)]
    cases e
    rw [h1]
    refine ⟨(k.1 + 1 + n.toNatClampNeg, h.2.1 + n.toNatClampNeg + n.toNatClampNeg * c.toNatClampNeg, fun q => if q = k.1 then .inl (5, n.toNatClampNeg, .inr (.inr (fun i => if i < n.toNatClampNeg then some (k.1 + 1 + i) else none))) else if k.1 < q ∧ q < k.1 + 1 + n.toNatClampNeg then .inl (0, c.toNatClampNeg, .inl (fun _ => 0)) else h.2.2 q), rfl, rfl, ?_, ?_, fun a a0 a1 => ?_, fun a ha => ?_⟩
    · show h.2.1 + n.toNatClampNeg + n.toNatClampNeg * c.toNatClampNeg = m + (k.2.1 + n.toNatClampNeg + n.toNatClampNeg * c.toNatClampNeg); omega
    · show nc ≤ k.1 + 1 + n.toNatClampNeg; omega
    · dsimp only at a1 ⊢
      by_cases z : a = k.1
      · rw [if_pos z, if_pos z]
      rw [if_neg z, if_neg z]
      by_cases z2 : k.1 < a ∧ a < k.1 + 1 + n.toNatClampNeg
      · rw [if_pos z2, if_pos z2]
      · rw [if_neg z2, if_neg z2]; exact h4 a a0 (by omega)
    · dsimp only at ha ⊢
      rw [if_neg (by omega), if_neg (by omega), if_neg (by omega), if_neg (by omega)]
      exact h5 a (by omega)
  · cases e
theorem So_wI {nc m : Nat} {g : Nat → iv_C} {h k : iv_H} {q : Nat} {i x : Int32} (hs : Sm nc m g h k) : So nc m g (wI h q i x) (wI k q i x) := fun k1 e => by
  unfold wI at e ⊢
  obtain ⟨z, e1, e2⟩ := Option.bind_eq_some_iff.mp e
  obtain ⟨a1, a2, a3⟩ := Sm_arr hs e1
  rw [a3, Option.bind_some]
  obtain ⟨c, n, f⟩ := z
  cases f with
  | inl f =>
    dsimp only at e2 ⊢
    split at e2
    · next hj =>
      rw [if_pos (by rw [hs.1]; exact hj)]
      cases e2
      exact ⟨_, rfl, Sm_up hs a1 a2⟩
    · cases e2
  | inr f => cases e2
theorem Sv_gR {nc m : Nat} {g : Nat → iv_C} {h k : iv_H} {ci j q : Nat} (hs : Sm nc m g h k) (hc : ci < 999) : ∀ v, gR k ci j q = some v → gR h ci j q = some v := fun v e => by
  unfold gR at e ⊢
  obtain ⟨fs, e1, e2⟩ := Option.bind_eq_some_iff.mp e
  obtain ⟨a1, a2, a3⟩ := Sm_obj hs hc e1
  rw [a3, Option.bind_some]; exact e2
theorem Sv_aL {nc m : Nat} {g : Nat → iv_C} {h k : iv_H} {q : Nat} (hs : Sm nc m g h k) : ∀ v, aL k q = some v → aL h q = some v := fun v e => by
  unfold aL at e ⊢
  obtain ⟨fs, e1, e2⟩ := Option.bind_eq_some_iff.mp e
  obtain ⟨a1, a2, a3⟩ := Sm_arr hs e1
  rw [a3, Option.bind_some, hs.1]; exact e2
theorem So_fill {nc m N : Nat} {g : Nat → iv_C} {h k : iv_H} {q : Nat} {x : Int32} (hs : Sm nc m g h k) : So nc m g (fJ7_fill_53178 N h q x) (fJ7_fill_53178 N k q x) := by
  unfold fJ7_fill_53178
  refine Sv_b (Sv_aL hs) (fun n => ?_)
  have : ∀ (f : Nat) (h k : iv_H) (i : Int32), Sm nc m g h k → So nc m g (fJ7_fill_53178_l5 N q x n (fun (h_24 : iv_H) => some h_24) f h i) (fJ7_fill_53178_l5 N q x n (fun (h_24 : iv_H) => some h_24) f k i) := by
    intro f
    induction f with
    | zero => intro h k i hs k1 e; cases e
    | succ f ih =>
      intro h k i hs
      rw [fJ7_fill_53178_l5, fJ7_fill_53178_l5]
      split
      · exact So_some hs
      · exact So_b (So_wI hs) (fun h k hs => ih h k _ hs)
  exact this N h k 0 hs
set_option maxRecDepth 10000 in
theorem So_X0 {nc m N : Nat} {g : Nat → iv_C} {h k : iv_H} {q : Nat} (hs : Sm nc m g h k) : So nc m g (fX0_init N h q) (fX0_init N k q) := by
  unfold fX0_init
  refine Szq_b (Szq_nA hs) (fun v h k hs => ?_)
  dsimp only
  refine So_b (So_pV hs (by decide)) (fun h k hs => ?_)
  refine Szq_b (Szq_nA hs) (fun v h k hs => ?_)
  dsimp only
  refine So_b (So_pV hs (by decide)) (fun h k hs => ?_)
  refine So_b (So_pV hs (by decide)) (fun h k hs => ?_)
  refine Szq_b (Szq_nA hs) (fun v h k hs => ?_)
  dsimp only
  refine So_b (So_pV hs (by decide)) (fun h k hs => ?_)
  exact So_some hs
set_option maxRecDepth 10000 in
theorem So_X1 {nc m N : Nat} {g : Nat → iv_C} {h k : iv_H} {q : Nat} (hs : Sm nc m g h k) : So nc m g (fX1_init N h q) (fX1_init N k q) := by
  unfold fX1_init
  refine So_b (So_pV hs (by decide)) (fun h k hs => ?_)
  refine So_b (So_pV hs (by decide)) (fun h k hs => ?_)
  refine So_b (So_pV hs (by decide)) (fun h k hs => ?_)
  refine So_b (So_pV hs (by decide)) (fun h k hs => ?_)
  refine So_b (So_pV hs (by decide)) (fun h k hs => ?_)
  refine Szq_b (Szq_nA hs) (fun v h k hs => ?_)
  dsimp only
  refine So_b (So_pV hs (by decide)) (fun h k hs => ?_)
  refine Szq_b (Szq_nA hs) (fun v h k hs => ?_)
  dsimp only
  refine So_b (So_pV hs (by decide)) (fun h k hs => ?_)
  refine Szq_b (Szq_nA hs) (fun v h k hs => ?_)
  dsimp only
  refine So_b (So_pV hs (by decide)) (fun h k hs => ?_)
  refine Szq_b (Szq_nA hs) (fun v h k hs => ?_)
  dsimp only
  refine So_b (So_pV hs (by decide)) (fun h k hs => ?_)
  refine Szq_b (Szq_nA hs) (fun v h k hs => ?_)
  dsimp only
  refine So_b (So_pV hs (by decide)) (fun h k hs => ?_)
  refine Szq_b (Szq_nA hs) (fun v h k hs => ?_)
  dsimp only
  refine So_b (So_pV hs (by decide)) (fun h k hs => ?_)
  refine Sv_b (Sv_gR hs (by decide)) (fun v => ?_)
  refine So_b (So_fill hs) (fun h k hs => ?_)
  refine Sv_b (Sv_gR hs (by decide)) (fun v => ?_)
  refine So_b (So_fill hs) (fun h k hs => ?_)
  refine Sv_b (Sv_gR hs (by decide)) (fun v => ?_)
  refine So_b (So_fill hs) (fun h k hs => ?_)
  exact So_some hs
set_option maxRecDepth 10000 in
theorem So_X7 {nc m N : Nat} {g : Nat → iv_C} {h k : iv_H} {q : Nat} {x : Int32} (hs : Sm nc m g h k) : So nc m g (fX7_init N h q x) (fX7_init N k q x) := by
  unfold fX7_init
  refine So_b (So_pV hs (by decide)) (fun h k hs => ?_)
  refine Szq_b (Szq_nA hs) (fun v h k hs => ?_)
  dsimp only
  refine So_b (So_pV hs (by decide)) (fun h k hs => ?_)
  exact So_some hs
set_option maxRecDepth 10000 in
theorem So_X2 {nc m N : Nat} {g : Nat → iv_C} {h k : iv_H} {q : Nat} (hs : Sm nc m g h k) : So nc m g (fX2_init N h q) (fX2_init N k q) := by
  unfold fX2_init
  refine So_b (So_pV hs (by decide)) (fun h k hs => ?_)
  refine So_b (So_pV hs (by decide)) (fun h k hs => ?_)
  refine So_b (So_pV hs (by decide)) (fun h k hs => ?_)
  refine So_b (So_pV hs (by decide)) (fun h k hs => ?_)
  refine So_b (So_pV hs (by decide)) (fun h k hs => ?_)
  refine So_b (So_pV hs (by decide)) (fun h k hs => ?_)
  refine So_b (So_pV hs (by decide)) (fun h k hs => ?_)
  refine So_b (So_pV hs (by decide)) (fun h k hs => ?_)
  refine So_b (So_pV hs (by decide)) (fun h k hs => ?_)
  refine Szq_b (Szq_nO hs) (fun v h k hs => ?_)
  dsimp only
  refine So_b (So_X1 hs) (fun h k hs => ?_)
  refine So_b (So_pV hs (by decide)) (fun h k hs => ?_)
  refine Szq_b (Szq_nA hs) (fun v h k hs => ?_)
  dsimp only
  refine So_b (So_wI hs) (fun h k hs => ?_)
  refine So_b (So_wI hs) (fun h k hs => ?_)
  refine So_b (So_wI hs) (fun h k hs => ?_)
  refine So_b (So_wI hs) (fun h k hs => ?_)
  refine So_b (So_wI hs) (fun h k hs => ?_)
  refine So_b (So_pV hs (by decide)) (fun h k hs => ?_)
  refine Szq_b (Szq_nA hs) (fun v h k hs => ?_)
  dsimp only
  refine So_b (So_pV hs (by decide)) (fun h k hs => ?_)
  refine Szq_b (Szq_nO hs) (fun v h k hs => ?_)
  dsimp only
  refine So_b (So_X7 hs) (fun h k hs => ?_)
  refine So_b (So_pV hs (by decide)) (fun h k hs => ?_)
  refine Szq_b (Szq_nO hs) (fun v h k hs => ?_)
  dsimp only
  refine So_b (So_X7 hs) (fun h k hs => ?_)
  refine So_b (So_pV hs (by decide)) (fun h k hs => ?_)
  refine Szq_b (Szq_nA hs) (fun v h k hs => ?_)
  dsimp only
  refine So_b (So_pV hs (by decide)) (fun h k hs => ?_)
  refine Szq_b (Szq_nA hs) (fun v h k hs => ?_)
  dsimp only
  refine So_b (So_pV hs (by decide)) (fun h k hs => ?_)
  refine Szq_b (Szq_nO hs) (fun v h k hs => ?_)
  dsimp only
  refine So_b (So_X7 hs) (fun h k hs => ?_)
  refine So_b (So_pV hs (by decide)) (fun h k hs => ?_)
  refine Szq_b (Szq_nO hs) (fun v h k hs => ?_)
  dsimp only
  refine So_b (So_X7 hs) (fun h k hs => ?_)
  refine So_b (So_pV hs (by decide)) (fun h k hs => ?_)
  refine Szq_b (Szq_nO hs) (fun v h k hs => ?_)
  dsimp only
  refine So_b (So_X7 hs) (fun h k hs => ?_)
  refine So_b (So_pV hs (by decide)) (fun h k hs => ?_)
  exact So_some hs
set_option maxRecDepth 10000 in
theorem So_X3 {nc m N : Nat} {g : Nat → iv_C} {h k : iv_H} {q : Nat} (hs : Sm nc m g h k) : So nc m g (fX3_init N h q) (fX3_init N k q) := by
  unfold fX3_init
  refine So_b (So_pV hs (by decide)) (fun h k hs => ?_)
  refine So_b (So_pV hs (by decide)) (fun h k hs => ?_)
  refine So_b (So_pV hs (by decide)) (fun h k hs => ?_)
  refine So_b (So_pV hs (by decide)) (fun h k hs => ?_)
  refine So_b (So_pV hs (by decide)) (fun h k hs => ?_)
  refine So_b (So_pV hs (by decide)) (fun h k hs => ?_)
  refine So_b (So_pV hs (by decide)) (fun h k hs => ?_)
  refine Szq_b (Szq_nA hs) (fun v h k hs => ?_)
  dsimp only
  refine So_b (So_pV hs (by decide)) (fun h k hs => ?_)
  exact So_some hs
set_option maxRecDepth 10000 in
theorem So_X4 {nc m N : Nat} {g : Nat → iv_C} {h k : iv_H} {q : Nat} (hs : Sm nc m g h k) : So nc m g (fX4_init N h q) (fX4_init N k q) := by
  unfold fX4_init
  refine Szq_b (Szq_nO hs) (fun v h k hs => ?_)
  dsimp only
  refine So_b (So_X1 hs) (fun h k hs => ?_)
  refine So_b (So_pV hs (by decide)) (fun h k hs => ?_)
  refine So_b (So_pV hs (by decide)) (fun h k hs => ?_)
  refine So_b (So_pV hs (by decide)) (fun h k hs => ?_)
  refine So_b (So_pV hs (by decide)) (fun h k hs => ?_)
  refine Szq_b (Szq_nA hs) (fun v h k hs => ?_)
  dsimp only
  refine So_b (So_pV hs (by decide)) (fun h k hs => ?_)
  refine Szq_b (Szq_nA hs) (fun v h k hs => ?_)
  dsimp only
  refine So_b (So_pV hs (by decide)) (fun h k hs => ?_)
  exact So_some hs
set_option maxRecDepth 10000 in
theorem So_X6 {nc m N : Nat} {g : Nat → iv_C} {h k : iv_H} {q : Nat} (hs : Sm nc m g h k) : So nc m g (fX6_init N h q) (fX6_init N k q) := by
  unfold fX6_init
  refine Szq_b (Szq_nA hs) (fun v h k hs => ?_)
  dsimp only
  refine So_b (So_pV hs (by decide)) (fun h k hs => ?_)
  refine So_b (So_pV hs (by decide)) (fun h k hs => ?_)
  refine So_b (So_pV hs (by decide)) (fun h k hs => ?_)
  refine So_b (So_pV hs (by decide)) (fun h k hs => ?_)
  refine So_b (So_pV hs (by decide)) (fun h k hs => ?_)
  exact So_some hs
set_option maxRecDepth 10000 in
theorem So_X5 {nc m N : Nat} {g : Nat → iv_C} {h k : iv_H} {q : Nat} (hs : Sm nc m g h k) : So nc m g (fX5_init N h q) (fX5_init N k q) := by
  unfold fX5_init
  refine Szq_b (Szq_nO hs) (fun v h k hs => ?_)
  dsimp only
  refine So_b (So_X6 hs) (fun h k hs => ?_)
  refine So_b (So_pV hs (by decide)) (fun h k hs => ?_)
  refine So_b (So_pV hs (by decide)) (fun h k hs => ?_)
  exact So_some hs
set_option maxRecDepth 10000 in
theorem So_X8 {nc m N : Nat} {g : Nat → iv_C} {h k : iv_H} {q : Nat} (hs : Sm nc m g h k) : So nc m g (fX8_init N h q) (fX8_init N k q) := by
  unfold fX8_init
  refine Szq_b (Szq_nO hs) (fun v h k hs => ?_)
  dsimp only
  refine So_b (So_X6 hs) (fun h k hs => ?_)
  refine So_b (So_pV hs (by decide)) (fun h k hs => ?_)
  refine Szq_b (Szq_nA hs) (fun v h k hs => ?_)
  dsimp only
  refine So_b (So_pV hs (by decide)) (fun h k hs => ?_)
  refine So_b (So_pV hs (by decide)) (fun h k hs => ?_)
  refine Szq_b (Szq_nA hs) (fun v h k hs => ?_)
  dsimp only
  refine So_b (So_pV hs (by decide)) (fun h k hs => ?_)
  refine So_b (So_pV hs (by decide)) (fun h k hs => ?_)
  refine So_b (So_pV hs (by decide)) (fun h k hs => ?_)
  refine So_b (So_pV hs (by decide)) (fun h k hs => ?_)
  refine So_b (So_pV hs (by decide)) (fun h k hs => ?_)
  refine So_b (So_pV hs (by decide)) (fun h k hs => ?_)
  refine So_b (So_pV hs (by decide)) (fun h k hs => ?_)
  refine So_b (So_pV hs (by decide)) (fun h k hs => ?_)
  exact So_some hs
set_option maxRecDepth 10000 in
theorem So_X9 {nc m N : Nat} {g : Nat → iv_C} {h k : iv_H} {q : Nat} (hs : Sm nc m g h k) : So nc m g (fX9_init N h q) (fX9_init N k q) := by
  unfold fX9_init
  refine Szq_b (Szq_nA hs) (fun v h k hs => ?_)
  dsimp only
  refine So_b (So_pV hs (by decide)) (fun h k hs => ?_)
  refine Szq_b (Szq_nA hs) (fun v h k hs => ?_)
  dsimp only
  refine So_b (So_pV hs (by decide)) (fun h k hs => ?_)
  refine Szq_b (Szq_nA hs) (fun v h k hs => ?_)
  dsimp only
  refine So_b (So_pV hs (by decide)) (fun h k hs => ?_)
  refine Szq_b (Szq_nA hs) (fun v h k hs => ?_)
  dsimp only
  refine So_b (So_pV hs (by decide)) (fun h k hs => ?_)
  refine So_b (So_pV hs (by decide)) (fun h k hs => ?_)
  refine Szq_b (Szq_nA hs) (fun v h k hs => ?_)
  dsimp only
  refine So_b (So_pV hs (by decide)) (fun h k hs => ?_)
  refine Szq_b (Szq_nA hs) (fun v h k hs => ?_)
  dsimp only
  refine So_b (So_pV hs (by decide)) (fun h k hs => ?_)
  refine Szq_b (Szq_nO hs) (fun v h k hs => ?_)
  dsimp only
  refine So_b (So_X1 hs) (fun h k hs => ?_)
  refine So_b (So_pV hs (by decide)) (fun h k hs => ?_)
  refine Szq_b (Szq_nO hs) (fun v h k hs => ?_)
  dsimp only
  refine So_b (So_X3 hs) (fun h k hs => ?_)
  refine So_b (So_pV hs (by decide)) (fun h k hs => ?_)
  refine So_b (So_pV hs (by decide)) (fun h k hs => ?_)
  refine So_b (So_pV hs (by decide)) (fun h k hs => ?_)
  refine So_b (So_pV hs (by decide)) (fun h k hs => ?_)
  refine Szq_b (Szq_nA hs) (fun v h k hs => ?_)
  dsimp only
  refine So_b (So_pV hs (by decide)) (fun h k hs => ?_)
  exact So_some hs
set_option maxRecDepth 10000 in
theorem So_X10 {nc m N : Nat} {g : Nat → iv_C} {h k : iv_H} {q : Nat} (hs : Sm nc m g h k) : So nc m g (fX10_init N h q) (fX10_init N k q) := by
  unfold fX10_init
  refine Szq_b (Szq_nO hs) (fun v h k hs => ?_)
  dsimp only
  refine So_b (So_X1 hs) (fun h k hs => ?_)
  refine So_b (So_pV hs (by decide)) (fun h k hs => ?_)
  refine Szq_b (Szq_nO hs) (fun v h k hs => ?_)
  dsimp only
  refine So_b (So_X3 hs) (fun h k hs => ?_)
  refine So_b (So_pV hs (by decide)) (fun h k hs => ?_)
  refine So_b (So_pV hs (by decide)) (fun h k hs => ?_)
  refine Szq_b (Szq_nM hs) (fun v h k hs => ?_)
  dsimp only
  refine So_b (So_pV hs (by decide)) (fun h k hs => ?_)
  refine Szq_b (Szq_nA hs) (fun v h k hs => ?_)
  dsimp only
  refine So_b (So_pV hs (by decide)) (fun h k hs => ?_)
  refine Szq_b (Szq_nA hs) (fun v h k hs => ?_)
  dsimp only
  refine So_b (So_pV hs (by decide)) (fun h k hs => ?_)
  refine Szq_b (Szq_nA hs) (fun v h k hs => ?_)
  dsimp only
  refine So_b (So_pV hs (by decide)) (fun h k hs => ?_)
  refine So_b (So_pV hs (by decide)) (fun h k hs => ?_)
  refine So_b (So_pV hs (by decide)) (fun h k hs => ?_)
  refine So_b (So_pV hs (by decide)) (fun h k hs => ?_)
  refine So_b (So_pV hs (by decide)) (fun h k hs => ?_)
  refine So_b (So_pV hs (by decide)) (fun h k hs => ?_)
  exact So_some hs
set_option maxRecDepth 10000 in
theorem So_X11 {nc m N : Nat} {g : Nat → iv_C} {h k : iv_H} {q : Nat} (hs : Sm nc m g h k) : So nc m g (fX11_init N h q) (fX11_init N k q) := by
  unfold fX11_init
  refine Szq_b (Szq_nA hs) (fun v h k hs => ?_)
  dsimp only
  refine So_b (So_pV hs (by decide)) (fun h k hs => ?_)
  refine So_b (So_pV hs (by decide)) (fun h k hs => ?_)
  refine Szq_b (Szq_nM hs) (fun v h k hs => ?_)
  dsimp only
  refine So_b (So_pV hs (by decide)) (fun h k hs => ?_)
  refine So_b (So_pV hs (by decide)) (fun h k hs => ?_)
  refine Szq_b (Szq_nO hs) (fun v h k hs => ?_)
  dsimp only
  refine So_b (So_X2 hs) (fun h k hs => ?_)
  refine So_b (So_pV hs (by decide)) (fun h k hs => ?_)
  refine Szq_b (Szq_nO hs) (fun v h k hs => ?_)
  dsimp only
  refine So_b (So_X2 hs) (fun h k hs => ?_)
  refine So_b (So_pV hs (by decide)) (fun h k hs => ?_)
  refine Szq_b (Szq_nA hs) (fun v h k hs => ?_)
  dsimp only
  refine So_b (So_pV hs (by decide)) (fun h k hs => ?_)
  refine Szq_b (Szq_nO hs) (fun v h k hs => ?_)
  dsimp only
  refine So_b (So_X5 hs) (fun h k hs => ?_)
  refine So_b (So_pV hs (by decide)) (fun h k hs => ?_)
  refine Szq_b (Szq_nO hs) (fun v h k hs => ?_)
  dsimp only
  refine So_b (So_X8 hs) (fun h k hs => ?_)
  refine So_b (So_pV hs (by decide)) (fun h k hs => ?_)
  refine Szq_b (Szq_nO hs) (fun v h k hs => ?_)
  dsimp only
  refine So_b (So_X3 hs) (fun h k hs => ?_)
  refine So_b (So_pV hs (by decide)) (fun h k hs => ?_)
  refine Szq_b (Szq_nO hs) (fun v h k hs => ?_)
  dsimp only
  refine So_b (So_X9 hs) (fun h k hs => ?_)
  refine So_b (So_pV hs (by decide)) (fun h k hs => ?_)
  refine Szq_b (Szq_nO hs) (fun v h k hs => ?_)
  dsimp only
  refine So_b (So_X10 hs) (fun h k hs => ?_)
  refine So_b (So_pV hs (by decide)) (fun h k hs => ?_)
  refine Szq_b (Szq_nO hs) (fun v h k hs => ?_)
  dsimp only
  refine So_b (So_X0 hs) (fun h k hs => ?_)
  refine So_b (So_pV hs (by decide)) (fun h k hs => ?_)
  refine Szq_b (Szq_nO hs) (fun v h k hs => ?_)
  dsimp only
  refine So_b (So_X4 hs) (fun h k hs => ?_)
  refine So_b (So_pV hs (by decide)) (fun h k hs => ?_)
  refine Szq_b (Szq_nA hs) (fun v h k hs => ?_)
  dsimp only
  refine So_b (So_pV hs (by decide)) (fun h k hs => ?_)
  refine So_b (So_pV hs (by decide)) (fun h k hs => ?_)
  exact So_some hs
set_option maxRecDepth 10000 in
theorem So_X12 {nc m N : Nat} {g : Nat → iv_C} {h k : iv_H} {q : Nat} (hs : Sm nc m g h k) : So nc m g (fX12_init N h q) (fX12_init N k q) := by
  unfold fX12_init
  refine Szq_b (Szq_nA hs) (fun v h k hs => ?_)
  dsimp only
  refine So_b (So_wI hs) (fun h k hs => ?_)
  refine So_b (So_wI hs) (fun h k hs => ?_)
  refine So_b (So_wI hs) (fun h k hs => ?_)
  refine So_b (So_wI hs) (fun h k hs => ?_)
  refine So_b (So_wI hs) (fun h k hs => ?_)
  refine So_b (So_wI hs) (fun h k hs => ?_)
  refine So_b (So_wI hs) (fun h k hs => ?_)
  refine So_b (So_wI hs) (fun h k hs => ?_)
  refine So_b (So_wI hs) (fun h k hs => ?_)
  refine So_b (So_wI hs) (fun h k hs => ?_)
  refine So_b (So_wI hs) (fun h k hs => ?_)
  refine So_b (So_wI hs) (fun h k hs => ?_)
  refine So_b (So_wI hs) (fun h k hs => ?_)
  refine So_b (So_wI hs) (fun h k hs => ?_)
  refine So_b (So_pV hs (by decide)) (fun h k hs => ?_)
  refine Szq_b (Szq_nA hs) (fun v h k hs => ?_)
  dsimp only
  refine So_b (So_pV hs (by decide)) (fun h k hs => ?_)
  refine Szq_b (Szq_nA hs) (fun v h k hs => ?_)
  dsimp only
  refine So_b (So_pV hs (by decide)) (fun h k hs => ?_)
  refine Szq_b (Szq_nA hs) (fun v h k hs => ?_)
  dsimp only
  refine So_b (So_pV hs (by decide)) (fun h k hs => ?_)
  refine Szq_b (Szq_nA hs) (fun v h k hs => ?_)
  dsimp only
  refine So_b (So_pV hs (by decide)) (fun h k hs => ?_)
  refine Szq_b (Szq_nA hs) (fun v h k hs => ?_)
  dsimp only
  refine So_b (So_wI hs) (fun h k hs => ?_)
  refine So_b (So_wI hs) (fun h k hs => ?_)
  refine So_b (So_wI hs) (fun h k hs => ?_)
  refine So_b (So_wI hs) (fun h k hs => ?_)
  refine So_b (So_pV hs (by decide)) (fun h k hs => ?_)
  refine Szq_b (Szq_nA hs) (fun v h k hs => ?_)
  dsimp only
  refine So_b (So_pV hs (by decide)) (fun h k hs => ?_)
  refine Szq_b (Szq_nA hs) (fun v h k hs => ?_)
  dsimp only
  refine So_b (So_wI hs) (fun h k hs => ?_)
  refine So_b (So_wI hs) (fun h k hs => ?_)
  refine So_b (So_wI hs) (fun h k hs => ?_)
  refine So_b (So_wI hs) (fun h k hs => ?_)
  refine So_b (So_wI hs) (fun h k hs => ?_)
  refine So_b (So_wI hs) (fun h k hs => ?_)
  refine So_b (So_wI hs) (fun h k hs => ?_)
  refine So_b (So_wI hs) (fun h k hs => ?_)
  refine So_b (So_wI hs) (fun h k hs => ?_)
  refine So_b (So_wI hs) (fun h k hs => ?_)
  refine So_b (So_wI hs) (fun h k hs => ?_)
  refine So_b (So_wI hs) (fun h k hs => ?_)
  refine So_b (So_wI hs) (fun h k hs => ?_)
  refine So_b (So_wI hs) (fun h k hs => ?_)
  refine So_b (So_wI hs) (fun h k hs => ?_)
  refine So_b (So_wI hs) (fun h k hs => ?_)
  refine So_b (So_pV hs (by decide)) (fun h k hs => ?_)
  refine Szq_b (Szq_nA hs) (fun v h k hs => ?_)
  dsimp only
  refine So_b (So_pV hs (by decide)) (fun h k hs => ?_)
  refine Szq_b (Szq_nA hs) (fun v h k hs => ?_)
  dsimp only
  refine So_b (So_pV hs (by decide)) (fun h k hs => ?_)
  refine Szq_b (Szq_nA hs) (fun v h k hs => ?_)
  dsimp only
  refine So_b (So_pV hs (by decide)) (fun h k hs => ?_)
  refine Szq_b (Szq_nA hs) (fun v h k hs => ?_)
  dsimp only
  refine So_b (So_pV hs (by decide)) (fun h k hs => ?_)
  refine Szq_b (Szq_nA hs) (fun v h k hs => ?_)
  dsimp only
  refine So_b (So_pV hs (by decide)) (fun h k hs => ?_)
  refine Szq_b (Szq_nA hs) (fun v h k hs => ?_)
  dsimp only
  refine So_b (So_pV hs (by decide)) (fun h k hs => ?_)
  refine Szq_b (Szq_nA hs) (fun v h k hs => ?_)
  dsimp only
  refine So_b (So_pV hs (by decide)) (fun h k hs => ?_)
  refine Szq_b (Szq_nA hs) (fun v h k hs => ?_)
  dsimp only
  refine So_b (So_pV hs (by decide)) (fun h k hs => ?_)
  refine Szq_b (Szq_nA hs) (fun v h k hs => ?_)
  dsimp only
  refine So_b (So_pV hs (by decide)) (fun h k hs => ?_)
  refine Szq_b (Szq_nA hs) (fun v h k hs => ?_)
  dsimp only
  refine So_b (So_pV hs (by decide)) (fun h k hs => ?_)
  refine Szq_b (Szq_nA hs) (fun v h k hs => ?_)
  dsimp only
  refine So_b (So_pV hs (by decide)) (fun h k hs => ?_)
  refine Szq_b (Szq_nA hs) (fun v h k hs => ?_)
  dsimp only
  refine So_b (So_pV hs (by decide)) (fun h k hs => ?_)
  refine Szq_b (Szq_nA hs) (fun v h k hs => ?_)
  dsimp only
  refine So_b (So_pV hs (by decide)) (fun h k hs => ?_)
  refine Szq_b (Szq_nA hs) (fun v h k hs => ?_)
  dsimp only
  refine So_b (So_pV hs (by decide)) (fun h k hs => ?_)
  refine Szq_b (Szq_nA hs) (fun v h k hs => ?_)
  dsimp only
  refine So_b (So_pV hs (by decide)) (fun h k hs => ?_)
  refine Szq_b (Szq_nA hs) (fun v h k hs => ?_)
  dsimp only
  refine So_b (So_pV hs (by decide)) (fun h k hs => ?_)
  refine Szq_b (Szq_nA hs) (fun v h k hs => ?_)
  dsimp only
  refine So_b (So_pV hs (by decide)) (fun h k hs => ?_)
  refine So_b (So_pV hs (by decide)) (fun h k hs => ?_)
  refine Szq_b (Szq_nA hs) (fun v h k hs => ?_)
  dsimp only
  refine So_b (So_pV hs (by decide)) (fun h k hs => ?_)
  refine Szq_b (Szq_nA hs) (fun v h k hs => ?_)
  dsimp only
  refine So_b (So_pV hs (by decide)) (fun h k hs => ?_)
  refine Szq_b (Szq_nA hs) (fun v h k hs => ?_)
  dsimp only
  refine So_b (So_pV hs (by decide)) (fun h k hs => ?_)
  refine Szq_b (Szq_nA hs) (fun v h k hs => ?_)
  dsimp only
  refine So_b (So_pV hs (by decide)) (fun h k hs => ?_)
  refine Szq_b (Szq_nA hs) (fun v h k hs => ?_)
  dsimp only
  refine So_b (So_pV hs (by decide)) (fun h k hs => ?_)
  refine Szq_b (Szq_nA hs) (fun v h k hs => ?_)
  dsimp only
  refine So_b (So_pV hs (by decide)) (fun h k hs => ?_)
  refine Szq_b (Szq_nA hs) (fun v h k hs => ?_)
  dsimp only
  refine So_b (So_pV hs (by decide)) (fun h k hs => ?_)
  refine Szq_b (Szq_nA hs) (fun v h k hs => ?_)
  dsimp only
  refine So_b (So_pV hs (by decide)) (fun h k hs => ?_)
  refine Szq_b (Szq_nA hs) (fun v h k hs => ?_)
  dsimp only
  refine So_b (So_pV hs (by decide)) (fun h k hs => ?_)
  refine Szq_b (Szq_nA hs) (fun v h k hs => ?_)
  dsimp only
  refine So_b (So_pV hs (by decide)) (fun h k hs => ?_)
  refine Szq_b (Szq_nA hs) (fun v h k hs => ?_)
  dsimp only
  refine So_b (So_pV hs (by decide)) (fun h k hs => ?_)
  refine Szq_b (Szq_nA hs) (fun v h k hs => ?_)
  dsimp only
  refine So_b (So_pV hs (by decide)) (fun h k hs => ?_)
  refine Szq_b (Szq_nA hs) (fun v h k hs => ?_)
  dsimp only
  refine So_b (So_pV hs (by decide)) (fun h k hs => ?_)
  refine Szq_b (Szq_nA hs) (fun v h k hs => ?_)
  dsimp only
  refine So_b (So_pV hs (by decide)) (fun h k hs => ?_)
  refine Szq_b (Szq_nA hs) (fun v h k hs => ?_)
  dsimp only
  refine So_b (So_pV hs (by decide)) (fun h k hs => ?_)
  refine Szq_b (Szq_nA hs) (fun v h k hs => ?_)
  dsimp only
  refine So_b (So_pV hs (by decide)) (fun h k hs => ?_)
  refine Szq_b (Szq_nA hs) (fun v h k hs => ?_)
  dsimp only
  refine So_b (So_pV hs (by decide)) (fun h k hs => ?_)
  refine Szq_b (Szq_nA hs) (fun v h k hs => ?_)
  dsimp only
  refine So_b (So_pV hs (by decide)) (fun h k hs => ?_)
  refine Szq_b (Szq_nA hs) (fun v h k hs => ?_)
  dsimp only
  refine So_b (So_pV hs (by decide)) (fun h k hs => ?_)
  refine Szq_b (Szq_nA hs) (fun v h k hs => ?_)
  dsimp only
  refine So_b (So_pV hs (by decide)) (fun h k hs => ?_)
  refine Szq_b (Szq_nA hs) (fun v h k hs => ?_)
  dsimp only
  refine So_b (So_pV hs (by decide)) (fun h k hs => ?_)
  refine Szq_b (Szq_nA hs) (fun v h k hs => ?_)
  dsimp only
  refine So_b (So_pV hs (by decide)) (fun h k hs => ?_)
  refine Szq_b (Szq_nA hs) (fun v h k hs => ?_)
  dsimp only
  refine So_b (So_pV hs (by decide)) (fun h k hs => ?_)
  refine Szq_b (Szq_nA hs) (fun v h k hs => ?_)
  dsimp only
  refine So_b (So_pV hs (by decide)) (fun h k hs => ?_)
  refine Szq_b (Szq_nA hs) (fun v h k hs => ?_)
  dsimp only
  refine So_b (So_pV hs (by decide)) (fun h k hs => ?_)
  refine Szq_b (Szq_nA hs) (fun v h k hs => ?_)
  dsimp only
  refine So_b (So_pV hs (by decide)) (fun h k hs => ?_)
  refine Szq_b (Szq_nA hs) (fun v h k hs => ?_)
  dsimp only
  refine So_b (So_pV hs (by decide)) (fun h k hs => ?_)
  refine Szq_b (Szq_nA hs) (fun v h k hs => ?_)
  dsimp only
  refine So_b (So_pV hs (by decide)) (fun h k hs => ?_)
  refine Szq_b (Szq_nA hs) (fun v h k hs => ?_)
  dsimp only
  refine So_b (So_pV hs (by decide)) (fun h k hs => ?_)
  refine Szq_b (Szq_nA hs) (fun v h k hs => ?_)
  dsimp only
  refine So_b (So_pV hs (by decide)) (fun h k hs => ?_)
  refine Szq_b (Szq_nA hs) (fun v h k hs => ?_)
  dsimp only
  refine So_b (So_pV hs (by decide)) (fun h k hs => ?_)
  refine Szq_b (Szq_nA hs) (fun v h k hs => ?_)
  dsimp only
  refine So_b (So_pV hs (by decide)) (fun h k hs => ?_)
  refine Szq_b (Szq_nA hs) (fun v h k hs => ?_)
  dsimp only
  refine So_b (So_pV hs (by decide)) (fun h k hs => ?_)
  refine Szq_b (Szq_nA hs) (fun v h k hs => ?_)
  dsimp only
  refine So_b (So_pV hs (by decide)) (fun h k hs => ?_)
  refine Szq_b (Szq_nA hs) (fun v h k hs => ?_)
  dsimp only
  refine So_b (So_pV hs (by decide)) (fun h k hs => ?_)
  exact So_some hs
