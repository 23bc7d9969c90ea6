-- CONSTRUCTORS: a cell's kind, read off; a house more
def vlV (v : Value) : Int := match v with
  | .int z => z.toInt
  | .long z => z.toInt
  | .ref p => p
  | _ => -1
def vlC (c : iv_C) (i : Int) : Int := match c with
  | .inl (_, n, .inl f) => if 0 ≤ i ∧ i.toNat < n then (f i.toNat).toInt else 0
  | .inl (_, n, .inr (.inl f)) => if 0 ≤ i ∧ i.toNat < n then (f i.toNat).toInt else 0
  | .inl (_, n, .inr (.inr f)) => if 0 ≤ i ∧ i.toNat < n then (match f i.toNat with
    | none => -1
    | some p => (p : Int)) else 0
  | .inr (_, fs) => if 0 ≤ i then (match fs[i.toNat]? with
    | some v => vlV v
    | none => 0) else 0
def okV (a t : Nat) (v : Value) : Bool := match t, v with
  | 0, .int _ => true
  | 1, .long _ => true
  | 2, .null => true
  | 2, .ref _ => true
  | t + 3, .ref p => decide (p = a + t)
  | _, _ => false
def okF (a : Nat) : List Nat → List Value → Bool
  | [], [] => true
  | t :: ts, v :: vs => okV a t v && okF a ts vs
  | _, _ => false
def okC (a : Nat) (z : Nat × Nat) (c : iv_C) : Bool := match c with
  | .inl (k, n, .inl _) => decide (k = z.1) && decide (n = z.2) && (decide (k = 0) || decide (k = 2) || decide (k = 3))
  | .inl (k, n, .inr (.inl _)) => decide (k = z.1) && decide (n = z.2) && decide (k = 1)
  | .inl (k, n, .inr (.inr f)) => decide (k = z.1) && decide (n = z.2) && (decide (k = 4) || (decide (k = 5) && (List.range n).all (fun i => decide (f i = some (a + 1 + i)))))
  | .inr (ci, fs) => decide (z.1 = 100 + ci) && decide (ci < 13) && okF a (oc ci) fs
theorem okV_ok {a t : Nat} {v : Value} (h : okV a t v = true) : vr a t (vlV v) v := by
  unfold okV at h
  split at h
  · exact ⟨_, rfl, rfl⟩
  · exact ⟨_, rfl, rfl⟩
  · show Value.null = iv_rf (rvo (-1)); rw [rvo_neg (by omega)]; rfl
  · next p => show Value.ref p = iv_rf (rvo (p : Int)); rw [rvo_nat]; rfl
  · next t p => show Value.ref p = .ref (a + t); rw [of_decide_eq_true h]
  · cases h
theorem okF_ok {a : Nat} : ∀ (ts : List Nat) (vs : List Value), okF a ts vs = true → vs.length = ts.length ∧ ∀ (j t : Nat) (v : Value), ts[j]? = some t → vs[j]? = some v → vr a t (vlV v) v := by
  intro ts
  induction ts with
  | nil =>
    intro vs h
    cases vs with
    | nil => exact ⟨rfl, fun j t v h1 _ => by cases h1⟩
    | cons v vs => cases h
  | cons t ts ih =>
    intro vs h
    cases vs with
    | nil => cases h
    | cons v vs =>
      have h : (okV a t v && okF a ts vs) = true := h
      rw [Bool.and_eq_true] at h
      obtain ⟨i1, i2⟩ := ih vs h.2
      refine ⟨by rw [List.length_cons, List.length_cons, i1], fun j t' v' h1 h2 => ?_⟩
      cases j with
      | zero => cases h1; cases h2; exact okV_ok h.1
      | succ j => exact i2 j t' v' h1 h2
theorem okC_ok {a : Nat} {z : Nat × Nat} {c : iv_C} (h : okC a z c = true) : ckc a z (vlC c) c := by
  rcases c with ⟨k, n, f⟩ | ⟨ci, fs⟩
  · rcases f with f | f | f
    · have h : (decide (k = z.1) && decide (n = z.2) && (decide (k = 0) || decide (k = 2) || decide (k = 3))) = true := h
      simp only [Bool.and_eq_true, Bool.or_eq_true, decide_eq_true_eq] at h
      obtain ⟨⟨h1, h2⟩, h3⟩ := h
      refine ⟨fun ci hc => by omega, fun _ => ⟨f, by rw [← h1, ← h2], fun i hi => ?_⟩, fun e => by omega, fun e => by omega, fun e => by omega⟩
      show _ = if 0 ≤ (i : Int) ∧ (i : Int).toNat < n then _ else _
      rw [Int.toNat_natCast, if_pos ⟨by omega, by omega⟩]
    · have h : (decide (k = z.1) && decide (n = z.2) && decide (k = 1)) = true := h
      simp only [Bool.and_eq_true, decide_eq_true_eq] at h
      obtain ⟨⟨h1, h2⟩, h3⟩ := h
      refine ⟨fun ci hc => by omega, fun e => by omega, fun _ => ⟨f, by rw [← h2, h3], fun i hi => ?_⟩, fun e => by omega, fun e => by omega⟩
      show _ = if 0 ≤ (i : Int) ∧ (i : Int).toNat < n then _ else _
      rw [Int.toNat_natCast, if_pos ⟨by omega, by omega⟩]
    · have h : (decide (k = z.1) && decide (n = z.2) && (decide (k = 4) || (decide (k = 5) && (List.range n).all (fun i => decide (f i = some (a + 1 + i)))))) = true := h
      simp only [Bool.and_eq_true, Bool.or_eq_true, decide_eq_true_eq, List.all_eq_true, List.mem_range] at h
      obtain ⟨⟨h1, h2⟩, h3⟩ := h
      refine ⟨fun ci hc => by omega, fun e => by omega, fun e => by omega, fun e => ⟨f, by rw [← h2, h1, e], fun i hi => ?_⟩, fun e => ⟨f, by rw [← h2, h1, e], fun i hi => ?_⟩⟩
      · show f i = rvo (if 0 ≤ (i : Int) ∧ (i : Int).toNat < n then _ else _)
        rw [Int.toNat_natCast, if_pos ⟨by omega, by omega⟩]
        cases f i with
        | none => exact (rvo_neg (by decide)).symm
        | some p => exact rvo_nat.symm
      · rcases h3 with h3 | h3
        · omega
        · exact h3.2 i (by omega)
  · have h : (decide (z.1 = 100 + ci) && decide (ci < 13) && okF a (oc ci) fs) = true := h
    simp only [Bool.and_eq_true, decide_eq_true_eq] at h
    obtain ⟨⟨h1, h2⟩, h3⟩ := h
    obtain ⟨i1, i2⟩ := okF_ok _ _ h3
    refine ⟨fun cj hc => ?_, fun e => by omega, fun e => by omega, fun e => by omega, fun e => by omega⟩
    have : cj = ci := by omega
    subst this
    refine ⟨fs, rfl, i1, fun j t v e1 e2 => ?_⟩
    have : vlC (.inr (cj, fs)) (j : Int) = vlV v := by
      show (if 0 ≤ (j : Int) then (match fs[(j : Int).toNat]? with
        | some v => vlV v
        | none => 0) else 0) = _
      rw [if_pos (by omega), Int.toNat_natCast, e2]
    rw [this]
    exact i2 j t v e1 e2
def dmy : Nat → iv_C := fun _ => .inr (999, [])
/-- a new house at nc -/
def nHs (nc m : Nat) (g : Nat → iv_C) : iv_H := (nc + 1, m + (iv_df 2).length, iv_up g nc (.inr (2, iv_df 2)))
def nHc (nc : Nat) : Bool := match fX2_init 100 (nHs nc 0 dmy) nc with
  | some k => decide (k.1 = nc + 22) && decide (k.2.1 ≤ 1000) && (List.range 22).all (fun i => okC (nc + i) (sh (nc + i)) (k.2.2 (nc + i)))
  | none => false
theorem nHc_ok : nHc 174 = true ∧ nHc 196 = true ∧ nHc 218 = true ∧ nHc 240 = true := by decide +kernel
theorem Sm_start {nc m : Nat} {g : Nat → iv_C} : Sm nc m g (nc, m, g) (nc, 0, dmy) := ⟨rfl, rfl, Nat.le_refl _, fun a a0 a1 => by have a1 : a < nc := a1; omega, fun a _ => ⟨rfl, rfl⟩⟩
theorem nHs_ok {nc m : Nat} {g : Nat → iv_C} (h : nHc nc = true) : ∃ h', fX2_init 100 (nHs nc m g) nc = some h' ∧ h'.1 = nc + 22 ∧ h'.2.1 ≤ m + 1000 ∧ (∀ a, (a < nc ∨ nc + 22 ≤ a) → h'.2.2 a = g a) ∧ ∀ a, nc ≤ a → a < nc + 22 → okC a (sh a) (h'.2.2 a) = true := by
  unfold nHc at h
  split at h
  · next k hk =>
    simp only [Bool.and_eq_true, decide_eq_true_eq, List.all_eq_true, List.mem_range] at h
    obtain ⟨⟨k1, k2⟩, k3⟩ := h
    have hs : Sm nc m g (nHs nc m g) (nHs nc 0 dmy) := Sm_new (n := (iv_df 2).length) (c := .inr (2, iv_df 2)) (Sm_start (nc := nc) (m := m) (g := g))
    obtain ⟨h', e1, e2, e3, e4, e5, e6⟩ := So_X2 (N := 100) (q := nc) hs k hk
    refine ⟨h', e1, by omega, by omega, fun a ha => (e6 a (by omega)).1, fun a a0 a1 => ?_⟩
    rw [e5 a a0 (by omega)]
    have := k3 (a - nc) (by omega)
    rw [show nc + (a - nc) = a by omega] at this
    exact this
  · cases h
