-- BEDS: ways to lay people, counted
def bsm (f : Nat → Nat) : Nat → Nat
  | 0 => 0
  | m + 1 => bsm f m + f m
def bad (u : Nat → Bool) (r : Nat) : Nat → Bool := fun x => u x || x == r
def bok (may : Nat → Nat → Bool) (u : Nat → Bool) (p r : Nat) : Bool := !u r && may p r
def bcn (may : Nat → Nat → Bool) : List Nat → (Nat → Bool) → Nat → Nat
  | [], _, _ => 1
  | p :: S, u, m => bsm (fun r => if bok may u p r = true then bcn may S (bad u r) m else 0) m
def bex (may : Nat → Nat → Bool) (m : Nat) : List Nat → (List Nat → Nat) → Nat
  | [], _ => 0
  | p :: S, F => (if may p m = true then F S else 0) + bex may m S (fun S' => F (p :: S'))
theorem bsm_congr {f g : Nat → Nat} : ∀ m, (∀ r, r < m → f r = g r) → bsm f m = bsm g m := by
  intro m
  induction m with
  | zero => intro _; rfl
  | succ m ih => intro h; show bsm f m + f m = bsm g m + g m; rw [ih (fun r hr => h r (by omega)), h m (by omega)]
theorem bsm_add {f g : Nat → Nat} : ∀ m, bsm (fun r => f r + g r) m = bsm f m + bsm g m := by
  intro m
  induction m with
  | zero => rfl
  | succ m ih => show bsm (fun r => f r + g r) m + (f m + g m) = bsm f m + f m + (bsm g m + g m); rw [ih]; omega
theorem bsm_zero : ∀ m, bsm (fun _ => 0) m = 0 := by
  intro m
  induction m with
  | zero => rfl
  | succ m ih => show bsm (fun _ => 0) m + 0 = 0; rw [ih]
theorem bcn_congr {may : Nat → Nat → Bool} {m : Nat} : ∀ (S : List Nat) (u v : Nat → Bool), (∀ r, r < m → u r = v r) → bcn may S u m = bcn may S v m := by
  intro S
  induction S with
  | nil => intro u v _; rfl
  | cons p S ih =>
    intro u v h
    refine bsm_congr m (fun r hr => ?_)
    have e : bok may u p r = bok may v p r := by unfold bok; rw [h r hr]
    have e2 : bcn may S (bad u r) m = bcn may S (bad v r) m := ih _ _ (fun x hx => by unfold bad; rw [h x hx])
    show (if bok may u p r = true then bcn may S (bad u r) m else 0) = (if bok may v p r = true then bcn may S (bad v r) m else 0)
    rw [e, e2]
theorem bcn_used {may : Nat → Nat → Bool} {m : Nat} : ∀ (S : List Nat) (u : Nat → Bool), u m = true → bcn may S u (m + 1) = bcn may S u m := by
  intro S
  induction S with
  | nil => intro u _; rfl
  | cons p S ih =>
    intro u h
    show bsm (fun r => if bok may u p r = true then bcn may S (bad u r) (m + 1) else 0) m + (if bok may u p m = true then bcn may S (bad u m) (m + 1) else 0) = bsm (fun r => if bok may u p r = true then bcn may S (bad u r) m else 0) m
    have e : bok may u p m = false := by unfold bok; rw [h]; rfl
    rw [e, if_neg (by decide), Nat.add_zero]
    refine bsm_congr m (fun r hr => ?_)
    show (if bok may u p r = true then bcn may S (bad u r) (m + 1) else 0) = (if bok may u p r = true then bcn may S (bad u r) m else 0)
    rw [ih (bad u r) (by unfold bad; rw [h]; rfl)]
theorem bex_add {may : Nat → Nat → Bool} {m : Nat} : ∀ (S : List Nat) (F G : List Nat → Nat), bex may m S (fun S' => F S' + G S') = bex may m S F + bex may m S G := by
  intro S
  induction S with
  | nil => intro F G; rfl
  | cons p S ih =>
    intro F G
    show (if may p m = true then F S + G S else 0) + bex may m S (fun S' => F (p :: S') + G (p :: S')) = ((if may p m = true then F S else 0) + bex may m S (fun S' => F (p :: S'))) + ((if may p m = true then G S else 0) + bex may m S (fun S' => G (p :: S')))
    rw [ih (fun S' => F (p :: S')) (fun S' => G (p :: S'))]
    split <;> omega
theorem bex_zero {may : Nat → Nat → Bool} {m : Nat} : ∀ (S : List Nat), bex may m S (fun _ => 0) = 0 := by
  intro S
  induction S with
  | nil => rfl
  | cons p S ih =>
    show (if may p m = true then 0 else 0) + bex may m S (fun _ => 0) = 0
    rw [ih]; split <;> rfl
theorem bex_congr {may : Nat → Nat → Bool} {m : Nat} : ∀ (S : List Nat) (F G : List Nat → Nat), (∀ S', F S' = G S') → bex may m S F = bex may m S G := by
  intro S F G h
  have : F = G := funext h
  rw [this]
/-- summing over rooms and taking one out commute -/
theorem bex_bsm {may : Nat → Nat → Bool} {m : Nat} {c : Nat → Bool} {S : List Nat} {F : Nat → List Nat → Nat} : ∀ k, bsm (fun r => if c r = true then bex may m S (F r) else 0) k = bex may m S (fun S' => bsm (fun r => if c r = true then F r S' else 0) k) := by
  intro k
  induction k with
  | zero => exact (bex_zero S).symm
  | succ k ih =>
    show bsm (fun r => if c r = true then bex may m S (F r) else 0) k + (if c k = true then bex may m S (F k) else 0) = bex may m S (fun S' => bsm (fun r => if c r = true then F r S' else 0) k + (if c k = true then F k S' else 0))
    rw [bex_add, ih]
    by_cases e : c k = true
    · rw [if_pos e]
      rw [bex_congr S (fun S' => if c k = true then F k S' else 0) (F k) (fun S' => if_pos e)]
    · rw [if_neg e, bex_congr S (fun S' => if c k = true then F k S' else 0) (fun _ => 0) (fun S' => if_neg e), bex_zero]
/-- one room more -/
theorem bcn_next {may : Nat → Nat → Bool} {m : Nat} : ∀ (S : List Nat) (u : Nat → Bool), u m = false → bcn may S u (m + 1) = bcn may S u m + bex may m S (fun S' => bcn may S' u m) := by
  intro S
  induction S with
  | nil => intro u _; rfl
  | cons p S ih =>
    intro u h
    have e : bok may u p m = may p m := by unfold bok; rw [h]; rfl
    have last : bcn may S (bad u m) (m + 1) = bcn may S u m := by
      rw [bcn_used S (bad u m) (by unfold bad; simp)]
      refine bcn_congr S _ _ (fun r hr => ?_)
      unfold bad
      have : (r == m) = false := by simp; omega
      rw [this, Bool.or_false]
    show bsm (fun r => if bok may u p r = true then bcn may S (bad u r) (m + 1) else 0) m + (if bok may u p m = true then bcn may S (bad u m) (m + 1) else 0) = bsm (fun r => if bok may u p r = true then bcn may S (bad u r) m else 0) m + ((if may p m = true then bcn may S u m else 0) + bex may m S (fun S' => bcn may (p :: S') u m))
    rw [e, last]
    have split : bsm (fun r => if bok may u p r = true then bcn may S (bad u r) (m + 1) else 0) m = bsm (fun r => if bok may u p r = true then bcn may S (bad u r) m else 0) m + bsm (fun r => if bok may u p r = true then bex may m S (fun S' => bcn may S' (bad u r) m) else 0) m := by
      rw [← bsm_add]
      refine bsm_congr m (fun r hr => ?_)
      show (if bok may u p r = true then bcn may S (bad u r) (m + 1) else 0) = (if bok may u p r = true then bcn may S (bad u r) m else 0) + (if bok may u p r = true then bex may m S (fun S' => bcn may S' (bad u r) m) else 0)
      by_cases q : bok may u p r = true
      · rw [if_pos q, if_pos q, if_pos q]
        refine ih (bad u r) ?_
        unfold bad
        have : (m == r) = false := by simp; omega
        rw [h, this]; rfl
      · rw [if_neg q, if_neg q, if_neg q]
    have com : bsm (fun r => if bok may u p r = true then bex may m S (fun S' => bcn may S' (bad u r) m) else 0) m = bex may m S (fun S' => bcn may (p :: S') u m) := bex_bsm (c := fun r => bok may u p r) (F := fun r S' => bcn may S' (bad u r) m) m
    rw [split, com]
    omega
-- the ways themselves, in order
def bfm (f : Nat → List (List Nat)) : Nat → List (List Nat)
  | 0 => []
  | m + 1 => bfm f m ++ f m
def bas (may : Nat → Nat → Bool) (n : Nat) : Nat → Nat → (Nat → Bool) → List (List Nat)
  | 0, _, _ => [[]]
  | d + 1, p, u => bfm (fun r => if bok may u p r = true then (bas may n d (p + 1) (bad u r)).map (fun l => r :: l) else []) n
def bps : Nat → Nat → List Nat
  | 0, _ => []
  | d + 1, p => p :: bps d (p + 1)
theorem bfm_len {f : Nat → List (List Nat)} : ∀ m, (bfm f m).length = bsm (fun r => (f r).length) m := by
  intro m
  induction m with
  | zero => rfl
  | succ m ih => show (bfm f m ++ f m).length = bsm (fun r => (f r).length) m + (f m).length; rw [List.length_append, ih]
theorem bas_len {may : Nat → Nat → Bool} {n : Nat} : ∀ (d p : Nat) (u : Nat → Bool), (bas may n d p u).length = bcn may (bps d p) u n := by
  intro d
  induction d with
  | zero => intro p u; rfl
  | succ d ih =>
    intro p u
    show (bfm _ n).length = bsm (fun r => if bok may u p r = true then bcn may (bps d (p + 1)) (bad u r) n else 0) n
    rw [bfm_len]
    refine bsm_congr n (fun r hr => ?_)
    show (if bok may u p r = true then (bas may n d (p + 1) (bad u r)).map (fun l => r :: l) else []).length = _
    by_cases e : bok may u p r = true
    · rw [if_pos e, if_pos e, List.length_map, ih]
    · rw [if_neg e, if_neg e]; rfl
/-- one person kept to one room -/
def bto (may : Nat → Nat → Bool) (q s : Nat) : Nat → Nat → Bool := fun p r => may p r && (p != q || r == s)
theorem bfm_congr {f g : Nat → List (List Nat)} : ∀ m, (∀ r, r < m → f r = g r) → bfm f m = bfm g m := by
  intro m
  induction m with
  | zero => intro _; rfl
  | succ m ih => intro h; show bfm f m ++ f m = bfm g m ++ g m; rw [ih (fun r hr => h r (by omega)), h m (by omega)]
theorem bfm_filter {f : Nat → List (List Nat)} {P : List Nat → Bool} : ∀ m, (bfm f m).filter P = bfm (fun r => (f r).filter P) m := by
  intro m
  induction m with
  | zero => rfl
  | succ m ih => show (bfm f m ++ f m).filter P = bfm (fun r => (f r).filter P) m ++ (f m).filter P; rw [List.filter_append, ih]
theorem bas_past {may : Nat → Nat → Bool} {n q s : Nat} : ∀ (d p : Nat) (u : Nat → Bool), q < p → bas (bto may q s) n d p u = bas may n d p u := by
  intro d
  induction d with
  | zero => intro p u _; rfl
  | succ d ih =>
    intro p u h
    refine bfm_congr n (fun r hr => ?_)
    have e : bok (bto may q s) u p r = bok may u p r := by
      unfold bok bto
      have : (p != q) = true := by simp; omega
      rw [this, Bool.true_or, Bool.and_true]
    show (if bok (bto may q s) u p r = true then (bas (bto may q s) n d (p + 1) (bad u r)).map (fun l => r :: l) else []) = (if bok may u p r = true then (bas may n d (p + 1) (bad u r)).map (fun l => r :: l) else [])
    rw [e, ih (p + 1) (bad u r) (by omega)]
theorem bas_to {may : Nat → Nat → Bool} {n q s : Nat} : ∀ (d p : Nat) (u : Nat → Bool), p ≤ q → q < p + d → bas (bto may q s) n d p u = (bas may n d p u).filter (fun l => l.getD (q - p) n == s) := by
  intro d
  induction d with
  | zero => intro p u h1 h2; omega
  | succ d ih =>
    intro p u h1 h2
    show bfm (fun r => if bok (bto may q s) u p r = true then (bas (bto may q s) n d (p + 1) (bad u r)).map (fun l => r :: l) else []) n = (bfm (fun r => if bok may u p r = true then (bas may n d (p + 1) (bad u r)).map (fun l => r :: l) else []) n).filter _
    rw [bfm_filter]
    refine bfm_congr n (fun r hr => ?_)
    show (if bok (bto may q s) u p r = true then (bas (bto may q s) n d (p + 1) (bad u r)).map (fun l => r :: l) else []) = (if bok may u p r = true then (bas may n d (p + 1) (bad u r)).map (fun l => r :: l) else []).filter (fun l => l.getD (q - p) n == s)
    by_cases c : p = q
    · subst c
      rw [bas_past d (p + 1) (bad u r) (by omega)]
      have e : bok (bto may p s) u p r = (bok may u p r && r == s) := by
        unfold bok bto
        have : (p != p) = false := by simp
        rw [this, Bool.false_or, Bool.and_assoc]
      rw [e]
      by_cases k : bok may u p r = true
      · rw [k, Bool.true_and]
        rw [if_pos rfl]
        by_cases j : r = s
        · have : (r == s) = true := by simp [j]
          rw [if_pos this]
          symm
          rw [List.filter_eq_self]
          intro l hl
          rw [List.mem_map] at hl
          obtain ⟨l', _, hl'⟩ := hl
          rw [← hl', Nat.sub_self]
          exact this
        · have : ¬ (r == s) = true := by simp [j]
          rw [if_neg this]
          symm
          rw [List.filter_eq_nil_iff]
          intro l hl
          rw [List.mem_map] at hl
          obtain ⟨l', _, hl'⟩ := hl
          rw [← hl', Nat.sub_self]
          exact this
      · have : bok may u p r = false := by cases h : bok may u p r; rfl; exact absurd h k
        rw [this, Bool.false_and, if_neg (by decide)]; rfl
    · have e : bok (bto may q s) u p r = bok may u p r := by
        unfold bok bto
        have : (p != q) = true := by simp [c]
        rw [this, Bool.true_or, Bool.and_true]
      rw [e, ih (p + 1) (bad u r) (by omega) (by omega)]
      by_cases k : bok may u p r = true
      · rw [if_pos k, if_pos k, List.filter_map]
        congr 1
        refine List.filter_congr (fun l _ => ?_)
        show (l.getD (q - (p + 1)) n == s) = ((r :: l).getD (q - p) n == s)
        rw [show q - p = (q - (p + 1)) + 1 by omega]
        rfl
      · rw [if_neg k, if_neg k]; rfl
