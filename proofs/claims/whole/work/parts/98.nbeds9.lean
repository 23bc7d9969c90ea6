-- BEDS: the first way
def bxl : List Nat → List Nat → Prop
  | [], _ => True
  | _ :: _, [] => False
  | a :: l, b :: m => a < b ∨ (a = b ∧ bxl l m)
theorem bfm_nil {G : Nat → List (List Nat)} : ∀ m, bfm G m = [] → ∀ r, r < m → G r = [] := by
  intro m
  induction m with
  | zero => intro _ r hr; omega
  | succ m ih =>
    intro h r hr
    have h' : bfm G m ++ G m = [] := h
    rw [List.append_eq_nil_iff] at h'
    by_cases e : r = m
    · rw [e]; exact h'.2
    · exact ih h'.1 r (by omega)
theorem bfm_first {G : Nat → List (List Nat)} : ∀ m h t, bfm G m = h :: t → ∃ r t', r < m ∧ G r = h :: t' ∧ ∀ r', r' < m → G r' ≠ [] → r ≤ r' := by
  intro m
  induction m with
  | zero => intro h t e; cases e
  | succ m ih =>
    intro h t e
    have e' : bfm G m ++ G m = h :: t := e
    cases hb : bfm G m with
    | nil =>
      rw [hb, List.nil_append] at e'
      refine ⟨m, t, by omega, e', fun r' h1 h2 => ?_⟩
      by_cases c : r' = m
      · omega
      · exact absurd (bfm_nil m hb r' (by omega)) h2
    | cons a as =>
      rw [hb] at e'
      have : a = h := by injection e'
      rw [this] at hb
      obtain ⟨r, t', r1, r2, r3⟩ := ih h as hb
      refine ⟨r, t', by omega, r2, fun r' h1 h2 => ?_⟩
      by_cases c : r' = m
      · omega
      · exact r3 r' (by omega) h2
theorem bfm_mem {G : Nat → List (List Nat)} {l : List Nat} : ∀ k, l ∈ bfm G k → ∃ r, r < k ∧ l ∈ G r := by
  intro k
  induction k with
  | zero => intro h; cases h
  | succ k ihk =>
    intro h
    have h' : l ∈ bfm G k ++ G k := h
    rw [List.mem_append] at h'
    rcases h' with h' | h'
    · obtain ⟨r, r1, r2⟩ := ihk h'; exact ⟨r, by omega, r2⟩
    · exact ⟨k, by omega, h'⟩
theorem bas_mem {may : Nat → Nat → Bool} {n d p : Nat} {u : Nat → Bool} {l : List Nat} (h : l ∈ bas may n (d + 1) p u) : ∃ r l', r < n ∧ l = r :: l' ∧ l' ∈ bas may n d (p + 1) (bad u r) ∧ bok may u p r = true := by
  obtain ⟨r, r1, r2⟩ := bfm_mem n h
  have r2' : l ∈ (if bok may u p r = true then (bas may n d (p + 1) (bad u r)).map (fun l => r :: l) else []) := r2
  by_cases e : bok may u p r = true
  · rw [if_pos e, List.mem_map] at r2'
    obtain ⟨l', h1, h2⟩ := r2'
    exact ⟨r, l', r1, h2.symm, h1, e⟩
  · rw [if_neg e] at r2'; cases r2'
theorem bas_first {may : Nat → Nat → Bool} {n : Nat} : ∀ (d p : Nat) (u : Nat → Bool) (h : List Nat) (t : List (List Nat)), bas may n d p u = h :: t → ∀ l, l ∈ bas may n d p u → bxl h l := by
  intro d
  induction d with
  | zero =>
    intro p u h t e l _
    have e' : [[]] = h :: t := e
    have : h = [] := by injection e' with e1 _; exact e1.symm
    rw [this]; trivial
  | succ d ih =>
    intro p u h t e l hl
    obtain ⟨r, t', r1, r2, r3⟩ := bfm_first n h t e
    have r2' : (if bok may u p r = true then (bas may n d (p + 1) (bad u r)).map (fun l => r :: l) else []) = h :: t' := r2
    by_cases k : bok may u p r = true
    rotate_left
    · rw [if_neg k] at r2'; cases r2'
    rw [if_pos k] at r2'
    obtain ⟨r', l', q1, q2, q3, q4⟩ := bas_mem hl
    have hne : (if bok may u p r' = true then (bas may n d (p + 1) (bad u r')).map (fun l => r' :: l) else []) ≠ [] := by
      rw [if_pos q4]
      intro z
      rw [List.map_eq_nil_iff] at z
      rw [z] at q3; cases q3
    have hle := r3 r' q1 hne
    cases hb : bas may n d (p + 1) (bad u r) with
    | nil => rw [hb] at r2'; cases r2'
    | cons h' t'' =>
      rw [hb] at r2'
      have hh : r :: h' = h := by
        have r3' : (r :: h') :: (t''.map (fun l => r :: l)) = h :: t' := r2'
        injection r3'
      rw [← hh, q2]
      by_cases c : r = r'
      · subst c
        exact Or.inr ⟨rfl, ih (p + 1) (bad u r) h' t'' hb l' q3⟩
      · exact Or.inl (by omega)
theorem bas_lt {may : Nat → Nat → Bool} {n : Nat} : ∀ (d p : Nat) (u : Nat → Bool) (l : List Nat), l ∈ bas may n d p u → ∀ j, j < d → l.getD j 12 < n := by
  intro d
  induction d with
  | zero => intro p u l _ j hj; omega
  | succ d ih =>
    intro p u l hl j hj
    obtain ⟨r, l', q1, q2, q3, _⟩ := bas_mem hl
    rw [q2]
    cases j with
    | zero => exact q1
    | succ j => exact ih (p + 1) (bad u r) l' q3 j (by omega)
theorem bxl_at : ∀ (h l : List Nat) (q : Nat), bxl h l → h.length = l.length → (∀ j, j < q → h.getD j 12 = l.getD j 12) → q < h.length → h.getD q 12 ≤ l.getD q 12 := by
  intro h
  induction h with
  | nil => intro l q _ _ _ hq; simp at hq
  | cons a h ih =>
    intro l q hx hl hp hq
    cases l with
    | nil => simp at hl
    | cons b m =>
      have hx' : a < b ∨ (a = b ∧ bxl h m) := hx
      cases q with
      | zero =>
        show a ≤ b
        omega
      | succ q =>
        have h0 : a = b := hp 0 (by omega)
        rcases hx' with z | ⟨_, z⟩
        · omega
        · exact ih m q z (by simpa using hl) (fun j hj => hp (j + 1) (by omega)) (by simpa using hq)
def bwf (may : Nat → Nat → Bool) (n P : Nat) : List (List Nat) := bas may n P 0 (fun _ => false)
/-- one person's room tried after room -/
theorem fb_try {N qh : Nat} {x0 : iv_M} {may : Nat → Nat → Bool} {P n q : Nat} {tg : Int} {v : Int} {kx : iv_M → Int → Option (Int × iv_M)} (hN : 100 ≤ N) (hP : P ≤ 6) (hn : n ≤ 12) (hq : q < P) (hp : x0 qh 2 = P) (hr : x0 (qh + 1) 2 = n) (hqh : qh + 1 < 110) (hv : bSt v (may q)) (hb : ∀ p : Nat, p < 6 → p ≠ q → bSt (x0 110 p) (may p)) (k : Nat) (hk : k ≤ n) (hno : ∀ r, r < k → (bwf may n P).filter (fun l => l.getD q 12 == r) = []) (hyes : k < n → (bwf may n P).filter (fun l => l.getD q 12 == k) ≠ []) : ∀ (d r f : Nat) (y : iv_M), r + d = k → d + 1 < f → (∀ a, a ≠ 110 → a ≠ 111 → y a = x0 a) → (∀ p : Nat, p ≠ q → y 110 p = x0 110 p) → ∃ y', FX4_firstBed_l21 N 102 qh tg (q : Int) v kx f y (-1) (r : Int) = kx y' (if k < n then (k : Int) else -1) ∧ (∀ a, a ≠ 110 → a ≠ 111 → y' a = x0 a) ∧ (∀ p : Nat, p ≠ q → y' 110 p = x0 110 p) ∧ (k < n → bSt (y' 110 q) (bto may q k q)) := by
  have lay : ∀ (r : Nat) (y : iv_M), r < n → (∀ a, a ≠ 110 → a ≠ 111 → y a = x0 a) → (∀ p : Nat, p ≠ q → y 110 p = x0 110 p) → ∃ z, FX4_layPeople N (mu y 110 (q : Int) (bAn v (sl32 1 r))) 102 qh = some ((((bwf may n P).filter (fun l => l.getD q 12 == r)).length : Int), z) ∧ (∀ a, a ≠ 110 → a ≠ 111 → z a = x0 a) ∧ (∀ p : Nat, p ≠ q → z 110 p = x0 110 p) ∧ bSt (z 110 q) (bto may q r q) := fun r y hrn ho hop => by
    have hbit : bSt (bAn v (sl32 1 r)) (bto may q r q) := bSt_congr (fun j _ => by
      unfold bto
      have : (q != q) = false := by simp
      rw [this, Bool.false_or]) (bSt_an hv (by omega))
    obtain ⟨z, z1, z2⟩ := layPeople_ok (N := N) (qh := qh) (may := bto may q r) (P := P) (n := n) (s := mu y 110 (q : Int) (bAn v (sl32 1 r))) hN hP hn (by rw [mu_rw (by omega), ho qh (by omega) (by omega)]; exact hp) (by rw [mu_rw (by omega), ho (qh + 1) (by omega) (by omega)]; exact hr) (by omega) (by omega) (fun p r' hpP hr' => by
      by_cases e : p = q
      · rw [e, mu_eq]; exact hbit.2.2 r' (by omega)
      · rw [mu_ne (by omega), hop p e]
        rw [(hb p (by omega) e).2.2 r' (by omega)]
        unfold bto
        have : (p != q) = true := by simp [e]
        rw [this, Bool.true_or, Bool.and_true])
    rw [bto_count hq] at z1
    refine ⟨z, z1, fun a a1 a2 => by rw [z2 a a2, mu_rw a1]; exact ho a a1 a2, fun p e => by rw [z2 110 (by omega), mu_ne (by omega)]; exact hop p e, by rw [z2 110 (by omega), mu_eq]; exact hbit⟩
  intro d
  induction d with
  | zero =>
    intro r f y hrk hf ho hop
    obtain ⟨f', rfl⟩ : ∃ f', f = f' + 1 := ⟨f - 1, by omega⟩
    obtain ⟨f2, hf2⟩ : ∃ f2, f' = f2 + 1 := ⟨f' - 1, by omega⟩
    have e : r = k := by omega
    subst e
    have hnn : y (qh + 1) 2 = n := by rw [ho (qh + 1) (by omega) (by omega)]; exact hr
    by_cases c : r < n
    · obtain ⟨z, z1, z2, z3, z4⟩ := lay r y c ho hop
      refine ⟨z, ?_, z2, z3, fun _ => z4⟩
      have hpos : 0 < ((bwf may n P).filter (fun l => l.getD q 12 == r)).length := List.length_pos_iff.mpr (hyes c)
      rw [FX4_firstBed_l21, if_neg (by rw [hnn]; omega), if_pos rfl]
      unfold FX4_firstBed_b66
      simp only [Nat.reduceAdd]
      rw [wr_ok (by omega) (by omega), Option.bind_some, z1, Option.bind_some]
      dsimp only
      rw [if_neg (by omega), w32_id (by omega) (by omega), hf2, FX4_firstBed_l21]
      by_cases g : z (qh + 1) 2 ≤ (r : Int) + 1
      · rw [if_pos g, if_pos c]
      · rw [if_neg g, if_neg (by omega), if_pos c]
    · refine ⟨y, ?_, ho, hop, fun h => absurd h c⟩
      rw [FX4_firstBed_l21, if_pos (by rw [hnn]; omega), if_neg c]
  | succ d ih =>
    intro r f y hrk hf ho hop
    obtain ⟨f', rfl⟩ : ∃ f', f = f' + 1 := ⟨f - 1, by omega⟩
    have hnn : y (qh + 1) 2 = n := by rw [ho (qh + 1) (by omega) (by omega)]; exact hr
    obtain ⟨z, z1, z2, z3, z4⟩ := lay r y (by omega) ho hop
    obtain ⟨y', u1, u2⟩ := ih (r + 1) f' z (by omega) (by omega) z2 z3
    refine ⟨y', ?_, u2⟩
    rw [FX4_firstBed_l21, if_neg (by rw [hnn]; omega), if_pos rfl]
    unfold FX4_firstBed_b66
    simp only [Nat.reduceAdd]
    rw [wr_ok (by omega) (by omega), Option.bind_some, z1, Option.bind_some, hno r (by omega)]
    dsimp only
    rw [if_pos (by decide), w32_id (by omega) (by omega)]
    exact u1
