-- PLACES CHANGED: odd or even
def evs (a b : Nat → Int) (i j : Nat) : Int := if (a i < a j ↔ b i < b j) then 0 else 1
def evr (a b : Nat → Int) (i : Nat) : Nat → Int
  | 0 => 0
  | j + 1 => evr a b i j + evs a b i j
def evt (a b : Nat → Int) : Nat → Int
  | 0 => 0
  | i + 1 => evt a b i + evr a b i i
theorem evs_01 (a b : Nat → Int) (i j : Nat) : 0 ≤ evs a b i j ∧ evs a b i j ≤ 1 := by unfold evs; split <;> omega
theorem evr_bd (a b : Nat → Int) (i : Nat) : ∀ j : Nat, 0 ≤ evr a b i j ∧ evr a b i j ≤ j := by
  intro j
  induction j with
  | zero => exact ⟨Int.le_refl 0, Int.le_refl 0⟩
  | succ j ih =>
    have := evs_01 a b i j
    show 0 ≤ evr a b i j + evs a b i j ∧ evr a b i j + evs a b i j ≤ ((j + 1 : Nat) : Int)
    omega
theorem evt_bd (a b : Nat → Int) : ∀ m : Nat, m ≤ 16 → 0 ≤ evt a b m ∧ evt a b m ≤ 16 * m := by
  intro m
  induction m with
  | zero => intro _; exact ⟨Int.le_refl 0, Int.le_refl 0⟩
  | succ m ih =>
    intro h
    have h1 := ih (by omega)
    have h2 := evr_bd a b m m
    show 0 ≤ evt a b m + evr a b m m ∧ evt a b m + evr a b m m ≤ 16 * ((m + 1 : Nat) : Int)
    omega
theorem evs_co (a b c : Nat → Int) (i j : Nat) : (evs a c i j + evs b c i j + evs a b i j) % 2 = 0 := by
  unfold evs
  by_cases p : a i < a j <;> by_cases q : b i < b j <;> by_cases r : c i < c j <;> simp [p, q, r]
theorem evr_co (a b c : Nat → Int) (i : Nat) : ∀ j, (evr a c i j + evr b c i j + evr a b i j) % 2 = 0 := by
  intro j
  induction j with
  | zero => rfl
  | succ j ih =>
    have := evs_co a b c i j
    show (evr a c i j + evs a c i j + (evr b c i j + evs b c i j) + (evr a b i j + evs a b i j)) % 2 = 0
    omega
theorem evt_co (a b c : Nat → Int) : ∀ m, (evt a c m + evt b c m + evt a b m) % 2 = 0 := by
  intro m
  induction m with
  | zero => rfl
  | succ m ih =>
    have := evr_co a b c m m
    show (evt a c m + evr a c m m + (evt b c m + evr b c m m) + (evt a b m + evr a b m m)) % 2 = 0
    omega
theorem evr_same {a b : Nat → Int} {i M : Nat} (hi : i < M) (h : ∀ k, k < M → a k = b k) : ∀ j, j ≤ M → evr a b i j = 0 := by
  intro j
  induction j with
  | zero => intro _; rfl
  | succ j ih =>
    intro hj
    show evr a b i j + evs a b i j = 0
    rw [ih (by omega)]
    unfold evs
    rw [h i hi, h j (by omega), if_pos Iff.rfl]; rfl
theorem evt_same {a b : Nat → Int} {M : Nat} (h : ∀ k, k < M → a k = b k) : ∀ m, m ≤ M → evt a b m = 0 := by
  intro m
  induction m with
  | zero => intro _; rfl
  | succ m ih =>
    intro hm
    show evt a b m + evr a b m m = 0
    rw [ih (by omega), evr_same (i := m) (M := M) (by omega) h m (by omega)]; rfl
/-- two things change places -/
def evw (a : Nat → Int) (x y i : Nat) : Int := if i = x then a y else if i = y then a x else a i
def evg (a : Nat → Int) (x y k : Nat) : Int := if k = x ∨ k = y then 0 else if (a x < a k ↔ a y < a k) then 0 else 1
def evG (a : Nat → Int) (x y : Nat) : Nat → Int
  | 0 => 0
  | k + 1 => evG a x y k + evg a x y k
theorem evw_x {a : Nat → Int} {x y : Nat} : evw a x y x = a y := if_pos rfl
theorem evw_y {a : Nat → Int} {x y : Nat} (h : x ≠ y) : evw a x y y = a x := by unfold evw; rw [if_neg (fun e => h e.symm), if_pos rfl]
theorem evw_o {a : Nat → Int} {x y i : Nat} (h : i ≠ x) (h2 : i ≠ y) : evw a x y i = a i := by unfold evw; rw [if_neg h, if_neg h2]
theorem evg_o {a : Nat → Int} {x y k : Nat} (h : k ≠ x) (h2 : k ≠ y) : evg a x y k = if (a x < a k ↔ a y < a k) then 0 else 1 := by unfold evg; rw [if_neg (by omega)]
theorem evs_sw {a : Nat → Int} {x y M : Nat} (hxy : x < y) (hy : y < M) (inj : ∀ i j, i < M → j < M → a i = a j → i = j) {i j : Nat} (hi : i < M) (hj : j < i) : evs a (evw a x y) i j = (if i = x then evg a x y j else if i = y then (if j = x then 1 else evg a x y j) else if j = x ∨ j = y then evg a x y i else 0) := by
  have hn : x ≠ y := by omega
  by_cases e1 : i = x
  · have hjy : j ≠ y := by omega
    have hji : j ≠ x := by omega
    rw [if_pos e1, evg_o hji hjy, e1]
    unfold evs
    rw [evw_x, evw_o hji hjy]
  · rw [if_neg e1]
    by_cases e2 : i = y
    · rw [if_pos e2, e2]
      by_cases e3 : j = x
      · rw [if_pos e3, e3]
        unfold evs
        rw [evw_y hn, evw_x]
        have : a y ≠ a x := fun e => by have := inj y x (by omega) (by omega) e; omega
        rw [if_neg (by omega)]
      · have hji : j ≠ y := by omega
        rw [if_neg e3, evg_o e3 hji]
        unfold evs
        rw [evw_y hn, evw_o e3 hji]
        by_cases p : a y < a j <;> by_cases q : a x < a j
        · rw [if_pos (by omega), if_pos (by omega)]
        · rw [if_neg (by omega), if_neg (by omega)]
        · rw [if_neg (by omega), if_neg (by omega)]
        · rw [if_pos (by omega), if_pos (by omega)]
    · rw [if_neg e2]
      have hx1 : a i ≠ a x := fun e => by have := inj i x (by omega) (by omega) e; omega
      have hy1 : a i ≠ a y := fun e => by have := inj i y (by omega) (by omega) e; omega
      by_cases e3 : j = x
      · rw [if_pos (Or.inl e3), evg_o e1 e2, e3]
        unfold evs
        rw [evw_o e1 e2, evw_x]
        by_cases p : a i < a x <;> by_cases q : a i < a y
        · rw [if_pos (by omega), if_pos (by omega)]
        · rw [if_neg (by omega), if_neg (by omega)]
        · rw [if_neg (by omega), if_neg (by omega)]
        · rw [if_pos (by omega), if_pos (by omega)]
      · by_cases e4 : j = y
        · rw [if_pos (Or.inr e4), evg_o e1 e2, e4]
          unfold evs
          rw [evw_o e1 e2, evw_y hn]
          by_cases p : a i < a x <;> by_cases q : a i < a y
          · rw [if_pos (by omega), if_pos (by omega)]
          · rw [if_neg (by omega), if_neg (by omega)]
          · rw [if_neg (by omega), if_neg (by omega)]
          · rw [if_pos (by omega), if_pos (by omega)]
        · rw [if_neg (by omega)]
          unfold evs
          rw [evw_o e1 e2, evw_o e3 e4, if_pos Iff.rfl]
theorem evr_sw {a : Nat → Int} {x y M : Nat} (hxy : x < y) (hy : y < M) (inj : ∀ i j, i < M → j < M → a i = a j → i = j) {i : Nat} (hi : i < M) : ∀ j, j ≤ i → evr a (evw a x y) i j = (if i = x then evG a x y j else if i = y then (if j ≤ x then evG a x y j else evG a x y j + 1) else if j ≤ x then 0 else if j ≤ y then evg a x y i else 2 * evg a x y i) := by
  intro j
  induction j with
  | zero =>
    intro _
    show 0 = _
    rw [if_pos (Nat.zero_le x)]
    by_cases e1 : i = x
    · rw [if_pos e1]; rfl
    · rw [if_neg e1]
      by_cases e2 : i = y
      · rw [if_pos e2]; rfl
      · rw [if_neg e2, if_pos (Nat.zero_le x)]
  | succ j ih =>
    intro hj
    have h0 := ih (by omega)
    have h1 := evs_sw hxy hy inj hi (j := j) (by omega)
    have hG : evG a x y (j + 1) = evG a x y j + evg a x y j := rfl
    have gx : evg a x y x = 0 := if_pos (Or.inl rfl)
    show evr a (evw a x y) i j + evs a (evw a x y) i j = _
    rw [h0, h1]
    by_cases e1 : i = x
    · rw [if_pos e1, if_pos e1, if_pos e1, hG]
    · rw [if_neg e1, if_neg e1, if_neg e1]
      by_cases e2 : i = y
      · rw [if_pos e2, if_pos e2, if_pos e2]
        by_cases e3 : j = x
        · rw [if_pos e3, if_pos (by omega), if_neg (by omega), hG, e3, gx]; omega
        · rw [if_neg e3]
          by_cases e4 : j ≤ x
          · rw [if_pos e4, if_pos (by omega), hG]
          · rw [if_neg e4, if_neg (by omega), hG]; omega
      · rw [if_neg e2, if_neg e2, if_neg e2]
        by_cases e3 : j = x
        · rw [if_pos (by omega), if_pos (Or.inl e3), if_neg (by omega), if_pos (by omega)]; omega
        · by_cases e4 : j = y
          · rw [if_neg (by omega), if_pos (by omega), if_pos (Or.inr e4), if_neg (by omega), if_neg (by omega)]; omega
          · rw [if_neg (show ¬ (j = x ∨ j = y) by omega)]
            by_cases e5 : j ≤ x
            · rw [if_pos e5, if_pos (by omega)]; rfl
            · rw [if_neg e5, if_neg (show ¬ (j + 1 ≤ x) by omega)]
              by_cases e6 : j ≤ y
              · rw [if_pos e6, if_pos (by omega)]; omega
              · rw [if_neg e6, if_neg (by omega)]; omega
theorem evt_sw {a : Nat → Int} {x y M : Nat} (hxy : x < y) (hy : y < M) (inj : ∀ i j, i < M → j < M → a i = a j → i = j) : ∀ m, m ≤ M → (m ≤ x → evt a (evw a x y) m = 0) ∧ (x < m → m ≤ y → evt a (evw a x y) m = evG a x y m) ∧ (y < m → evt a (evw a x y) m % 2 = 1) := by
  intro m
  induction m with
  | zero => intro _; exact ⟨fun _ => rfl, fun h => by omega, fun h => by omega⟩
  | succ m ih =>
    intro hm
    obtain ⟨i1, i2, i3⟩ := ih (by omega)
    have h := evr_sw hxy hy inj (i := m) (by omega) m (Nat.le_refl m)
    have hG : evG a x y (m + 1) = evG a x y m + evg a x y m := rfl
    have gx : evg a x y x = 0 := if_pos (Or.inl rfl)
    have e : evt a (evw a x y) (m + 1) = evt a (evw a x y) m + evr a (evw a x y) m m := rfl
    rw [e]
    refine ⟨fun c => ?_, fun c1 c2 => ?_, fun c => ?_⟩
    · rw [i1 (by omega), h, if_neg (by omega), if_neg (by omega), if_pos (by omega)]; rfl
    · by_cases c3 : m = x
      · rw [i1 (by omega), h, if_pos c3, hG, c3, gx]; omega
      · rw [i2 (by omega) (by omega), h, if_neg c3, if_neg (by omega), if_neg (by omega), if_pos (by omega), hG]
    · by_cases c3 : m = y
      · rw [i2 (by omega) (by omega), h, if_neg (by omega), if_pos c3, if_neg (by omega)]; omega
      · have := i3 (by omega)
        rw [h, if_neg (by omega), if_neg c3, if_neg (by omega), if_neg (by omega)]; omega
theorem evt_congr {a a' b : Nat → Int} : ∀ m, (∀ k, k < m → a k = a' k) → evt a b m = evt a' b m := by
  have hr : ∀ (i j : Nat), (∀ k, k ≤ i → a k = a' k) → j ≤ i → evr a b i j = evr a' b i j := by
    intro i j h
    induction j with
    | zero => intro _; rfl
    | succ j ih =>
      intro hj
      show evr a b i j + evs a b i j = evr a' b i j + evs a' b i j
      rw [ih (by omega)]
      unfold evs
      rw [h i (Nat.le_refl i), h j (by omega)]
  intro m
  induction m with
  | zero => intro _; rfl
  | succ m ih =>
    intro h
    show evt a b m + evr a b m m = evt a' b m + evr a' b m m
    rw [ih (fun k hk => h k (by omega)), hr m m (fun k hk => h k (by omega)) (Nat.le_refl m)]
/-- one change of places more: odd becomes even -/
theorem evt_flip {a b : Nat → Int} {x y M : Nat} (hxy : x ≠ y) (hx : x < M) (hy : y < M) (inj : ∀ i j, i < M → j < M → a i = a j → i = j) : (evt a b M + evt (evw a x y) b M) % 2 = 1 := by
  have key : evt a (evw a x y) M % 2 = 1 := by
    by_cases c : x < y
    · exact (evt_sw c hy inj M (Nat.le_refl M)).2.2 hy
    · have hs : evw a x y = evw a y x := by
        funext i; unfold evw
        by_cases e1 : i = x
        · by_cases e2 : i = y
          · omega
          · rw [if_pos e1, if_neg e2, if_pos e1]
        · by_cases e2 : i = y
          · rw [if_neg e1, if_pos e2, if_pos e2]
          · rw [if_neg e1, if_neg e2, if_neg e2, if_neg e1]
      rw [hs]
      exact (evt_sw (x := y) (y := x) (by omega) hx inj M (Nat.le_refl M)).2.2 hx
  have := evt_co a (evw a x y) b M
  omega
-- one cell empty
def evo (f : Int → Int) : Nat → Int → Int
  | 0, _ => 0
  | n + 1, c => if f n = c then 1 else evo f n c
theorem evo_iff {f : Int → Int} {c : Int} : ∀ n : Nat, (evo f n c = 1 ∧ ∃ r : Nat, r < n ∧ f r = c) ∨ (evo f n c = 0 ∧ ∀ r : Nat, r < n → f r ≠ c) := by
  intro n
  induction n with
  | zero => exact Or.inr ⟨rfl, fun r h => by omega⟩
  | succ n ih =>
    show ((if f n = c then 1 else evo f n c) = 1 ∧ _) ∨ ((if f n = c then 1 else evo f n c) = 0 ∧ _)
    by_cases e : f n = c
    · left; rw [if_pos e]; exact ⟨rfl, n, by omega, e⟩
    · rw [if_neg e]
      rcases ih with ⟨h, r, h1, h2⟩ | ⟨h, h1⟩
      · left; exact ⟨h, r, by omega, h2⟩
      · right
        refine ⟨h, fun r hr => ?_⟩
        by_cases e2 : r = n
        · rw [e2]; exact e
        · exact h1 r (by omega)
theorem evo_sum {f : Int → Int} : ∀ n : Nat, (∀ r : Nat, r < n → 0 ≤ f r ∧ f r < 16) → (∀ r r' : Nat, r < n → r' < n → f r = f r' → r = r') → su (evo f n) 16 = n := by
  intro n
  induction n with
  | zero => intro _ _; exact su_zero 16 (fun _ _ _ => rfl)
  | succ n ih =>
    intro h1 h2
    have h := ih (fun r hr => h1 r (by omega)) (fun r r' hr hr' => h2 r r' (by omega) (by omega))
    have u := su_upd (f := evo f n) (g := evo f (n + 1)) (i := f n) 16 (h1 n (by omega)).1 (h1 n (by omega)).2 (fun j hj => by show (if f n = j then 1 else evo f n j) = _; rw [if_neg (fun e => hj e.symm)])
    have v : evo f (n + 1) (f n) = 1 := if_pos rfl
    have w : evo f n (f n) = 0 := by
      rcases evo_iff (f := f) (c := f n) n with ⟨_, r, r1, r2⟩ | ⟨z, _⟩
      · have := h2 r n (by omega) (by omega) r2; omega
      · exact z
    rw [u, v, w, h]; omega
theorem su_one {d : Int → Int} : ∀ n : Nat, (∀ c : Int, 0 ≤ c → c < n → d c = 0 ∨ d c = 1) → su d n = 1 → ∃ e : Int, 0 ≤ e ∧ e < n ∧ d e = 1 ∧ ∀ c : Int, 0 ≤ c → c < n → c ≠ e → d c = 0 := by
  intro n
  induction n with
  | zero =>
    intro _ h
    have h' : (0 : Int) = 1 := h
    omega
  | succ n ih =>
    intro h hs
    have hs' : su d n + d n = 1 := hs
    rcases h n (by omega) (by omega) with e | e
    · obtain ⟨x, x0, x1, x2, x3⟩ := ih (fun c c0 c1 => h c c0 (by omega)) (by omega)
      refine ⟨x, x0, by omega, x2, fun c c0 c1 c2 => ?_⟩
      by_cases q : c = n
      · rw [q]; exact e
      · exact x3 c c0 (by omega) c2
    · refine ⟨n, by omega, by omega, e, fun c c0 c1 c2 => ?_⟩
      have hz : su d n = 0 := by omega
      have pos : ∀ m : Nat, m ≤ n → 0 ≤ su d m := fun m hm => by
        have := su_le (f := d) (m := 1) m (fun i i0 i1 => by rcases h i i0 (by omega) with z | z <;> omega)
        exact this.1
      have up : ∀ k m : Nat, m + k = n → su d m = 0 := by
        intro k
        induction k with
        | zero => intro m hm; rw [show m = n by omega]; exact hz
        | succ k ihk =>
          intro m hm
          have g := ihk (m + 1) (by omega)
          have g' : su d m + d m = 0 := g
          have p := pos m (by omega)
          rcases h m (by omega) (by omega) with z | z <;> omega
      obtain ⟨m, rfl⟩ := Int.eq_ofNat_of_zero_le c0
      have g1 := up (n - m) m (by omega)
      have g2 := up (n - (m + 1)) (m + 1) (by omega)
      have g2' : su d m + d m = 0 := g2
      omega
theorem floor_sum : ∀ i j : Fin 5, su (fun c => if c % 4 < (i.val : Int) ∧ c / 4 < (j.val : Int) then 1 else 0) 16 = (i.val : Int) * j.val := by decide +kernel
theorem one_empty {P : iv_M} (hW : Wf P) (h1 : P 114 0 * P 114 1 - P 114 2 = 1) : ∃ e : Int, (0 ≤ e ∧ e < 16) ∧ (e % 4 < P 114 0 ∧ e / 4 < P 114 1 ∧ P 121 e = -1) ∧ ∀ c : Int, 0 ≤ c → c < 16 → c % 4 < P 114 0 ∧ c / 4 < P 114 1 ∧ P 121 c = -1 → c = e := by
  obtain ⟨⟨a0, a1, a2, a3, a4, a5, _⟩, hc, hr⟩ := id hW
  have hsum := evo_sum (f := P 116) (P 114 2).toNat (fun r hr => by have := hW.room (r := r) (by omega) (by omega); exact ⟨this.1, this.2.1⟩) (fun r r' hr hr' e => by
    have x1 := (hW.room (r := r) (by omega) (by omega)).2.2.1
    have x2 := (hW.room (r := r') (by omega) (by omega)).2.2.1
    rw [e, x2] at x1; omega)
  have hfl := floor_sum ⟨(P 114 0).toNat, by omega⟩ ⟨(P 114 1).toNat, by omega⟩
  simp only [Int.toNat_of_nonneg a0, Int.toNat_of_nonneg a2] at hfl
  obtain ⟨d, hd⟩ : ∃ d : Int → Int, d = fun c => if c % 4 < P 114 0 ∧ c / 4 < P 114 1 ∧ P 121 c = -1 then 1 else 0 := ⟨_, rfl⟩
  have split : ∀ c : Int, 0 ≤ c → c < 16 → (if c % 4 < P 114 0 ∧ c / 4 < P 114 1 then (1 : Int) else 0) = evo (P 116) (P 114 2).toNat c + d c := fun c c0 c1 => by
    rw [hd]
    show _ = _ + (if c % 4 < P 114 0 ∧ c / 4 < P 114 1 ∧ P 121 c = -1 then (1 : Int) else 0)
    rcases evo_iff (f := P 116) (c := c) (P 114 2).toNat with ⟨e, r, r1, r2⟩ | ⟨e, r1⟩
    · obtain ⟨_, _, x3, _, _, x6, x7⟩ := hW.room (r := r) (by omega) (by omega)
      rw [r2] at x3 x6 x7
      rw [e, if_pos ⟨x6, x7⟩, if_neg (by omega)]; rfl
    · rw [e]
      have hz : P 121 c = -1 := by
        rcases hc c c0 c1 with z | ⟨z0, z1, z2, _⟩
        · exact z
        · have := r1 (P 121 c).toNat (by omega)
          rw [Int.toNat_of_nonneg z0] at this
          exact absurd z2 this
      by_cases q : c % 4 < P 114 0 ∧ c / 4 < P 114 1
      · rw [if_pos q, if_pos ⟨q.1, q.2, hz⟩]; rfl
      · rw [if_neg q, if_neg (fun z => q ⟨z.1, z.2.1⟩)]; rfl
  have sadd : ∀ n : Nat, n ≤ 16 → su (fun c => if c % 4 < P 114 0 ∧ c / 4 < P 114 1 then (1 : Int) else 0) n = su (evo (P 116) (P 114 2).toNat) n + su d n := by
    intro n
    induction n with
    | zero => intro _; rfl
    | succ n ih =>
      intro hn
      show su (fun c => if c % 4 < P 114 0 ∧ c / 4 < P 114 1 then (1 : Int) else 0) n + (if (n : Int) % 4 < P 114 0 ∧ (n : Int) / 4 < P 114 1 then (1 : Int) else 0) = (su (evo (P 116) (P 114 2).toNat) n + evo (P 116) (P 114 2).toNat n) + (su d n + d n)
      rw [ih (by omega), split n (by omega) (by omega)]
      omega
  have h16 := sadd 16 (by omega)
  rw [hsum, hfl] at h16
  obtain ⟨e, e0, e1, e2, e3⟩ := su_one (d := d) 16 (fun c _ _ => by rw [hd]; show (if _ then (1 : Int) else 0) = 0 ∨ (if _ then (1 : Int) else 0) = 1; split <;> omega) (by omega)
  have dv : ∀ c, (c % 4 < P 114 0 ∧ c / 4 < P 114 1 ∧ P 121 c = -1) ↔ d c = 1 := fun c => by
    rw [hd]
    show _ ↔ (if c % 4 < P 114 0 ∧ c / 4 < P 114 1 ∧ P 121 c = -1 then (1 : Int) else 0) = 1
    constructor
    · intro h; rw [if_pos h]
    · intro h
      by_cases z : c % 4 < P 114 0 ∧ c / 4 < P 114 1 ∧ P 121 c = -1
      · exact z
      · rw [if_neg z] at h; omega
  refine ⟨e, ⟨e0, e1⟩, (dv e).mpr e2, fun c c0 c1 h => ?_⟩
  by_cases q : c = e
  · exact q
  · have := e3 c c0 c1 q
    have h' := (dv c).mp h
    omega
