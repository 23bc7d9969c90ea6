-- RULE: terms and sums
def mul6 (k : Int) : Prop := k = 13 ∨ k = 14 ∨ k = 15
theorem ark_sum {s : Int} (h : ark s ≠ 0) (h6 : ¬ mul6 (ark s)) : (s = 43 ∧ ark s = 2) ∨ (s = 45 ∧ ark s = 3) := by
  unfold ark mul6 at *
  repeat' split at *
  all_goals omega
theorem ark_mul {s : Int} : mul6 (ark s) ↔ (s = 42 ∧ ark s = 13) ∨ (s = 47 ∧ ark s = 14) ∨ (s = 37 ∧ ark s = 15) := by
  unfold ark mul6
  repeat' split
  all_goals omega
theorem mul6_rnk {k : Int} (h : mul6 k) : rnk k = 6 := by rcases h with u | u | u <;> rw [u] <;> decide
theorem term_st {N f : Nat} {r : iv_M} {b : Int → Int} {L p : Int} {kx : iv_M → Option iv_M} (hR : RT r b L p 0) (hT : TX b L) (p0 : 0 ≤ p) (p1 : p ≤ L) : (mul6 (ark (sg b L p)) → FX12_term_l8 N 113 kx (f + 1) r = ((FX12_value N (rtM r (p + 1) 0) 113).bind fun s_2546 => ((FX12_entry N s_2546 113 (ark (sg b L p)) 0).bind fun s_2548 => ((FX12_blanks N s_2548 113).bind fun s_2550 => FX12_term_l8 N 113 kx f s_2550)))) ∧ (¬ mul6 (ark (sg b L p)) → FX12_term_l8 N 113 kx (f + 1) r = kx r) := by
  have hL := hT.2.1
  rw [FX12_term_l8, hR.2.2.1, if_pos rfl, sign_ok hR hT p0, Option.bind_some, Option.bind_some, Option.bind_some]
  unfold FX12_term_b42 FX12_term_b72
  rw [sign_ok hR hT p0, Option.bind_some, Option.bind_some, pt_ok, Option.bind_some, Option.bind_some, Option.bind_some, hR.2.1, w32_id (by omega) (by omega), rtM_mu hR]
  refine ⟨fun h => ?_, fun h => ?_⟩
  · rcases ark_mul.mp h with ⟨u, v⟩ | ⟨u, v⟩ | ⟨u, v⟩
    · rw [v, if_pos u, if_pos u]
    · rw [v, if_neg (by omega), if_pos u, if_neg (by omega), if_pos u]
    · rw [v, if_neg (by omega), if_neg (by omega), if_pos u, if_neg (by omega), if_neg (by omega)]
  · have n1 : ¬ sg b L p = 42 := fun z => h (by rw [z]; left; decide)
    have n2 : ¬ sg b L p = 47 := fun z => h (by rw [z]; right; left; decide)
    have n3 : ¬ sg b L p = 37 := fun z => h (by rw [z]; right; right; decide)
    rw [if_neg n1, if_neg n2, if_neg n3]
theorem Bad.trans {b : Int → Int} {L ft : Int} {r r1 r2 : iv_M} (h : Bad b L ft r r1) (h2 : Bad b L ft r1 r2) : Bad b L ft r r2 := ⟨h.1.trans h2.1, h2.2⟩
theorem Bad.w {b : Int → Int} {L ft : Int} {r r1 : iv_M} (h : Bad b L ft r r1) (h37 : r 113 37 = 13) : r1 113 37 = 13 := by rw [h.1.2 37 (by omega) (by omega)]; exact h37
theorem term_tail_bad {N f : Nat} {r : iv_M} {b : Int → Int} {L p ft k : Int} (hN : 1000 ≤ N) (hf : ft ≠ 0) (hR : RT r b L p ft) (hT : TX b L) (p0 : 0 ≤ p) (p1 : p ≤ 402) : ∃ r', ((FX12_entry N r 113 k 0).bind fun s_2548 => ((FX12_blanks N s_2548 113).bind fun s_2550 => FX12_term_l8 N 113 (fun (s_2528 : iv_M) => (FX12_term_b100 N s_2528)) (f + 1) s_2550)) = some r' ∧ Bad b L ft r r' := by
  obtain ⟨r1, a1, a2⟩ := blanks_bad hN hR hT p0 p1
  refine ⟨r1, ?_, a2⟩
  obtain ⟨p', _, _, q⟩ := a2.2
  rw [entry_bad (by rw [hR.2.2.1]; exact hf), Option.bind_some, a1, Option.bind_some, FX12_term_l8, if_neg (by rw [q.2.2.1]; exact hf)]
  rfl
theorem term_bad {N : Nat} {r : iv_M} {b : Int → Int} {L p ft : Int} (hN : 1000 ≤ N) (hf : ft ≠ 0) (hR : RT r b L p ft) (h37 : r 113 37 = 13) (hT : TX b L) (p0 : 0 ≤ p) (p1 : p ≤ 402) : ∃ r', FX12_term N r 113 = some r' ∧ Bad b L ft r r' := by
  obtain ⟨r1, a1, a2⟩ := value_bad hN hf hR h37 hT p0 p1
  obtain ⟨x, x0, x1, x2⟩ := a2.2
  obtain ⟨r2, b1, b2⟩ := blanks_bad hN x2 hT x0 x1
  obtain ⟨y, y0, y1, y2⟩ := b2.2
  refine ⟨r2, ?_, a2.trans b2⟩
  obtain ⟨f, hf'⟩ : ∃ f, N = f + 1 := ⟨N - 1, by omega⟩
  have st : ∀ F, F = f + 1 → FX12_term_l8 N 113 (fun (s_2528 : iv_M) => (FX12_term_b100 N s_2528)) F r2 = some r2 := fun F hF => by
    rw [hF, FX12_term_l8, if_neg (by rw [y2.2.2.1]; exact hf)]; rfl
  unfold FX12_term
  rw [a1, Option.bind_some, b1, Option.bind_some]
  exact st N hf'
/-- signs of a rank go, what waits below stays -/
def Low (rho : Int) (Z : List Int) : Prop := ∀ k ys, Z = k :: ys → rnk k < rho
theorem tloop_sim {N : Nat} {kx : iv_M → Option (Int × iv_M)} {b : Int → Int} {L sl cl : Int} {s0 r0 : iv_M} {Pc Q : List (Int × Int)} {O : List Int} {stg cmp : Int} {Y : List Int} {ty : List Bool} (hC : JC N b L sl cl r0 Pc Q O) (hst : stg = if cmp = 0 then 3 else 4) (hlow : Low 6 (Y ++ O)) (hY : Y.length ≤ 2) (hO : O.length ≤ 40) : ∀ (m f : Nat) (c r : iv_M) (p x cnt : Int) (A : List (Int × Int)) (X : List Int), (L - p).toNat ≤ m → m + 1 < f → JS b L sl cl s0 r0 Pc Q O c r p (bl b L p) x stg cmp cnt A X Y (false :: ty) 0 → X.length ≤ 1 → (∀ k, k ∈ X → mul6 k) → ∃ r', FX12_term_l8 N 113 (fun (s_2528 : iv_M) => (FX12_term_b100 N s_2528)) f r = some r' ∧ ((∃ c' p' x' cnt' A' X', CRun N kx c x c' x' ∧ p ≤ p' ∧ JS b L sl cl s0 r0 Pc Q O c' r' p' (bl b L p') x' stg cmp cnt' A' X' Y (false :: ty) 0 ∧ X'.length ≤ 1 ∧ (∀ k, k ∈ X' → mul6 k) ∧ ¬ mul6 (ark (sg b L (bl b L p')))) ∨ JF N kx b L sl s0 r0 c x r') := by
  intro m
  have hC' := hC
  obtain ⟨hN, hT, _, _, _, _, h37⟩ := hC'
  have hst34 : stg = 3 ∨ stg = 4 := by rw [hst]; split <;> omega
  induction m with
  | zero =>
    intro f c r p x cnt A X hm hf h hX hX6
    obtain ⟨f', rfl⟩ : ∃ f', f = f' + 1 := ⟨f - 1, by omega⟩
    have hh := h
    obtain ⟨_, ⟨hRT, _, _⟩, ⟨x0, x1, x2, x3, x4⟩, _⟩ := hh
    have hpL : L ≤ bl b L p := by omega
    have nm : ¬ mul6 (ark (sg b L (bl b L p))) := fun z => by
      have : sg b L (bl b L p) = -1 := by unfold sg; rw [if_neg (by omega)]
      rw [this] at z
      rcases ark_mul.mp z with u | u | u <;> omega
    refine ⟨r, (term_st hRT hT (by omega) x3).2 nm, Or.inl ⟨c, p, x, cnt, A, X, CRun.refl, by omega, h, hX, hX6, nm⟩⟩
  | succ m ih =>
    intro f c r p x cnt A X hm hf h hX hX6
    obtain ⟨f', rfl⟩ : ∃ f', f = f' + 1 := ⟨f - 1, by omega⟩
    have hh := h
    obtain ⟨_, ⟨hRT, _, _⟩, ⟨x0, x1, x2, x3, x4⟩, _, _, _, _, hisK, _⟩ := hh
    by_cases z : mul6 (ark (sg b L (bl b L p)))
    rotate_left
    · exact ⟨r, (term_st hRT hT (by omega) x3).2 z, Or.inl ⟨c, p, x, cnt, A, X, CRun.refl, by omega, h, hX, hX6, z⟩⟩
    rw [(term_st hRT hT (by omega) x3).1 z]
    obtain ⟨k, hk⟩ : ∃ k, k = ark (sg b L (bl b L p)) := ⟨_, rfl⟩
    have kne : ark (sg b L (bl b L p)) ≠ 0 := by rw [← hk] at z ⊢; rcases z with u | u | u <;> omega
    obtain ⟨c1, e1, e2⟩ := arith_sim (N := N) (kx := kx) hC h rfl hst34 kne ⟨fun j hj => ⟨hisK j (by rw [List.mem_append]; left; exact hj), by rw [mul6_rnk (hX6 j hj), mul6_rnk z]; omega⟩, fun j hj => hisK j (by rw [List.mem_append]; right; exact hj), by rw [mul6_rnk z]; exact hlow⟩ hY hO
    rw [← hk] at e2 ⊢
    obtain ⟨r1, v1, v2⟩ := value_sim (kx := kx) hC e2 (Or.inl rfl)
    rw [v1, Option.bind_some]
    obtain ⟨f2, rfl⟩ : ∃ f2, f' = f2 + 1 := ⟨f' - 1, by omega⟩
    rcases v2 with ⟨c2, p2, v, w1, wp, w2⟩ | w
    rotate_left
    · obtain ⟨r', g1, g2⟩ := JF_bad (G := fun z => ((FX12_entry N z 113 k 0).bind fun s_2548 => ((FX12_blanks N s_2548 113).bind fun s_2550 => FX12_term_l8 N 113 (fun (s_2528 : iv_M) => (FX12_term_b100 N s_2528)) (f2 + 1) s_2550))) w h37 (fun F q f1 q0 q1 hq _ => term_tail_bad hN (by omega) hq hT q0 q1)
      exact ⟨r', g1, Or.inr (JF_run e1 g2)⟩
    rw [if_neg (show ¬ (2 : Int) = 1 by decide), if_neg (show ¬ (2 : Int) = 1 by decide), ← hst] at w2
    have tk : tye (k, 0) (false :: false :: ty) = some (false :: ty) := by
      rw [← hk] at z
      rcases z with u | u | u <;> rw [u] <;> rfl
    obtain ⟨r2, d1, d2⟩ := shift_sim hC w2 tk
    obtain ⟨d3, d4⟩ := blanks_sim hC d2
    rw [d1, Option.bind_some, d3, Option.bind_some]
    have p2b : p < p2 := by
      have : bl b L p + 1 ≤ bl b L (bl b L p + 1) := rnn_ge
      omega
    obtain ⟨r', i1, i2⟩ := ih (f2 + 1) c2 _ p2 (x + 1 + 1) (cnt + 1) (A ++ em X ++ [v]) ([] ++ [k]) (by omega) (by omega) d4 (by simp) (fun j hj => by simp at hj; rw [hj]; rw [← hk] at z; exact z)
    refine ⟨r', i1, ?_⟩
    rcases i2 with ⟨c', p', x', cnt', A', X', j1, j2, j3⟩ | w
    · exact Or.inl ⟨c', p', x', cnt', A', X', (e1.trans w1).trans j1, by omega, j3⟩
    · exact Or.inr (JF_run (e1.trans w1) w)
theorem term_sim {N : Nat} {kx : iv_M → Option (Int × iv_M)} {b : Int → Int} {L sl cl : Int} {s0 r0 : iv_M} {Pc Q : List (Int × Int)} {O : List Int} {c r : iv_M} {p pr x stg cmp cnt : Int} {A : List (Int × Int)} {Y : List Int} {ty : List Bool} (hC : JC N b L sl cl r0 Pc Q O) (h : JS b L sl cl s0 r0 Pc Q O c r p pr x stg cmp cnt A [] Y ty 1) (hst : stg = 2 ∨ (stg = 1 ∧ sg b L (bl b L p) ≠ 91 ∧ isw b (bl b L p) (el b L (bl b L p)) wNot = false)) (hlow : Low 6 (Y ++ O)) (hY : Y.length ≤ 2) (hO : O.length ≤ 40) : ∃ r', FX12_term N r 113 = some r' ∧ ((∃ c' p' x' cnt' A' X', CRun N kx c x c' x' ∧ p < p' ∧ JS b L sl cl s0 r0 Pc Q O c' r' p' (bl b L p') x' (if (if stg = 1 then 0 else cmp) = 0 then 3 else 4) (if stg = 1 then 0 else cmp) cnt' A' X' Y (false :: ty) 0 ∧ X'.length ≤ 1 ∧ (∀ k, k ∈ X' → mul6 k) ∧ ¬ mul6 (ark (sg b L (bl b L p')))) ∨ JF N kx b L sl s0 r0 c x r') := by
  have hC' := hC
  obtain ⟨hN, hT, _, _, _, _, h37⟩ := hC'
  have hL := hT.2.1
  obtain ⟨r1, v1, v2⟩ := value_sim (kx := kx) hC h hst
  have hx := h.2.2.1
  unfold FX12_term
  rw [v1, Option.bind_some]
  rcases v2 with ⟨c2, p2, v, w1, wp, w2⟩ | w
  rotate_left
  · obtain ⟨f, hf'⟩ : ∃ f, N = f + 1 := ⟨N - 1, by omega⟩
    obtain ⟨r', g1, g2⟩ := JF_bad (G := fun z => ((FX12_blanks N z 113).bind fun s_2527 => FX12_term_l8 N 113 (fun (s_2528 : iv_M) => (FX12_term_b100 N s_2528)) N s_2527)) w h37 (fun F q f1 q0 q1 hq _ => by
      obtain ⟨r2, b1, b2⟩ := blanks_bad hN hq hT q0 q1
      obtain ⟨y, y0, y1, y2⟩ := b2.2
      refine ⟨r2, ?_, b2⟩
      have st : ∀ G, G = f + 1 → FX12_term_l8 N 113 (fun (s_2528 : iv_M) => (FX12_term_b100 N s_2528)) G r2 = some r2 := fun G hG => by
        rw [hG, FX12_term_l8, if_neg (by rw [y2.2.2.1]; omega)]; rfl
      show ((FX12_blanks N r1 113).bind fun s_2527 => FX12_term_l8 N 113 (fun (s_2528 : iv_M) => (FX12_term_b100 N s_2528)) N s_2527) = some r2
      rw [b1, Option.bind_some]
      exact st N hf')
    exact ⟨r', g1, Or.inr g2⟩
  have se : (if stg = 1 then 3 else if cmp = 0 then (3 : Int) else 4) = if (if stg = 1 then 0 else cmp) = 0 then 3 else 4 := by
    by_cases u : stg = 1
    · rw [if_pos u, if_pos u, if_pos rfl]
    · rw [if_neg u, if_neg u]
  rw [se] at w2
  obtain ⟨d3, d4⟩ := blanks_sim hC w2
  have p2x := w2.2.2.1
  have hp2 : p < p2 := by
    have : p ≤ bl b L p := rnn_ge
    omega
  rw [d3, Option.bind_some]
  obtain ⟨r', i1, i2⟩ := tloop_sim (kx := kx) hC rfl hlow hY hO (L - p2).toNat N c2 _ p2 (x + 1) (cnt + 1) (A ++ [v]) [] (Nat.le_refl _) (by omega) d4 (by simp) (fun j hj => by cases hj)
  refine ⟨r', i1, ?_⟩
  rcases i2 with ⟨c', p', x', cnt', A', X', j1, j2, j3⟩ | w
  · exact Or.inl ⟨c', p', x', cnt', A', X', w1.trans j1, by omega, j3⟩
  · exact Or.inr (JF_run w1 w)
