-- PALACE: the class lays out an empty floor
theorem cellAt_ok {N q : Nat} {s B : iv_M} {x y : Int} (h0 : s q 0 = B 114 0) (h1 : s q 1 = B 114 1) (c4 : B 114 0 ≤ 4) (r4 : B 114 1 ≤ 4) : FX1_cellAt N s q x y = some (if isC B x y then 4 * y + x else -1) := by
  unfold FX1_cellAt FX1_cellAt_b32 FX1_cellAt_b33
  rw [h0, h1]
  unfold isC
  by_cases a : x < 0
  · rw [if_pos a, if_neg (by omega)]
  rw [if_neg a]
  by_cases b : B 114 0 ≤ x
  · rw [if_pos b, if_neg (by omega)]
  rw [if_neg b]
  by_cases c : y < 0
  · rw [if_pos c, if_neg (by omega)]
  rw [if_neg c]
  by_cases d : B 114 1 ≤ y
  · rw [if_pos d, if_neg (by omega)]
  rw [if_neg d, if_pos (by omega), w32_id (x := 4 * y) (by omega) (by omega), w32_id (by omega) (by omega)]
theorem cell_bits {c : Int} (c0 : 0 ≤ c) (c1 : c < 16) : bAn c 3 = c % 4 ∧ sr32 c 2 = c / 4 := by
  have : c = 0 ∨ c = 1 ∨ c = 2 ∨ c = 3 ∨ c = 4 ∨ c = 5 ∨ c = 6 ∨ c = 7 ∨ c = 8 ∨ c = 9 ∨ c = 10 ∨ c = 11 ∨ c = 12 ∨ c = 13 ∨ c = 14 ∨ c = 15 := by omega
  refine ⟨bAn_3 c, ?_⟩
  rcases this with h | h | h | h | h | h | h | h | h | h | h | h | h | h | h | h <;> rw [h] <;> decide
theorem layOut_l {N q : Nat} {B : iv_M} (c0 : 0 ≤ B 114 0) (c4 : B 114 0 ≤ 4) (r0 : 0 ≤ B 114 1) (r4 : B 114 1 ≤ 4) : ∀ (m f : Nat) (c : Int) (s : iv_M), 0 ≤ c → c + m = 16 → m < f → s q 0 = B 114 0 → s q 1 = B 114 1 → (∀ c' d, 0 ≤ c' → c' < c → 0 ≤ d → d < 4 → s (q + 6) (4 * c' + d) = nb B c' d) → ∃ s', FX1_layOut_l39 N q (fun (s_140 : iv_M) => some s_140) f s c = some s' ∧ (∀ c' d, 0 ≤ c' → c' < 16 → 0 ≤ d → d < 4 → s' (q + 6) (4 * c' + d) = nb B c' d) ∧ ∀ a, a ≠ q + 6 → s' a = s a := by
  intro m
  induction m with
  | zero =>
    intro f c s h0 hc hf e0 e1 hn
    obtain ⟨f', rfl⟩ : ∃ f', f = f' + 1 := ⟨f - 1, by omega⟩
    refine ⟨s, ?_, fun c' d z0 z1 d0 d1 => hn c' d z0 (by omega) d0 d1, fun _ _ => rfl⟩
    rw [FX1_layOut_l39, if_pos (by omega)]
  | succ m ih =>
    intro f c s h0 hc hf e0 e1 hn
    obtain ⟨f', rfl⟩ : ∃ f', f = f' + 1 := ⟨f - 1, by omega⟩
    obtain ⟨b3, b2⟩ := cell_bits h0 (show c < 16 by omega)
    obtain ⟨y, hy⟩ : ∃ y, y = mu (mu (mu (mu s (q + 6) (4 * c) (nb B c 0)) (q + 6) (4 * c + 1) (nb B c 1)) (q + 6) (4 * c + 2) (nb B c 2)) (q + 6) (4 * c + 3) (nb B c 3) := ⟨_, rfl⟩
    have yo : ∀ a, a ≠ q + 6 → y a = s a := fun a ha => by rw [hy, mu_rw ha, mu_rw ha, mu_rw ha, mu_rw ha]
    obtain ⟨s', a1, a2, a3⟩ := ih f' (c + 1) y (by omega) (by omega) (by omega) (by rw [yo q (by omega)]; exact e0) (by rw [yo q (by omega)]; exact e1) (fun c' d z0 z1 d0 d1 => by
      rw [hy]
      by_cases g : c' = c
      · subst g
        rcases four d0 d1 with rfl | rfl | rfl | rfl
        · rw [mu_ne (by omega), mu_ne (by omega), mu_ne (by omega), show 4 * c' + 0 = 4 * c' by omega, mu_eq]
        · rw [mu_ne (by omega), mu_ne (by omega), mu_eq]
        · rw [mu_ne (by omega), mu_eq]
        · rw [mu_eq]
      · rw [mu_ne (by omega), mu_ne (by omega), mu_ne (by omega), mu_ne (by omega)]
        exact hn c' d z0 (by omega) d0 d1)
    refine ⟨s', ?_, a2, fun a ha => by rw [a3 a ha, yo a ha]⟩
    rw [FX1_layOut_l39, if_neg (by omega), b3, b2, w32_id (x := c / 4 - 1) (by omega) (by omega), w32_id (x := c / 4 + 1) (by omega) (by omega), w32_id (x := c % 4 + 1) (by omega) (by omega), w32_id (x := c % 4 - 1) (by omega) (by omega), w32_id (x := 4 * c) (by omega) (by omega), w32_id (x := 4 * c + 1) (by omega) (by omega), w32_id (x := 4 * c + 2) (by omega) (by omega), w32_id (x := 4 * c + 3) (by omega) (by omega), w32_id (x := c + 1) (by omega) (by omega)]
    have n0 : (if isC B (c % 4) (c / 4 - 1) then 4 * (c / 4 - 1) + c % 4 else -1) = nb B c 0 := by
      unfold nb dxx dyy; simp only [Int.reduceEq, if_true, if_false, Int.add_zero]; rfl
    have n1 : (if isC B (c % 4 + 1) (c / 4) then 4 * (c / 4) + (c % 4 + 1) else -1) = nb B c 1 := by
      unfold nb dxx dyy; simp only [Int.reduceEq, if_true, if_false, Int.add_zero]
    have n2 : (if isC B (c % 4) (c / 4 + 1) then 4 * (c / 4 + 1) + c % 4 else -1) = nb B c 2 := by
      unfold nb dxx dyy; simp only [Int.reduceEq, if_true, if_false, Int.add_zero]
    have n3 : (if isC B (c % 4 - 1) (c / 4) then 4 * (c / 4) + (c % 4 - 1) else -1) = nb B c 3 := by
      unfold nb dxx dyy; simp only [Int.reduceEq, if_true, if_false, Int.add_zero]; rfl
    have ca : ∀ (z : iv_M) (u v : Int), z q = s q → FX1_cellAt N z q u v = some (if isC B u v then 4 * v + u else -1) := fun z u v hz => cellAt_ok (by rw [hz]; exact e0) (by rw [hz]; exact e1) c4 r4
    rw [ca s _ _ rfl, Option.bind_some, n0, wr_ok (by omega) (by omega), Option.bind_some, ca _ _ _ (by rw [mu_rw (by omega)]), Option.bind_some, n1, wr_ok (by omega) (by omega), Option.bind_some, ca _ _ _ (by rw [mu_rw (by omega), mu_rw (by omega)]), Option.bind_some, n2, wr_ok (by omega) (by omega), Option.bind_some, ca _ _ _ (by rw [mu_rw (by omega), mu_rw (by omega), mu_rw (by omega)]), Option.bind_some, n3, wr_ok (by omega) (by omega), Option.bind_some, ← hy]
    exact a1
theorem layOut_ok {N q : Nat} {s B : iv_M} {x y : Int} (hN : 100 ≤ N) (hT : TF q) (hx : B 114 0 = x) (hy : B 114 1 = y) (h2 : B 114 2 = 0) (hat : ∀ c, 0 ≤ c → c < 16 → B 121 c = -1) (c0 : 0 ≤ x) (c4 : x ≤ 4) (r0 : 0 ≤ y) (r4 : y ≤ 4) : ∃ s', FX1_layOut N s q x y = some s' ∧ FRc s' q B ∧ FP s' q B ∧ Fo q (q + 6) s s' := by
  obtain ⟨z, hz⟩ : ∃ z, z = flM (flM (flM (mu (mu (mu (mu (mu s q 0 x) q 1 y) q 2 0) q 3 0) q 4 0) (q + 4) 48 0) (q + 3) 16 (-1)) (q + 5) 64 3 := ⟨_, rfl⟩
  have zq : ∀ i, z q i = mu (mu (mu (mu (mu s q 0 x) q 1 y) q 2 0) q 3 0) q 4 0 q i := fun i => by rw [hz, fl_ne (by omega), fl_ne (by omega), fl_ne (by omega)]
  have z0 : z q 0 = x := by rw [zq, mu_ne (by omega), mu_ne (by omega), mu_ne (by omega), mu_ne (by omega), mu_eq]
  have z1 : z q 1 = y := by rw [zq, mu_ne (by omega), mu_ne (by omega), mu_ne (by omega), mu_eq]
  have z2 : z q 2 = 0 := by rw [zq, mu_ne (by omega), mu_ne (by omega), mu_eq]
  have z3 : z q 3 = 0 := by rw [zq, mu_ne (by omega), mu_eq]
  have z4 : z q 4 = 0 := by rw [zq, mu_eq]
  obtain ⟨s', a1, a2, a3⟩ := layOut_l (N := N) (q := q) (B := B) (by omega) (by omega) (by omega) (by omega) 16 N 0 z (by omega) (by omega) (by omega) (by rw [z0, hx]) (by rw [z1, hy]) (fun c' d z0 z1 _ _ => by omega)
  have zo : Fo q (q + 6) s z := fun a i ha => by
    rw [hz, fl_ne (by omega), fl_ne (by omega), fl_ne (by omega), mu_ne (by omega), mu_ne (by omega), mu_ne (by omega), mu_ne (by omega), mu_ne (by omega)]
  refine ⟨s', ?_, ⟨?_, ?_, ?_, fun c x0 x1 => ?_, fun c d x0 x1 d0 d1 => ?_, a2, fun j j0 j1 => by omega, fun c x0 x1 hn => absurd (hat c x0 x1) hn⟩, ⟨?_, ?_⟩, fun a i ha => by rw [a3 a (by omega)]; exact zo a i ha⟩
  · unfold FX1_layOut
    rw [pt_ok, Option.bind_some, pt_ok, Option.bind_some, pt_ok, Option.bind_some, pt_ok, Option.bind_some, pt_ok, Option.bind_some, fill_ok (n := 48) (by rw [hT.2.1]; rfl) (by omega), Option.bind_some, FX1_sweep_ok hT (by omega), Option.bind_some, ← hz]
    exact a1
  · rw [a3 q (by omega), z0, hx]
  · rw [a3 q (by omega), z1, hy]
  · rw [a3 q (by omega), z2, h2]
  · rw [a3 _ (by omega), hz, fl_ne (by omega), fl_eq x0 x1, hat c x0 x1]
  · rw [a3 _ (by omega), hz, fl_eq (by omega) (by omega)]
    unfold kd; rw [if_pos (hat c x0 x1)]
  · rw [a3 q (by omega), z3, h2]; rfl
  · rw [a3 q (by omega), z4, h2]; rfl
/-- a house as it is while a palace is read -/
def HP (s : iv_M) (q : Nat) (B : iv_M) : Prop := s q 0 = 1 ∧ (s q 1 = B 114 4 ∧ s q 2 = B 114 3) ∧ ((∀ r, 0 ≤ r → r < B 114 2 → s q 3 / 2 ^ r.toNat % 2 = B 118 r) ∧ 0 ≤ s q 3 ∧ s q 3 < 2 ^ (B 114 2).toNat) ∧ (s q 4 = 0 ∧ s q 5 = -1 ∧ s q 6 = 0 ∧ s q 8 = 0) ∧ (∀ p, 0 ≤ p → p < B 114 3 → s (q + 9) p = B 120 p) ∧ (FRc s (q + 1) B ∧ FP s (q + 1) B) ∧ HR3 s q B ∧ s (q + 10) 1 = 0 ∧ s (q + 12) 1 = 0 ∧ s (q + 16) 1 = 0 ∧ s (q + 18) 1 = 0 ∧ s (q + 20) 1 = 0
theorem HP_ext {s s' B : iv_M} {q : Nat} (h : ∀ a, q ≤ a → a ≤ q + 20 → s' a = s a) (hP : HP s q B) : HP s' q B := by
  obtain ⟨h1, h2, h3, h4, h5, ⟨h6, h7⟩, h8, h9⟩ := hP
  have e0 := h q (by omega) (by omega)
  refine ⟨by rw [e0]; exact h1, by rw [e0]; exact h2, by rw [e0]; exact h3, by rw [e0]; exact h4, fun p p0 p1 => by rw [h (q + 9) (by omega) (by omega)]; exact h5 p p0 p1, ⟨FRc_ext (fun a x y => h a (by omega) (by omega)) h6, FP_ext (h (q + 1) (by omega) (by omega)) h7⟩, ?_, ?_⟩
  · unfold HR3 at h8 ⊢; rw [h (q + 8) (by omega) (by omega)]; exact h8
  · rw [h (q + 10) (by omega) (by omega), h (q + 12) (by omega) (by omega), h (q + 16) (by omega) (by omega), h (q + 18) (by omega) (by omega), h (q + 20) (by omega) (by omega)]; exact h9
theorem build_ok {N q : Nat} {s B : iv_M} {x y : Int} (hN : 100 ≤ N) (hQ : HQ q) (hx : B 114 0 = x) (hy : B 114 1 = y) (h2 : B 114 2 = 0) (h3 : B 114 3 = 0) (h4 : B 114 4 = 7) (hat : ∀ c, 0 ≤ c → c < 16 → B 121 c = -1) (hk : ∀ k, 0 ≤ k → k < 4 → B 119 k = -1) (c0 : 0 ≤ x) (c4 : x ≤ 4) (r0 : 0 ≤ y) (r4 : y ≤ 4) : ∃ s', FX2_build N s q x y = some s' ∧ HP s' q B ∧ Fo q (q + 21) s s' := by
  obtain ⟨z, hz⟩ : ∃ z, z = mu (mu (mu (mu (mu (mu (mu (mu s q 0 1) q 1 7) q 2 0) q 3 0) q 4 0) q 5 (-1)) q 6 0) q 8 0 := ⟨_, rfl⟩
  have zo : ∀ a, a ≠ q → z a = s a := fun a ha => by rw [hz, mu_rw ha, mu_rw ha, mu_rw ha, mu_rw ha, mu_rw ha, mu_rw ha, mu_rw ha, mu_rw ha]
  obtain ⟨y1, l1, l2, l3, l4⟩ := layOut_ok (N := N) (q := q + 1) (s := z) (B := B) hN (HQ_TF hQ).1 hx hy h2 hat c0 c4 r0 r4
  obtain ⟨y2, hy2⟩ : ∃ y2, y2 = mu (mu (mu (mu (mu (flM y1 (q + 8) 5 (-1)) (q + 10) 1 0) (q + 12) 1 0) (q + 16) 1 0) (q + 18) 1 0) (q + 20) 1 0 := ⟨_, rfl⟩
  have o1 : ∀ a, a ≠ q + 8 → a ≠ q + 10 → a ≠ q + 12 → a ≠ q + 16 → a ≠ q + 18 → a ≠ q + 20 → y2 a = y1 a := fun a a1 a2 a3 a4 a5 a6 => by
    rw [hy2, mu_rw a6, mu_rw a5, mu_rw a4, mu_rw a3, mu_rw a2]; funext i; exact fl_ne a1
  have q0 : ∀ i, y2 q i = z q i := fun i => by rw [o1 q (by omega) (by omega) (by omega) (by omega) (by omega) (by omega)]; exact l4 q i (by omega)
  refine ⟨y2, ?_, ⟨?_, ⟨?_, ?_⟩, ⟨fun r r0 r1 => by omega, ?_, ?_⟩, ⟨?_, ?_, ?_, ?_⟩, fun p p0 p1 => by omega, ⟨FRc_ext (fun a u v => o1 a (by omega) (by omega) (by omega) (by omega) (by omega) (by omega)) l2, FP_ext (o1 _ (by omega) (by omega) (by omega) (by omega) (by omega) (by omega)) l3⟩, fun k k0 k1 => ?_, ?_, ?_, ?_, ?_, ?_⟩, fun a i ha => ?_⟩
  · unfold FX2_build FX2_forgetPast
    rw [pt_ok, Option.bind_some, pt_ok, Option.bind_some, pt_ok, Option.bind_some, pt_ok, Option.bind_some, pt_ok, Option.bind_some, pt_ok, Option.bind_some, pt_ok, Option.bind_some, pt_ok, Option.bind_some, ← hz, l1, Option.bind_some, fill_ok (n := 5) (by rw [(HQ_rows hQ).1]; rfl) (by omega), Option.bind_some, pt_ok, Option.bind_some, pt_ok, Option.bind_some, Option.bind_some, pt_ok, Option.bind_some, pt_ok, Option.bind_some, pt_ok, Option.bind_some, ← hy2]
  · rw [q0, hz]; simp (disch := omega) only [mu_ne, mu_eq]
  · rw [q0, hz, h4]; simp (disch := omega) only [mu_ne, mu_eq]
  · rw [q0, hz, h3]; simp (disch := omega) only [mu_ne, mu_eq]
  · rw [q0, hz]; simp (disch := omega) only [mu_ne, mu_eq]; decide
  · rw [q0, hz, h2]; simp (disch := omega) only [mu_ne, mu_eq]; decide
  · rw [q0, hz]; simp (disch := omega) only [mu_ne, mu_eq]
  · rw [q0, hz]; simp (disch := omega) only [mu_ne, mu_eq]
  · rw [q0, hz]; simp (disch := omega) only [mu_ne, mu_eq]
  · rw [q0, hz]; simp (disch := omega) only [mu_eq]
  · rw [hy2, mu_ne (by omega), mu_ne (by omega), mu_ne (by omega), mu_ne (by omega), mu_ne (by omega), fl_eq (by omega) (by omega), hk k k0 k1]
  · rw [hy2, mu_ne (by omega), mu_ne (by omega), mu_ne (by omega), mu_ne (by omega), mu_eq]
  · rw [hy2, mu_ne (by omega), mu_ne (by omega), mu_ne (by omega), mu_eq]
  · rw [hy2, mu_ne (by omega), mu_ne (by omega), mu_eq]
  · rw [hy2, mu_ne (by omega), mu_eq]
  · rw [hy2, mu_eq]
  · rw [o1 a (by omega) (by omega) (by omega) (by omega) (by omega) (by omega), l4 a i (by omega), zo a (by omega)]
