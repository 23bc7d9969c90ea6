-- IMAGES: the reference carries its rows into an image
def cto (s : iv_M) (a : Nat) (o n : Int) : iv_M := fun c i => if c = 172 ∧ o ≤ i ∧ i < o + n then s a (i - o) else if c = 113 ∧ i = 81 then o + n else s c i
theorem carry_to {N a : Nat} {s : iv_M} {o : Int} (hN : 1000 ≤ N) (h0 : 114 ≤ a) (h1 : a ≤ 131) (h81 : s 113 81 = o) (h82 : s 113 82 = 0) (o0 : 0 ≤ o) (o1 : o + ln a ≤ 3440) : FX12_carry N s 113 a = some (cto s a o (ln a)) := by
  obtain ⟨_, hs, _, l0, _, l2⟩ := ofs_s h0 h1
  have hs0 : s = cto s a o ((0 : Nat) : Int) := by
    funext c i; unfold cto
    rw [if_neg (by omega)]
    by_cases e : c = 113 ∧ i = 81
    · rw [if_pos e, e.1, e.2, h81]; simp
    · rw [if_neg e]
  have lp := loop_fn (L := FX12_carry_l2 N 113 a (fun (s_4491 : iv_M) => some s_4491)) (k := fun (s_4491 : iv_M) => some s_4491) (hi := ln a) (N := N) (fun i => cto s a o (i : Int)) (by omega) (fun n => by rw [FX12_carry_l2, if_pos (by omega)]) (fun n i hi => by
    have x82 : cto s a o (i : Int) 113 82 = 0 := by unfold cto; rw [if_neg (by omega), if_neg (by omega)]; exact h82
    have x81 : cto s a o (i : Int) 113 81 = o + i := by unfold cto; rw [if_neg (by omega), if_pos ⟨rfl, rfl⟩]
    have xa : cto s a o (i : Int) a i = s a i := by unfold cto; rw [if_neg (by omega), if_neg (by omega)]
    rw [FX12_carry_l2, if_neg (by omega), if_pos x82]
    unfold FX12_carry_b42
    simp only [Nat.reduceAdd]
    rw [hs, rd_ok (by omega) (by omega), Option.bind_some, xa, x81, wr_ok (by omega) (by omega), Option.bind_some, mu_ne (by omega), x81, pt_ok, Option.bind_some, w32_id (by omega) (by omega), w32_id (by omega) (by omega)]
    congr 1
    funext c j
    unfold mu cto
    by_cases e1 : c = 113 ∧ j = 81
    · rw [if_pos e1, if_neg (by omega), if_pos e1]; omega
    · rw [if_neg e1]
      by_cases e2 : c = 172 ∧ j = o + (i : Int)
      · rw [if_pos e2, if_pos (by omega), e2.2, show o + (i : Int) - o = i by omega]
      · rw [if_neg e2, if_neg e1, if_neg e1]
        by_cases e3 : c = 172 ∧ o ≤ j ∧ j < o + (i : Int)
        · rw [if_pos e3, if_pos (by omega)]
        · rw [if_neg e3, if_neg (by omega)]) (by omega)
  have lp' : FX12_carry_l2 N 113 a (fun (s_4491 : iv_M) => some s_4491) N (cto s a o ((0 : Nat) : Int)) 0 = some (cto s a o (((ln a).toNat : Nat) : Int)) := lp
  rw [← hs0, Int.toNat_of_nonneg (by omega)] at lp'
  exact lp'
/-- rows below a carried -/
def CT (s : iv_M) (k : Int) (a : Nat) (x : iv_M) : Prop := (∀ c : Nat, 114 ≤ c → c < a → ∀ i, 0 ≤ i → i < ln c → x 172 (860 * k + ofs c + i) = s c i) ∧ (∀ i, (i < 860 * k ∨ 860 * k + 860 ≤ i) → x 172 i = s 172 i) ∧ (∀ c, c ≠ 113 → c ≠ 172 → x c = s c) ∧ (a ≤ 131 → x 113 81 = 860 * k + ofs a) ∧ x 113 82 = 0 ∧ ∀ j, j ≠ 81 → j ≠ 82 → x 113 j = s 113 j
theorem CT_step {N a : Nat} {s x : iv_M} {k : Int} (hN : 1000 ≤ N) (k0 : 0 ≤ k) (k1 : k < 4) (h0 : 114 ≤ a) (h1 : a ≤ 131) (h : CT s k a x) : ∃ x', FX12_carry N x 113 a = some x' ∧ CT s k (a + 1) x' := by
  obtain ⟨z1, z2, z3, z4, z5, z6⟩ := h
  obtain ⟨hs, _, l0, l1, l2, _⟩ := ofs_s h0 h1
  refine ⟨_, carry_to (N := N) (o := 860 * k + ofs a) hN h0 h1 (z4 h1) z5 (by omega) (by omega), fun c c0 c1 i i0 i1 => ?_, fun i hi => ?_, fun c c0 c1 => ?_, fun ha => ?_, ?_, fun j j0 j1 => ?_⟩
  · by_cases e : c = a
    · subst e
      unfold cto
      rw [if_pos (by omega), show 860 * k + ofs c + i - (860 * k + ofs c) = i by omega, z3 c (by omega) (by omega)]
    · have := ofs_lt c0 (show c < a by omega) h1
      unfold cto
      rw [if_neg (by omega), if_neg (by omega)]
      exact z1 c c0 (by omega) i i0 i1
  · unfold cto
    rw [if_neg (by omega), if_neg (by omega)]; exact z2 i hi
  · funext i
    unfold cto
    rw [if_neg (by omega), if_neg (by omega), z3 c c0 c1]
  · unfold cto
    rw [if_neg (by omega), if_pos ⟨rfl, rfl⟩, hs (by omega)]; omega
  · unfold cto; rw [if_neg (by omega), if_neg (by omega)]; exact z5
  · unfold cto; rw [if_neg (by omega), if_neg (by omega)]; exact z6 j j0 j1
theorem carriesTo_ok {N : Nat} {s : iv_M} {k : Int} (hN : 1000 ≤ N) (hO : OZ s) (k0 : 0 ≤ k) (k1 : k < 4) : ∃ x, FX12_carriesAll N s 113 k 0 = some x ∧ (∀ a, 114 ≤ a → a ≤ 131 → img x k a = s a) ∧ (∀ k', 0 ≤ k' → k' < 4 → k' ≠ k → ∀ a, 114 ≤ a → a ≤ 131 → img x k' a = img s k' a) ∧ (∀ c, c ≠ 113 → c ≠ 172 → x c = s c) ∧ ∀ j, j ≠ 81 → j ≠ 82 → x 113 j = s 113 j := by
  have h0 : CT s k 114 (mu (mu s 113 81 (860 * k)) 113 82 0) := by
    refine ⟨fun c c0 c1 => by omega, fun i _ => by rw [mu_rw (by omega), mu_rw (by omega)], fun c c0 _ => by rw [mu_rw c0, mu_rw c0], fun _ => ?_, mu_eq, fun j j0 j1 => by rw [mu_ne (by omega), mu_ne (by omega)]⟩
    rw [mu_ne (by omega), mu_eq]
    have : ofs 114 = 0 := by decide
    omega
  have st := fun (a : Nat) (x : iv_M) (h0 : 114 ≤ a) (h1 : a ≤ 131) (h : CT s k a x) => CT_step (N := N) hN k0 k1 h0 h1 h
  obtain ⟨x1, a1, b1⟩ := st 114 _ (by omega) (by omega) h0
  obtain ⟨x2, a2, b2⟩ := st 115 _ (by omega) (by omega) b1
  obtain ⟨x3, a3, b3⟩ := st 116 _ (by omega) (by omega) b2
  obtain ⟨x4, a4, b4⟩ := st 117 _ (by omega) (by omega) b3
  obtain ⟨x5, a5, b5⟩ := st 118 _ (by omega) (by omega) b4
  obtain ⟨x6, a6, b6⟩ := st 119 _ (by omega) (by omega) b5
  obtain ⟨x7, a7, b7⟩ := st 120 _ (by omega) (by omega) b6
  obtain ⟨x8, a8, b8⟩ := st 121 _ (by omega) (by omega) b7
  obtain ⟨x9, a9, b9⟩ := st 122 _ (by omega) (by omega) b8
  obtain ⟨x10, a10, b10⟩ := st 123 _ (by omega) (by omega) b9
  obtain ⟨x11, a11, b11⟩ := st 124 _ (by omega) (by omega) b10
  obtain ⟨x12, a12, b12⟩ := st 125 _ (by omega) (by omega) b11
  obtain ⟨x13, a13, b13⟩ := st 126 _ (by omega) (by omega) b12
  obtain ⟨x14, a14, b14⟩ := st 127 _ (by omega) (by omega) b13
  obtain ⟨x15, a15, b15⟩ := st 128 _ (by omega) (by omega) b14
  obtain ⟨x16, a16, b16⟩ := st 129 _ (by omega) (by omega) b15
  obtain ⟨x17, a17, b17⟩ := st 130 _ (by omega) (by omega) b16
  obtain ⟨x18, a18, b18⟩ := st 131 _ (by omega) (by omega) b17
  obtain ⟨z1, z2, z3, _, _, z6⟩ := b18
  refine ⟨x18, ?_, fun a a0 a1 => ?_, fun k' k0' k1' hk a a0 a1 => ?_, z3, z6⟩
  · unfold FX12_carriesAll
    simp only [Nat.reduceAdd]
    rw [w32_id (by omega) (by omega), pt_ok, Option.bind_some, if_pos (Or.inl trivial), pt_ok, Option.bind_some, a1, Option.bind_some, a2, Option.bind_some, a3, Option.bind_some, a4, Option.bind_some, a5, Option.bind_some, a6, Option.bind_some, a7, Option.bind_some, a8, Option.bind_some, a9, Option.bind_some, a10, Option.bind_some, a11, Option.bind_some, a12, Option.bind_some, a13, Option.bind_some, a14, Option.bind_some, a15, Option.bind_some, a16, Option.bind_some, a17, Option.bind_some, a18, Option.bind_some]
  · funext i
    unfold img
    by_cases e : 0 ≤ i ∧ i < ln a
    · rw [if_pos e]; exact z1 a a0 (by omega) i e.1 e.2
    · rw [if_neg e]; exact (hO a a0 a1 i e).symm
  · obtain ⟨_, _, l0, l1, l2, _⟩ := ofs_s a0 a1
    funext i
    unfold img
    by_cases e : 0 ≤ i ∧ i < ln a
    · rw [if_pos e, if_pos e]; exact z2 _ (by omega)
    · rw [if_neg e, if_neg e]
