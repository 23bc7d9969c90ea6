-- PALACE: a room is laid
theorem room_put {q : Nat} {sc sc1 sr sr1 sc' sr' : iv_M} {n c : Int} (hq : q = 9 ∨ q = 31) (hH : HP sc q (nbk sr)) (hW : WP (nbk sr)) (hn : sr 132 2 = n) (n1 : n < 12) (c0 : 0 ≤ c) (c1 : c < 16) (cx : c % 4 < sr 132 0) (cy : c / 4 < sr 132 1) (cf : sr 138 c = -1)
    (o1 : ∀ a, a ≠ 55 → a ≠ q + 5 → sc1 a = sc a) (o2 : ∀ j, ¬ (4 * n ≤ j ∧ j < 4 * n + 4) → sc1 (q + 5) j = sc (q + 5) j) (o3 : ∀ a, a ≠ 113 → a ≠ 133 → sr1 a = sr a) (o4 : ∀ j, ¬ (4 * n ≤ j ∧ j < 4 * n + 4) → sr1 133 j = sr 133 j) (o5 : ∀ j, 4 * n ≤ j → j < 4 * n + 4 → sc1 (q + 5) j = sr1 133 j ∧ 0 ≤ sr1 133 j ∧ sr1 133 j ≤ 6)
    (hsc : sc' = mu (putM sc1 (q + 1) n c 0) (q + 1) 2 (n + 1)) (hsr : sr' = mu (mu (mu (mu sr1 138 c n) 134 n c) 135 n 0) 132 2 (n + 1)) : HP sc' q (nbk sr') ∧ WP (nbk sr') := by
  obtain ⟨h1, h2, ⟨h3, h3', h3''⟩, h4, h5, ⟨h6, h7⟩, h8, h9⟩ := hH
  obtain ⟨w1, w2, w3, w4, w5, w6⟩ := hW
  have n2 : nbk sr 114 2 = n := by rw [nbk_4 (by omega) (by omega), hn]
  have n0 : 0 ≤ n := by have := w1.1.2.2.2.2.1; rw [n2] at this; exact this
  have s32 : ∀ i, i ≠ 2 → sr' 132 i = sr 132 i := fun i hi => by rw [hsr, mu_ne (by omega), mu_rw (by decide), mu_rw (by decide), mu_rw (by decide), o3 132 (by decide) (by decide)]
  have s322 : sr' 132 2 = n + 1 := by rw [hsr, mu_eq]
  have s33 : sr' 133 = sr1 133 := by rw [hsr, mu_rw (by decide), mu_rw (by decide), mu_rw (by decide), mu_rw (by decide)]
  have s34 : ∀ i, sr' 134 i = if i = n then c else sr 134 i := fun i => by
    rw [hsr, mu_rw (by decide), mu_rw (by decide)]
    by_cases g : i = n
    · rw [if_pos g, g, mu_eq]
    · rw [if_neg g, mu_ne (by omega), mu_rw (by decide), o3 134 (by decide) (by decide)]
  have s35 : ∀ i, sr' 135 i = if i = n then 0 else sr 135 i := fun i => by
    rw [hsr, mu_rw (by decide)]
    by_cases g : i = n
    · rw [if_pos g, g, mu_eq]
    · rw [if_neg g, mu_ne (by omega), mu_rw (by decide), mu_rw (by decide), o3 135 (by decide) (by decide)]
  have s38 : ∀ i, sr' 138 i = if i = c then n else sr 138 i := fun i => by
    rw [hsr, mu_rw (by decide), mu_rw (by decide), mu_rw (by decide)]
    by_cases g : i = c
    · rw [if_pos g, g, mu_eq]
    · rw [if_neg g, mu_ne (by omega), o3 138 (by decide) (by decide)]
  have s3o : ∀ a, a = 136 ∨ a = 137 → sr' a = sr a := fun a ha => by rw [hsr, mu_rw (by omega), mu_rw (by omega), mu_rw (by omega), mu_rw (by omega), o3 a (by omega) (by omega)]
  -- the new block
  have b4 : ∀ i, 0 ≤ i → i < 5 → i ≠ 2 → nbk sr' 114 i = nbk sr 114 i := fun i i0 i1 i2 => by rw [nbk_4 i0 i1, nbk_4 i0 i1, s32 i i2]
  have b42 : nbk sr' 114 2 = n + 1 := by rw [nbk_4 (by omega) (by omega), s322]
  have b5o : ∀ j, 0 ≤ j → j < 48 → ¬ (4 * n ≤ j ∧ j < 4 * n + 4) → nbk sr' 115 j = nbk sr 115 j := fun j j0 j1 hj => by rw [nbk_5 j0 j1, nbk_5 j0 j1, s33, o4 j hj]
  have b5n : ∀ j, 4 * n ≤ j → j < 4 * n + 4 → nbk sr' 115 j = sc1 (q + 5) j := fun j j0 j1 => by rw [nbk_5 (by omega) (by omega), s33, (o5 j j0 j1).1]
  have b6 : ∀ r, 0 ≤ r → r < 12 → nbk sr' 116 r = if r = n then c else nbk sr 116 r := fun r r0 r1 => by rw [nbk_6 r0 r1, nbk_6 r0 r1, s34]
  have b8 : ∀ r, 0 ≤ r → r < 12 → nbk sr' 118 r = if r = n then 0 else nbk sr 118 r := fun r r0 r1 => by rw [nbk_8 r0 r1, nbk_8 r0 r1, s35]
  have b9 : ∀ k, 0 ≤ k → k < 4 → nbk sr' 119 k = nbk sr 119 k := fun k k0 k1 => by rw [nbk_9 k0 k1, nbk_9 k0 k1, s3o 136 (by omega)]
  have b20 : ∀ p, 0 ≤ p → p < 6 → nbk sr' 120 p = nbk sr 120 p := fun p p0 p1 => by rw [nbk_20 p0 p1, nbk_20 p0 p1, s3o 137 (by omega)]
  have b21 : ∀ c', 0 ≤ c' → c' < 16 → nbk sr' 121 c' = if c' = c then n else nbk sr 121 c' := fun c' z0 z1 => by rw [nbk_21 z0 z1, nbk_21 z0 z1, s38]
  have old21 : nbk sr 121 c = -1 := by rw [nbk_21 c0 c1, cf]
  have rlt : ∀ c', 0 ≤ c' → c' < 16 → nbk sr 121 c' = -1 ∨ (0 ≤ nbk sr 121 c' ∧ nbk sr 121 c' < n) := fun c' z0 z1 => by
    rcases w1.2.1 c' z0 z1 with k | k
    · left; exact k
    · right; rw [n2] at k; exact ⟨k.1, k.2.1⟩
  have b0 : nbk sr' 114 0 = nbk sr 114 0 := b4 0 (by omega) (by omega) (by omega)
  have b1 : nbk sr' 114 1 = nbk sr 114 1 := b4 1 (by omega) (by omega) (by omega)
  have e0 : nbk sr 114 0 = sr 132 0 := nbk_4 (by omega) (by omega)
  have e1 : nbk sr 114 1 = sr 132 1 := nbk_4 (by omega) (by omega)
  have kdo : ∀ c' d, 0 ≤ c' → c' < 16 → c' ≠ c → kd (nbk sr') c' d = kd (nbk sr) c' d := fun c' d z0 z1 hne => by
    unfold kd sd
    rw [b21 c' z0 z1, if_neg hne, nbk_7, nbk_7]
    rcases rlt c' z0 z1 with k | ⟨k0, k1⟩
    · rw [if_pos k, if_pos k]
    · rw [if_neg (by omega), if_neg (by omega), b5o _ (by omega) (by omega) (by omega)]
  -- rows of the class
  have co : ∀ a, a ≠ 55 → (a < q + 1 ∨ q + 6 < a) → sc' a = sc a := fun a x1 x2 => by
    funext i
    rw [hsc, mu_rw (by omega), pm_out (by omega), o1 a x1 (by omega)]
  have s1F : ∀ a, a ≠ 55 → a ≠ q + 5 → sc1 a = sc a := o1
  have dims : sc1 (q + 1) = sc (q + 1) := o1 _ (by omega) (by omega)
  obtain ⟨f0, f1, f2, f3, f4, f5, f6, f7⟩ := h6
  rw [n2] at f2 h3'' f6
  have hFR : FRc sc' (q + 1) (nbk sr') := by
    refine ⟨?_, ?_, ?_, fun c' z0 z1 => ?_, fun c' d z0 z1 d0 d1 => ?_, fun c' d z0 z1 d0 d1 => ?_, fun j j0 j1 => ?_, fun c' z0 z1 hn' => ?_⟩
    · rw [hsc, mu_ne (by omega), pm_0 (by omega) (by omega), dims, b0]; exact f0
    · rw [hsc, mu_ne (by omega), pm_0 (by omega) (by omega), dims, b1]; exact f1
    · rw [hsc, mu_eq, b42]
    · rw [hsc, mu_rw (by omega), pm_3, b21 c' z0 z1]
      by_cases g : c' = c
      · rw [if_pos g, if_pos g]
      · rw [if_neg g, if_neg g, o1 _ (by omega) (by omega)]; exact f3 c' z0 z1
    · rw [hsc, mu_rw (by omega)]
      by_cases g : c' = c
      · rw [g, pm_5 d0 d1]
        unfold pmk kd sd
        rw [b21 c c0 c1, if_pos rfl, if_neg (by omega), nbk_7, b5n _ (by omega) (by omega)]
      · rw [pm_5n d0 d1 g, o1 _ (by omega) (by omega), kdo c' d z0 z1 g]; exact f4 c' d z0 z1 d0 d1
    · rw [hsc, mu_rw (by omega), pm_out (by omega), o1 _ (by omega) (by omega), nb_ext b0 b1]; exact f5 c' d z0 z1 d0 d1
    · rw [b42] at j1
      rw [hsc, mu_rw (by omega), pm_out (by omega)]
      by_cases g : 4 * n ≤ j ∧ j < 4 * n + 4
      · rw [b5n j g.1 g.2]
      · rw [b5o j j0 (by omega) g]
        have : sc1 (q + 1 + 4) j = sc (q + 1 + 4) j := o2 j g
        rw [this]; exact f6 j j0 (by omega)
    · rw [b21 c' z0 z1] at hn' ⊢
      rw [nbk_7, hsc, mu_rw (by omega), mu_rw (by omega), pm_1, pm_2]
      by_cases g : c' = c
      · rw [if_pos g, if_pos rfl, if_pos rfl]; exact ⟨g.symm, rfl⟩
      · rw [if_neg g] at hn' ⊢
        have := rlt c' z0 z1
        have hne : nbk sr 121 c' ≠ n := by omega
        rw [if_neg hne, if_neg hne, o1 _ (by omega) (by omega), o1 _ (by omega) (by omega)]
        have h7' := f7 c' z0 z1 hn'
        rw [nbk_7] at h7'
        exact h7'
  have hFP : FP sc' (q + 1) (nbk sr') := by
    obtain ⟨p1, p2⟩ := h7
    rw [n2] at p1 p2
    have nn : (n + 1).toNat = n.toNat + 1 := by omega
    have ni : ((n.toNat : Nat) : Int) = n := by omega
    have fr : ∀ i : Int, 0 ≤ i → i < (n.toNat : Int) + 1 → 0 ≤ nbk sr' 116 i ∧ nbk sr' 116 i < 2 ^ 4 := fun i i0 i1 => by
      rw [b6 i i0 (by omega)]
      by_cases g : i = n
      · rw [if_pos g]; exact ⟨c0, by simpa using c1⟩
      · rw [if_neg g]
        have := w1.2.2 i i0 (by rw [n2]; omega)
        exact ⟨this.1, by simpa using this.2.1⟩
    have q1 := pk4_app (f := nbk sr' 116) (n := n.toNat) (by omega) fr
    have q2 := pk2_app (f := nbk sr' 117) (n := n.toNat) (by omega) (fun i _ _ => by rw [nbk_7]; exact ⟨by omega, by decide⟩)
    have g1 : pkd 4 (nbk sr' 116) n.toNat = pkd 4 (nbk sr 116) n.toNat := pkd_congr n.toNat (fun i i0 i1 => by rw [b6 i i0 (by omega), if_neg (by omega)])
    have g2 : pkd 2 (nbk sr' 117) n.toNat = pkd 2 (nbk sr 117) n.toNat := pkd_congr n.toNat (fun i _ _ => by rw [nbk_7, nbk_7])
    rw [ni, g1, b6 n n0 n1, if_pos rfl] at q1
    rw [ni, g2, nbk_7] at q2
    refine ⟨?_, ?_⟩
    · rw [hsc, mu_ne (by omega), pm_03, dims, p1, b42, nn]; exact q1
    · rw [hsc, mu_ne (by omega), pm_04, dims, p2, b42, nn]; exact q2
  have cq : sc' q = sc q := co q (by omega) (by omega)
  refine ⟨⟨by rw [cq]; exact h1, by rw [cq, b4 4 (by omega) (by omega) (by omega), b4 3 (by omega) (by omega) (by omega)]; exact h2, ⟨fun r r0 r1 => ?_, by rw [cq]; exact h3', ?_⟩, by rw [cq]; exact h4, fun p p0 p1 => ?_, ⟨hFR, hFP⟩, fun k k0 k1 => ?_, ?_⟩, ⟨⟨⟨by rw [b0]; exact w1.1.1, by rw [b0]; exact w1.1.2.1, by rw [b1]; exact w1.1.2.2.1, by rw [b1]; exact w1.1.2.2.2.1, by rw [b42]; omega, by rw [b42]; omega, by rw [b0, b1]; exact w1.1.2.2.2.2.2.2.1, fun j j0 j1 => ?_⟩, fun c' z0 z1 => ?_, fun r r0 r1 => ?_⟩, by rw [b4 3 (by omega) (by omega) (by omega)]; exact w2, by rw [b4 4 (by omega) (by omega) (by omega)]; exact w3, fun r r0 r1 => ?_, fun k k0 k1 => by rw [b9 k k0 k1]; exact w5 k k0 k1, fun p p0 p1 => ?_⟩⟩
  · rw [b42] at r1
    rw [cq, b8 r r0 (by omega)]
    by_cases g : r = n
    · rw [if_pos g, g, Int.ediv_eq_zero_of_lt h3' h3'']; rfl
    · rw [if_neg g]; exact h3 r r0 (by rw [n2]; omega)
  · rw [cq, b42]
    have : (2 : Int) ^ (n + 1).toNat = 2 ^ n.toNat * 2 := by rw [show (n + 1).toNat = n.toNat + 1 by omega, Int.pow_succ]
    rw [this]; omega
  · rw [b4 3 (by omega) (by omega) (by omega)] at p1
    rw [co _ (by omega) (by omega), b20 p p0 (by omega)]; exact h5 p p0 p1
  · rw [co _ (by omega) (by omega), b9 k k0 k1]; exact h8 k k0 k1
  · rw [co (q + 10) (by omega) (by omega), co (q + 12) (by omega) (by omega), co (q + 16) (by omega) (by omega), co (q + 18) (by omega) (by omega), co (q + 20) (by omega) (by omega)]; exact h9
  · rw [b42] at j1
    by_cases g : 4 * n ≤ j ∧ j < 4 * n + 4
    · rw [b5n j g.1 g.2, (o5 j g.1 g.2).1]; exact (o5 j g.1 g.2).2
    · rw [b5o j j0 (by omega) g]; exact w1.1.2.2.2.2.2.2.2 j j0 (by rw [n2]; omega)
  · rw [b21 c' z0 z1, b42, b0, b1]
    by_cases g : c' = c
    · right
      rw [if_pos g, b6 n n0 n1, if_pos rfl, nbk_7, e0, e1, g]
      exact ⟨n0, by omega, rfl, by omega, by omega, cx, cy⟩
    · rw [if_neg g]
      rcases w1.2.1 c' z0 z1 with k | k
      · left; exact k
      · right
        rw [n2] at k
        rw [b6 _ k.1 (by omega), if_neg (by omega), nbk_7]
        refine ⟨k.1, by omega, k.2.2.1, by omega, by omega, k.2.2.2.2.2.1, k.2.2.2.2.2.2⟩
  · rw [b42] at r1
    rw [b6 r r0 (by omega)]
    by_cases g : r = n
    · rw [if_pos g, b21 c c0 c1, if_pos rfl]; exact ⟨c0, c1, g.symm⟩
    · rw [if_neg g]
      obtain ⟨u0, u1, u2⟩ := w1.2.2 r r0 (by rw [n2]; omega)
      rw [b21 _ u0 u1, if_neg (fun z => by rw [z, old21] at u2; omega)]
      exact ⟨u0, u1, u2⟩
  · rw [b42] at r1
    rw [b8 r r0 (by omega)]
    by_cases g : r = n
    · rw [if_pos g]; left; rfl
    · rw [if_neg g]; exact w4 r r0 (by rw [n2]; omega)
  · rw [b4 3 (by omega) (by omega) (by omega)] at p1
    rw [b42, b20 p p0 (by omega)]
    have := w6 p p0 p1
    rw [n2] at this
    omega
