-- PALACE: what holds after it
theorem Inv_gen {t t' : Int} {s s2 : iv_M} (hI : Inv t s) (ht : t ≤ t') (hn : NowS s2) (h03 : s2 0 3 = s 0 3) (hc : 0 ≤ s2 0 15 ∧ s2 0 15 ≤ 20 * t')
    (hrow : ∀ a, ((3 ≤ a ∧ a ≤ 8) ∨ a = 53 ∨ 174 ≤ a ∨ (140 ≤ a ∧ a ≤ 144) ∨ a = 153 ∨ a = 172 ∨ a = 173) → s2 a = s a)
    (h113 : ∀ i, (i = 32 ∨ i = 37 ∨ i = 56) → s2 113 i = s 113 i) (hT : Tp s2)
    (hH : HR s2 (now s2) s2) (hW : WH t' s2) (hf : s2 114 12 < s 0 3) (hO : OZ s2) (hMS : MeS s2) (hMR : MeR s2) : Inv t' s2 := by
  obtain ⟨h1, h2, h3, h4, h5, h6, h7, h8, h9, h10⟩ := hI
  refine ⟨hn, hH, hW, hT, ?_, fun k k0 k1 => ?_, hMS, hMR, ?_, hO⟩
  · obtain ⟨a1, a2, a3, a4, a5⟩ := h5
    refine ⟨by rw [h03, h113 32 (by omega)]; exact a1, by rw [h03]; exact a2, by rw [h03]; exact a3, by rw [h03]; exact hf, fun f f0 f1 => ?_⟩
    rw [h03] at f1
    obtain ⟨R, hR⟩ := a5 f f0 f1
    exact ⟨R, RUL_ext (hrow 140 (by omega)) (hrow 141 (by omega)) (hrow 142 (by omega)) (hrow 143 (by omega)) (hrow 144 (by omega)) (hrow _ (by omega)) hR⟩
  · have hi : img s2 k = img s k := by funext a i; unfold img; rw [hrow 172 (by omega)]
    unfold Im1
    rw [hrow 173 (by omega), hrow 53 (by omega), hi, h03]
    rcases h6 k k0 k1 with z | ⟨z1, q, z2, z3, z4, z5, z6, z7⟩
    · left; exact z
    · right; exact ⟨z1, q, z2, z3, z4, HR_ext (fun a x y => hrow a (by omega)) z5, WH_mono ht z6, z7⟩
  · obtain ⟨a1, a2, a3, a4⟩ := h9
    refine ⟨hc, by rw [h113 37 (by omega)]; exact a2, by rw [h113 56 (by omega)]; exact ⟨a3.1, by omega⟩, ?_⟩
    rw [h113 56 (by omega), hrow 153 (by omega)]; exact a4
theorem Tp_0 {s : iv_M} (h : s 0 1 = 0) (h2 : s 113 28 = 0) : Tp s := ⟨by rw [h, h2], by omega, by omega, fun i _ _ => by omega, fun i _ _ => by omega⟩
theorem ct_palace {t : Int} {N : Nat} {s : iv_M} (hN : 1000 ≤ N) (h : Inv t s) (t0 : 0 ≤ t) (t1 : t ≤ 1000) : ∃ a s1 s2, FX11_palace N s 0 = some (a, s1) ∧ FX12_palace N s1 113 = some (a, s2) ∧ Inv (t + 1) s2 := by
  have hI := h
  obtain ⟨h1, h2, h3, h4, h5, h6, h7, h8, h9, h10⟩ := h
  obtain ⟨m1, m2, m3⟩ := now_ne h1
  have hnow := (now_HQ h1).2.1
  have hq04 : (s 0 4).toNat = now s := rfl
  obtain ⟨q, hqd⟩ : ∃ q, q = (s 0 5).toNat := ⟨_, rfl⟩
  have hq : (q = 9 ∨ q = 31) ∧ q ≠ now s ∧ s 0 5 = q ∧ s 0 4 = now s := by
    unfold now
    rcases h1 with ⟨a, b⟩ | ⟨a, b⟩ <;> rw [hqd, a, b] <;> decide
  obtain ⟨hq1, hq2, hq3, hq4⟩ := hq
  have dj : (q + 21 < now s ∨ now s + 21 < q) := by omega
  obtain ⟨T1, T2, T3, T4, T5⟩ := id h4
  have hT : TX (s 1) (s 0 1) := ⟨T2, T3, T5⟩
  obtain ⟨⟨k0, k1⟩, k37, k56, kmk⟩ := id h9
  obtain ⟨sc, sr0, ft, a1, _, a3, _, _, a6, _, a8⟩ := pal_both (N := N) (q := q) (s := s) (r := s) (b := s 1) (L := s 0 1) hN hq1 hT (fun _ _ _ => rfl) T1.symm (fun i i0 i1 => (T4 i i0 i1).symm)
  have sc0 : sc 0 = s 0 := a3 0 (by decide) (by decide) (by omega)
  have c1 : FX11_palace N s 0 = (if sc 55 4 = 0 then some ((mu (mu (mu (mu (mu sc 0 1 0) q 7 (s (now s) 7)) 0 4 (q : Int)) 0 5 (now s : Int)) 0 15 (s 0 15 + 1)) (q + 1) 2, mu (mu (mu (mu (mu sc 0 1 0) q 7 (s (now s) 7)) 0 4 (q : Int)) 0 5 (now s : Int)) 0 15 (s 0 15 + 1)) else some (w32 (-2 - sc 55 4), mu sc 0 1 0)) := by
    unfold FX11_palace
    simp only [Nat.zero_add]
    rw [← hqd, a1, Option.bind_some]
    dsimp only
    rw [pt_ok, Option.bind_some]
    by_cases e : sc 55 4 = 0
    · rw [if_pos e, if_pos e]
      have e5 : (mu sc 0 1 0 0 5).toNat = q := by rw [mu_ne (by omega), sc0, ← hqd]
      have e4 : (mu sc 0 1 0 0 4).toNat = now s := by rw [mu_ne (by omega), sc0, hq04]
      have e7 : mu sc 0 1 0 (now s) 7 = s (now s) 7 := by rw [mu_rw (by omega), a3 _ (by omega) (by omega) (by omega)]
      rw [e5, e4, e7, pt_ok, Option.bind_some, pt_ok, Option.bind_some, pt_ok, Option.bind_some, pt_ok, Option.bind_some]
      have f5 : (mu (mu sc 0 1 0) q 7 (s (now s) 7) 0 5).toNat = q := by rw [mu_rw (by omega)]; exact e5
      have f4 : (mu (mu sc 0 1 0) q 7 (s (now s) 7) 0 4).toNat = now s := by rw [mu_rw (by omega)]; exact e4
      rw [f5, f4]
      have g15 : mu (mu (mu (mu sc 0 1 0) q 7 (s (now s) 7)) 0 4 (q : Int)) 0 5 (now s : Int) 0 15 = s 0 15 := by
        rw [mu_ne (by omega), mu_ne (by omega), mu_rw (by omega), mu_ne (by omega), sc0]
      rw [g15, w32_id (by omega) (by omega)]
      have g4 : (mu (mu (mu (mu (mu sc 0 1 0) q 7 (s (now s) 7)) 0 4 (q : Int)) 0 5 (now s : Int)) 0 15 (s 0 15 + 1) 0 4).toNat = q := by
        rw [mu_ne (by omega), mu_ne (by omega), mu_eq]; exact Int.toNat_natCast q
      rw [g4]
    · rw [if_neg e, if_neg e]
  by_cases e : sc 55 4 = 0
  rotate_left
  · -- refused
    rw [if_neg e] at c1
    obtain ⟨s1, hs1⟩ : ∃ s1, s1 = mu sc 0 1 0 := ⟨_, rfl⟩
    rw [← hs1] at c1
    have s1o : ∀ a, a ≠ 54 → a ≠ 55 → (a < q ∨ q + 21 < a) → a ≠ 0 → s1 a = s a := fun a u1 u2 u3 u4 => by rw [hs1, mu_rw u4]; exact a3 a u1 u2 u3
    obtain ⟨sc2, sr, ft2, b1, b2, b3, b4, b5, b6, b7, b8⟩ := pal_both (N := N) (q := q) (s := s) (r := s1) (b := s 1) (L := s 0 1) hN hq1 hT (fun _ _ _ => rfl) (by rw [s1o 113 (by decide) (by decide) (by omega) (by decide)]; exact T1.symm) (fun i i0 i1 => by rw [s1o 139 (by decide) (by decide) (by omega) (by decide)]; exact (T4 i i0 i1).symm)
    have : sc2 = sc := by rw [a1] at b1; injection b1 with b1; injection b1 with _ b1; exact b1.symm
    rw [this] at b3 b6 b8
    have ftp : 0 < ft2 ∧ ft2 ≤ 10000 := by
      rcases b8 with u | u
      · rw [u.1] at b6; exact absurd b6 e
      · exact u
    obtain ⟨s2, hs2⟩ : ∃ s2, s2 = mu sr 113 28 0 := ⟨_, rfl⟩
    have s2f : s2 113 30 = ft2 := by rw [hs2, mu_ne (by omega)]; exact b7
    refine ⟨w32 (-2 - sc 55 4), s1, s2, c1, ?_, ?_⟩
    · unfold FX12_palace
      rw [b2, Option.bind_some, ← hs2, if_neg (by omega), s2f, b6]
    have s2o : ∀ a, a ≠ 113 → (a < 132 ∨ 138 < a) → a ≠ 54 → a ≠ 55 → (a < q ∨ q + 21 < a) → a ≠ 0 → s2 a = s a := fun a u0 u1 u2 u3 u4 u5 => by rw [hs2, mu_rw u0, b4 a u0 u1, s1o a u2 u3 u4 u5]
    have s2i : ∀ i, i ≠ 28 → i ≠ 29 → i ≠ 30 → i ≠ 33 → i ≠ 34 → i ≠ 35 → i ≠ 38 → s2 113 i = s 113 i := fun i u0 u1 u2 u3 u4 u5 u6 => by rw [hs2, mu_ne (by omega), b5 i u1 u2 u3 u4 u5 u6, s1o 113 (by decide) (by decide) (by omega) (by decide)]
    have s20 : ∀ i, i ≠ 1 → s2 0 i = s 0 i := fun i hi => by rw [hs2, mu_rw (by decide), b4 0 (by decide) (by omega), hs1, mu_ne (by omega), sc0]
    have s201 : s2 0 1 = 0 := by rw [hs2, mu_rw (by decide), b4 0 (by decide) (by omega), hs1, mu_eq]
    have hE : Eb s s2 := fun a u0 u1 => s2o a (by omega) (by omega) (by omega) (by omega) (by omega) (by omega)
    have hnw : now s2 = now s := by unfold now; rw [s20 4 (by omega)]
    have me := Me_tr ⟨h7, h8⟩ (Er.of_eb hE) (s20 15 (by omega)) ⟨by rw [s2o 81 (by decide) (by omega) (by decide) (by decide) (by omega) (by decide)], by rw [s2o 81 (by decide) (by omega) (by decide) (by decide) (by omega) (by decide)]⟩ (fun a ha => s2o a (by omega) (by omega) (by omega) (by omega) (by omega) (by omega))
    refine Inv_gen hI (by omega) ?_ (s20 3 (by omega)) (by rw [s20 15 (by omega)]; omega) (fun a ha => s2o a (by omega) (by omega) (by omega) (by omega) (by omega) (by omega)) (fun i hi => s2i i (by omega) (by omega) (by omega) (by omega) (by omega) (by omega) (by omega)) (Tp_0 s201 (by rw [hs2, mu_eq])) ?_ (WH_mono (by omega) (WH_eb hE h3)) (by rw [hE 114 (by omega) (by omega)]; exact h5.2.2.2.1) (fun a u0 u1 i hi => by rw [hE a u0 u1]; exact h10 a u0 u1 i hi) me.1 me.2
    · unfold NowS at h1 ⊢; rw [s20 4 (by omega), s20 5 (by omega)]; exact h1
    · rw [hnw]; exact HR_eb hE (HR_ext (fun a u0 u1 => s2o a (by omega) (by omega) (by omega) (by omega) (by omega) (by omega)) h2)
  -- told
  rw [if_pos e] at c1
  obtain ⟨s1, hs1⟩ : ∃ s1, s1 = mu (mu (mu (mu (mu sc 0 1 0) q 7 (s (now s) 7)) 0 4 (q : Int)) 0 5 (now s : Int)) 0 15 (s 0 15 + 1) := ⟨_, rfl⟩
  rw [← hs1] at c1
  have s1o : ∀ a, a ≠ 54 → a ≠ 55 → (a < q ∨ q + 21 < a) → a ≠ 0 → s1 a = s a := fun a u1 u2 u3 u4 => by rw [hs1, mu_rw u4, mu_rw u4, mu_rw u4, mu_rw (by omega), mu_rw u4]; exact a3 a u1 u2 u3
  obtain ⟨sc2, sr, ft2, b1, b2, b3, b4, b5, b6, b7, b8⟩ := pal_both (N := N) (q := q) (s := s) (r := s1) (b := s 1) (L := s 0 1) hN hq1 hT (fun _ _ _ => rfl) (by rw [s1o 113 (by decide) (by decide) (by omega) (by decide)]; exact T1.symm) (fun i i0 i1 => by rw [s1o 139 (by decide) (by decide) (by omega) (by decide)]; exact (T4 i i0 i1).symm)
  have : sc2 = sc := by rw [a1] at b1; injection b1 with b1; injection b1 with _ b1; exact b1.symm
  rw [this] at b3 b6 b8
  have f0 : ft2 = 0 := by omega
  obtain ⟨hHP, hWP, hcol⟩ : HP sc q (nbk sr) ∧ WP (nbk sr) ∧ 0 < sr 132 0 := by
    rcases b8 with u | u
    · exact u.2
    · omega
  obtain ⟨z, hz⟩ : ∃ z, z = mu sr 113 28 0 := ⟨_, rfl⟩
  have zo : ∀ a, a ≠ 113 → z a = sr a := fun a ha => by rw [hz, mu_rw ha]
  have znb : nbk z = nbk sr := nbk_ext (fun a u0 u1 => zo a (by omega))
  have zE : ∀ a, 114 ≤ a → a ≤ 131 → z a = s a := fun a u0 u1 => by rw [zo a (by omega), b4 a (by omega) (by omega), s1o a (by omega) (by omega) (by omega) (by omega)]
  have zO : OZ z := fun a u0 u1 i hi => by rw [zE a u0 u1]; exact h10 a u0 u1 i hi
  obtain ⟨s2, d1, d2, d3, d4⟩ := takes_over (N := N) (z := z) (by omega) zO (by rw [hz, mu_ne (by omega), b7, f0])
  rw [znb] at d1 d2 d3
  have rf : FX12_palace N s1 113 = some (nbk sr 114 2, s2) := by
    unfold FX12_palace
    rw [b2, Option.bind_some, ← hz]
    exact d1
  have s2o : ∀ a, a ≠ 113 → (a < 114 ∨ 138 < a) → a ≠ 54 → a ≠ 55 → (a < q ∨ q + 21 < a) → a ≠ 0 → s2 a = s a := fun a u0 u1 u2 u3 u4 u5 => by rw [d4 a (by omega), zo a u0, b4 a u0 (by omega), s1o a u2 u3 u4 u5]
  have s2z : ∀ a, (a < 114 ∨ 138 < a) → a ≠ 113 → s2 a = s1 a := fun a u0 u1 => by rw [d4 a (by omega), zo a u1, b4 a u1 (by omega)]
  have s2i : ∀ i, i ≠ 28 → i ≠ 29 → i ≠ 30 → i ≠ 33 → i ≠ 34 → i ≠ 35 → i ≠ 38 → s2 113 i = s 113 i := fun i u0 u1 u2 u3 u4 u5 u6 => by rw [d4 113 (by omega), hz, mu_ne (by omega), b5 i u1 u2 u3 u4 u5 u6, s1o 113 (by decide) (by decide) (by omega) (by decide)]
  have s204 : s2 0 4 = q := by rw [s2z 0 (by omega) (by decide), hs1, mu_ne (by omega), mu_ne (by omega), mu_eq]
  have s205 : s2 0 5 = now s := by rw [s2z 0 (by omega) (by decide), hs1, mu_ne (by omega), mu_eq]
  have s2015 : s2 0 15 = s 0 15 + 1 := by rw [s2z 0 (by omega) (by decide), hs1, mu_eq]
  have s201 : s2 0 1 = 0 := by rw [s2z 0 (by omega) (by decide), hs1, mu_ne (by omega), mu_ne (by omega), mu_ne (by omega), mu_rw (by omega), mu_eq]
  have s203 : s2 0 3 = s 0 3 := by rw [s2z 0 (by omega) (by decide), hs1, mu_ne (by omega), mu_ne (by omega), mu_ne (by omega), mu_rw (by omega), mu_ne (by omega), sc0]
  have nw2 : now s2 = q := by unfold now; rw [s204]; exact Int.toNat_natCast q
  -- the house
  have cq : ∀ a, q < a → a ≤ q + 21 → s2 a = sc a := fun a u0 u1 => by
    rw [s2z a (by omega) (by omega), hs1, mu_rw (by omega), mu_rw (by omega), mu_rw (by omega), mu_rw (by omega), mu_rw (by omega)]
  have cqi : ∀ i, i ≠ 7 → s2 q i = sc q i := fun i hi => by
    rw [s2z q (by omega) (by omega), hs1, mu_rw (by omega), mu_rw (by omega), mu_rw (by omega), mu_ne (by omega), mu_rw (by omega)]
  have cq7 : s2 q 7 = s (now s) 7 := by
    rw [s2z q (by omega) (by omega), hs1, mu_rw (by omega), mu_rw (by omega), mu_rw (by omega), mu_eq]
  have e5 : ∀ i, i ≠ 13 → s2 114 i = nbk sr 114 i := fun i hi => by rw [d2 i, if_neg hi]
  have e13 : s2 114 13 = s 114 13 := by rw [d2 13, if_pos rfl, zE 114 (by omega) (by omega)]
  have nz : ∀ i, 5 ≤ i → i < 14 → i ≠ 12 → nbk sr 114 i = 0 := fun i i0 i1 i2 => by
    have l14 : ln 114 = 14 := by decide
    unfold nbk; rw [if_pos (by omega), if_pos rfl, if_neg (by omega), if_neg i2]
  have nz12 : nbk sr 114 12 = -1 := by
    have l14 : ln 114 = 14 := by decide
    unfold nbk; rw [if_pos (by omega), if_pos rfl, if_neg (by omega), if_pos rfl]
  have ew : Ew (nbk sr) s2 := ⟨e5 0 (by omega), e5 1 (by omega), e5 2 (by omega), d3 115 (by omega) (by omega), d3 116 (by omega) (by omega), d3 117 (by omega) (by omega), d3 121 (by omega) (by omega)⟩
  obtain ⟨g1, g2, ⟨g3, g3', g3''⟩, ⟨g4, g5, g6, g8⟩, g9, ⟨gF, gP⟩, gk, gp1, gp2, gp3, gp4, gp5⟩ := hHP
  obtain ⟨w1, w2, w3, w4, w5, w6⟩ := hWP
  have n2 : nbk sr 114 2 ≤ 12 := w1.1.2.2.2.2.2.1
  have n20 : 0 ≤ nbk sr 114 2 := w1.1.2.2.2.2.1
  have b114 : 0 < s2 114 0 := by rw [e5 0 (by omega), nbk_4 (by omega) (by omega)]; exact hcol
  have s24 : s2 114 5 = 0 ∧ s2 114 6 = 0 ∧ s2 114 7 = 0 ∧ s2 114 8 = 0 ∧ s2 114 9 = 0 ∧ s2 114 10 = 0 ∧ s2 114 11 = 0 := ⟨by rw [e5 5 (by omega), nz 5 (by omega) (by omega) (by omega)], by rw [e5 6 (by omega), nz 6 (by omega) (by omega) (by omega)], by rw [e5 7 (by omega), nz 7 (by omega) (by omega) (by omega)], by rw [e5 8 (by omega), nz 8 (by omega) (by omega) (by omega)], by rw [e5 9 (by omega), nz 9 (by omega) (by omega) (by omega)], by rw [e5 10 (by omega), nz 10 (by omega) (by omega) (by omega)], by rw [e5 11 (by omega), nz 11 (by omega) (by omega) (by omega)]⟩
  obtain ⟨v5, v6, v7, v8, v9, v10, v11⟩ := s24
  have v12 : s2 114 12 = -1 := by rw [e5 12 (by omega), nz12]
  have hs7 : s (now s) 7 = s 114 13 := h2.1.2.2.2.2.2.2.1
  have two12 : (2 : Int) ^ (nbk sr 114 2).toNat ≤ 4096 := by
    have h1' : (2 : Nat) ^ (nbk sr 114 2).toNat ≤ 2 ^ 12 := Nat.pow_le_pow_right (by decide) (by omega)
    have h2' : ((2 ^ (nbk sr 114 2).toNat : Nat) : Int) ≤ ((2 ^ 12 : Nat) : Int) := by omega
    simpa using h2'
  have hHR : HR s2 q s2 := by
    refine ⟨⟨?_, ⟨?_, ?_, fun r r0 r1 => ?_, ?_, fun p p0 p1 => ?_⟩, ?_, ?_, ?_, ?_, ?_, ?_⟩, ⟨ew_FRc ew (FRc_ext (fun a u0 u1 => cq a (by omega) (by omega)) gF), ew_FP ew (FP_ext (cq (q + 1) (by omega) (by omega)) gP)⟩, fun k k0 k1 => ?_, ⟨?_, ?_, fun j j0 j1 => by omega⟩, fun k k0 k1 hk => ?_, ⟨?_, fun j j0 j1 => by omega, ?_, fun j j0 j1 => by omega, ?_, fun j j0 j1 => by omega⟩⟩
    · rw [cqi 0 (by omega), g1, if_pos b114]
    · rw [cqi 1 (by omega), e5 4 (by omega)]; exact g2.1
    · rw [cqi 2 (by omega), e5 3 (by omega)]; exact g2.2
    · rw [e5 2 (by omega)] at r1
      rw [cqi 3 (by omega), d3 118 (by omega) (by omega)]; exact g3 r r0 r1
    · rw [cqi 4 (by omega), v5]; exact g4
    · rw [e5 3 (by omega)] at p1
      rw [cq (q + 9) (by omega) (by omega), d3 120 (by omega) (by omega)]; exact g9 p p0 p1
    · rw [cqi 3 (by omega)]; exact g3'
    · rw [cqi 3 (by omega)]; omega
    · rw [cqi 5 (by omega), v12]; exact g5
    · rw [cqi 6 (by omega), v6]; exact g6
    · rw [cq7, e13]; exact hs7
    · rw [cqi 8 (by omega), v11]; exact g8
    · rw [cq (q + 8) (by omega) (by omega), d3 119 (by omega) (by omega)]; exact gk k k0 k1
    · rw [cq (q + 10) (by omega) (by omega), v7]; exact gp1
    · rw [cq (q + 12) (by omega) (by omega), v7]; exact gp2
    · rw [v11, Int.zero_ediv] at hk; exact absurd hk (by decide)
    · rw [cq (q + 16) (by omega) (by omega), v8]; exact gp3
    · rw [cq (q + 18) (by omega) (by omega), v9]; exact gp4
    · rw [cq (q + 20) (by omega) (by omega), v10]; exact gp5
  obtain ⟨_, ⟨_, _, _, _, _, _, _, _, _, _, p13, _⟩, _⟩ := id h3
  have hWH : WH (t + 1) s2 := by
    refine ⟨ew_Wf ew w1, ⟨by rw [e5 3 (by omega)]; exact w2, by rw [e5 4 (by omega)]; exact w3, by omega, by omega, by omega, by omega, by omega, by omega, by omega, by omega, by rw [e13]; exact p13, fun u => by omega⟩, fun r r0 r1 => ?_, fun k k0 k1 => ?_, fun p p0 p1 => ?_, fun j j0 j1 => by omega, fun k k0 k1 hk => ?_, fun j j0 j1 => by omega, fun j j0 j1 => by omega, fun j j0 j1 => by omega⟩
    · rw [e5 2 (by omega)] at r1
      rw [d3 118 (by omega) (by omega)]; exact w4 r r0 r1
    · rw [d3 119 (by omega) (by omega)]; exact w5 k k0 k1
    · rw [e5 3 (by omega)] at p1
      rw [d3 120 (by omega) (by omega), e5 2 (by omega)]; exact w6 p p0 p1
    · rw [v11, Int.zero_ediv] at hk; exact absurd hk (by decide)
  have me := Me_bump (s2 := s2) ⟨h7, h8⟩ (by rw [s2o 64 (by decide) (by omega) (by decide) (by decide) (by omega) (by decide)]) (by rw [s2o 81 (by decide) (by omega) (by decide) (by decide) (by omega) (by decide)]) (by rw [s2015]; omega)
  refine ⟨nbk sr 114 2, s1, s2, ?_, rf, Inv_gen hI (by omega) ?_ s203 (by rw [s2015]; omega) (fun a ha => s2o a (by omega) (by omega) (by omega) (by omega) (by omega) (by omega)) (fun i hi => s2i i (by omega) (by omega) (by omega) (by omega) (by omega) (by omega) (by omega)) (Tp_0 s201 (by rw [d4 113 (by omega), hz, mu_eq])) (by rw [nw2]; exact hHR) hWH (by rw [v12]; have := h5.2.1; omega) (fun a u0 u1 i hi => ?_) me.1 me.2⟩
  · rw [c1]
    have : s1 (q + 1) 2 = nbk sr 114 2 := by rw [← s2z (q + 1) (by omega) (by omega), cq (q + 1) (by omega) (by omega)]; exact gF.2.2.1
    rw [this]
  · unfold NowS at h1 ⊢
    rw [s204, s205]
    unfold now at hq2 ⊢
    rcases h1 with ⟨a, b⟩ | ⟨a, b⟩
    · right; rw [a]; rw [b] at hq3; exact ⟨by omega, rfl⟩
    · left; rw [a]; rw [b] at hq3; exact ⟨by omega, rfl⟩
  · by_cases c4 : a = 114
    · subst c4
      have l14 : ln 114 = 14 := by decide
      rw [e5 i (by omega)]; unfold nbk; rw [if_neg hi]
    · by_cases c5 : a ≤ 121
      · rw [d3 a (by omega) c5]; unfold nbk; rw [if_neg hi]
      · rw [d4 a (by omega)]; exact zO a u0 u1 i hi
