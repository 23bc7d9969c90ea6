-- THE TAPE
theorem Inv_tp {t t' : Int} {s s2 : iv_M} (hI : Inv t s) (ht : t ≤ t') (h0 : ∀ i, i ≠ 1 → s2 0 i = s 0 i) (h113 : ∀ i, i ≠ 28 → s2 113 i = s 113 i) (hrow : ∀ a, a ≠ 0 → a ≠ 1 → a ≠ 113 → a ≠ 139 → s2 a = s a) (hT : Tp s2) : Inv t' s2 := by
  have hI' := HR1_mono ht hI
  obtain ⟨h1, h2, h3, h4, h5, h6, h7, h8, h9, h10⟩ := hI'
  have hn : now s2 = now s := by unfold now; rw [h0 4 (by omega)]
  obtain ⟨n1, n2, n3⟩ := now_ne h1
  have hE : Eb s s2 := fun a a0 a1 => hrow a (by omega) (by omega) (by omega) (by omega)
  refine ⟨?_, ?_, WH_eb hE h3, hT, ?_, fun k k0 k1 => ?_, ?_, ?_, ?_, ?_⟩
  · unfold NowS at h1 ⊢; rw [h0 4 (by omega), h0 5 (by omega)]; exact h1
  · rw [hn]; exact HR_eb hE (HR_ext (fun a x y => hrow a (by omega) (by omega) (by omega) (by omega)) h2)
  · obtain ⟨a1, a2, a3, a4, a5⟩ := h5
    refine ⟨by rw [h0 3 (by omega), h113 32 (by omega)]; exact a1, by rw [h0 3 (by omega)]; exact a2, by rw [h0 3 (by omega)]; exact a3, by rw [h0 3 (by omega), hE 114 (by omega) (by omega)]; exact a4, fun f f0 f1 => ?_⟩
    rw [h0 3 (by omega)] at f1
    obtain ⟨R, hR⟩ := a5 f f0 f1
    exact ⟨R, RUL_ext (hrow 140 (by omega) (by omega) (by omega) (by omega)) (hrow 141 (by omega) (by omega) (by omega) (by omega)) (hrow 142 (by omega) (by omega) (by omega) (by omega)) (hrow 143 (by omega) (by omega) (by omega) (by omega)) (hrow 144 (by omega) (by omega) (by omega) (by omega)) (hrow _ (by omega) (by omega) (by omega) (by omega)) hR⟩
  · have hi : img s2 k = img s k := by funext a i; unfold img; rw [hrow 172 (by omega) (by omega) (by omega) (by omega)]
    unfold Im1
    rw [hrow 173 (by omega) (by omega) (by omega) (by omega), hrow 53 (by omega) (by omega) (by omega) (by omega), hi, h0 3 (by omega)]
    rcases h6 k k0 k1 with z | ⟨z1, q, z2, z3, z4, z5, z6, z7⟩
    · left; exact z
    · right; exact ⟨z1, q, z2, z3, z4, HR_ext (fun a x y => hrow a (by omega) (by omega) (by omega) (by omega)) z5, z6, z7⟩
  · exact (Me_er (Er.of_eb hE) (fun a ha => hrow a (by omega) (by omega) (by omega) (by omega)) (h0 15 (by omega)) ⟨h7, h8⟩).1
  · exact (Me_er (Er.of_eb hE) (fun a ha => hrow a (by omega) (by omega) (by omega) (by omega)) (h0 15 (by omega)) ⟨h7, h8⟩).2
  · unfold Mk at h9 ⊢; rw [h0 15 (by omega), h113 37 (by omega), h113 56 (by omega), hrow 153 (by omega) (by omega) (by omega) (by omega)]; exact h9
  · intro a a0 a1 i hi; rw [hE a a0 a1]; exact h10 a a0 a1 i hi
def by4 (x k : Int) : Int := w8 (w8 (sr32 x (24 - 8 * k)))
theorem w8_rng (x : Int) : -128 ≤ w8 x ∧ w8 x < 128 := by
  unfold w8
  have h1 := Int.le_bmod (x := x) (m := 256) (by decide)
  have h2 := Int.bmod_lt (x := x) (m := 256) (by decide)
  omega
theorem put_c {N : Nat} {s : iv_M} {x L : Int} (hN : 100 ≤ N) (hL : s 0 1 = L) (l0 : 0 ≤ L) (l1 : L + 4 ≤ 400) : ∃ s', FX11_putBytes N s 0 x = some s' ∧ s' 0 1 = L + 4 ∧ (∀ i, s' 1 i = if L ≤ i ∧ i < L + 4 then by4 x (i - L) else s 1 i) ∧ (∀ i, i ≠ 1 → s' 0 i = s 0 i) ∧ ∀ a, a ≠ 0 → a ≠ 1 → s' a = s a := by
  have st : ∀ (n : Nat) (s : iv_M) (k m : Int), s 0 1 = m → 0 ≤ m → m < 400 → 0 ≤ k → k ≤ 3 → FX11_putBytes_l3 N 0 x (fun (s_1750 : iv_M) => (FX11_putBytes_b46 N s_1750)) (n + 1) s (24 - 8 * k) = FX11_putBytes_l3 N 0 x (fun (s_1750 : iv_M) => (FX11_putBytes_b46 N s_1750)) n (mu (mu s 1 m (by4 x k)) 0 1 (m + 1)) (24 - 8 * (k + 1)) := by
    intro n s k m hm m0 m1 k0 k1
    rw [FX11_putBytes_l3, if_neg (by omega), hm, if_neg (by omega)]
    simp only [Nat.reduceAdd]
    rw [wr_ok m0 m1, Option.bind_some, pt_ok, Option.bind_some, mu_ne (by omega), hm, w32_id (by omega) (by omega), w32_id (by omega) (by omega), show 24 - 8 * k + -8 = 24 - 8 * (k + 1) by omega]
    rfl
  obtain ⟨M, hM⟩ : ∃ M, N = M + 5 := ⟨N - 5, by omega⟩
  have e0 := st (M + 4) s 0 L hL (by omega) (by omega) (by omega) (by omega)
  have e1 := st (M + 3) (mu (mu s 1 L (by4 x 0)) 0 1 (L + 1)) 1 (L + 1) mu_eq (by omega) (by omega) (by omega) (by omega)
  have e2 := st (M + 2) (mu (mu (mu (mu s 1 L (by4 x 0)) 0 1 (L + 1)) 1 (L + 1) (by4 x 1)) 0 1 (L + 1 + 1)) 2 (L + 1 + 1) mu_eq (by omega) (by omega) (by omega) (by omega)
  have e3 := st (M + 1) (mu (mu (mu (mu (mu (mu s 1 L (by4 x 0)) 0 1 (L + 1)) 1 (L + 1) (by4 x 1)) 0 1 (L + 1 + 1)) 1 (L + 1 + 1) (by4 x 2)) 0 1 (L + 1 + 1 + 1)) 3 (L + 1 + 1 + 1) mu_eq (by omega) (by omega) (by omega) (by omega)
  rw [show M + 4 + 1 = N by omega] at e0
  have fin : FX11_putBytes_l3 N 0 x (fun (s_1750 : iv_M) => (FX11_putBytes_b46 N s_1750)) (M + 1) (mu (mu (mu (mu (mu (mu (mu (mu s 1 L (by4 x 0)) 0 1 (L + 1)) 1 (L + 1) (by4 x 1)) 0 1 (L + 1 + 1)) 1 (L + 1 + 1) (by4 x 2)) 0 1 (L + 1 + 1 + 1)) 1 (L + 1 + 1 + 1) (by4 x 3)) 0 1 (L + 1 + 1 + 1 + 1)) (24 - 8 * (3 + 1)) = some (mu (mu (mu (mu (mu (mu (mu (mu s 1 L (by4 x 0)) 0 1 (L + 1)) 1 (L + 1) (by4 x 1)) 0 1 (L + 1 + 1)) 1 (L + 1 + 1) (by4 x 2)) 0 1 (L + 1 + 1 + 1)) 1 (L + 1 + 1 + 1) (by4 x 3)) 0 1 (L + 1 + 1 + 1 + 1)) := by rw [FX11_putBytes_l3, if_pos (by omega)]; rfl
  refine ⟨mu (mu (mu (mu (mu (mu (mu (mu s 1 L (by4 x 0)) 0 1 (L + 1)) 1 (L + 1) (by4 x 1)) 0 1 (L + 1 + 1)) 1 (L + 1 + 1) (by4 x 2)) 0 1 (L + 1 + 1 + 1)) 1 (L + 1 + 1 + 1) (by4 x 3)) 0 1 (L + 1 + 1 + 1 + 1), e0.trans (e1.trans (e2.trans (e3.trans fin))), ?_, fun i => ?_, fun i hi => ?_, fun a x y => ?_⟩
  · rw [mu_eq]; omega
  · rw [mu_ne (by omega)]
    by_cases c : L ≤ i ∧ i < L + 4
    · rw [if_pos c]
      have : i = L ∨ i = L + 1 ∨ i = L + 1 + 1 ∨ i = L + 1 + 1 + 1 := by omega
      rcases this with z | z | z | z
      · rw [z]; simp (disch := omega) only [mu_ne, mu_eq]; rw [show L - L = 0 by omega]
      · rw [z]; simp (disch := omega) only [mu_ne, mu_eq]; rw [show L + 1 - L = 1 by omega]
      · rw [z]; simp (disch := omega) only [mu_ne, mu_eq]; rw [show L + 1 + 1 - L = 2 by omega]
      · rw [z]; simp (disch := omega) only [mu_eq]; rw [show L + 1 + 1 + 1 - L = 3 by omega]
    · rw [if_neg c]; simp (disch := omega) only [mu_ne]
  · simp (disch := omega) only [mu_ne]
  · simp (disch := omega) only [mu_rw]
theorem put_r {N : Nat} {s : iv_M} {x L : Int} (hN : 100 ≤ N) (hL : s 113 28 = L) (l0 : 0 ≤ L) (l1 : L + 4 ≤ 400) : ∃ s', FX12_put N s 113 x = some s' ∧ s' 113 28 = L + 4 ∧ (∀ i, s' 139 i = if L ≤ i ∧ i < L + 4 then by4 x (i - L) else s 139 i) ∧ (∀ i, i ≠ 28 → s' 113 i = s 113 i) ∧ ∀ a, a ≠ 113 → a ≠ 139 → s' a = s a := by
  have st : ∀ (n : Nat) (s : iv_M) (k m : Int), s 113 28 = m → 0 ≤ m → m < 400 → 0 ≤ k → k ≤ 3 → FX12_put_l3 N 113 x (fun (s_2373 : iv_M) => some s_2373) (n + 1) s (24 - 8 * k) = FX12_put_l3 N 113 x (fun (s_2373 : iv_M) => some s_2373) n (mu (mu s 139 m (by4 x k)) 113 28 (m + 1)) (24 - 8 * (k + 1)) := by
    intro n s k m hm m0 m1 k0 k1
    rw [FX12_put_l3, if_neg (by omega), hm]
    simp only [Nat.reduceAdd]
    rw [wr_ok m0 m1, Option.bind_some, pt_ok, Option.bind_some, mu_ne (by omega), hm, w32_id (by omega) (by omega), w32_id (by omega) (by omega), show 24 - 8 * k + -8 = 24 - 8 * (k + 1) by omega]
    rfl
  obtain ⟨M, hM⟩ : ∃ M, N = M + 5 := ⟨N - 5, by omega⟩
  have e0 := st (M + 4) s 0 L hL (by omega) (by omega) (by omega) (by omega)
  have e1 := st (M + 3) (mu (mu s 139 L (by4 x 0)) 113 28 (L + 1)) 1 (L + 1) mu_eq (by omega) (by omega) (by omega) (by omega)
  have e2 := st (M + 2) (mu (mu (mu (mu s 139 L (by4 x 0)) 113 28 (L + 1)) 139 (L + 1) (by4 x 1)) 113 28 (L + 1 + 1)) 2 (L + 1 + 1) mu_eq (by omega) (by omega) (by omega) (by omega)
  have e3 := st (M + 1) (mu (mu (mu (mu (mu (mu s 139 L (by4 x 0)) 113 28 (L + 1)) 139 (L + 1) (by4 x 1)) 113 28 (L + 1 + 1)) 139 (L + 1 + 1) (by4 x 2)) 113 28 (L + 1 + 1 + 1)) 3 (L + 1 + 1 + 1) mu_eq (by omega) (by omega) (by omega) (by omega)
  rw [show M + 4 + 1 = N by omega] at e0
  have fin : FX12_put_l3 N 113 x (fun (s_2373 : iv_M) => some s_2373) (M + 1) (mu (mu (mu (mu (mu (mu (mu (mu s 139 L (by4 x 0)) 113 28 (L + 1)) 139 (L + 1) (by4 x 1)) 113 28 (L + 1 + 1)) 139 (L + 1 + 1) (by4 x 2)) 113 28 (L + 1 + 1 + 1)) 139 (L + 1 + 1 + 1) (by4 x 3)) 113 28 (L + 1 + 1 + 1 + 1)) (24 - 8 * (3 + 1)) = some (mu (mu (mu (mu (mu (mu (mu (mu s 139 L (by4 x 0)) 113 28 (L + 1)) 139 (L + 1) (by4 x 1)) 113 28 (L + 1 + 1)) 139 (L + 1 + 1) (by4 x 2)) 113 28 (L + 1 + 1 + 1)) 139 (L + 1 + 1 + 1) (by4 x 3)) 113 28 (L + 1 + 1 + 1 + 1)) := by rw [FX12_put_l3, if_pos (by omega)]
  refine ⟨mu (mu (mu (mu (mu (mu (mu (mu s 139 L (by4 x 0)) 113 28 (L + 1)) 139 (L + 1) (by4 x 1)) 113 28 (L + 1 + 1)) 139 (L + 1 + 1) (by4 x 2)) 113 28 (L + 1 + 1 + 1)) 139 (L + 1 + 1 + 1) (by4 x 3)) 113 28 (L + 1 + 1 + 1 + 1), e0.trans (e1.trans (e2.trans (e3.trans fin))), ?_, fun i => ?_, fun i hi => ?_, fun a x y => ?_⟩
  · rw [mu_eq]; omega
  · rw [mu_ne (by omega)]
    by_cases c : L ≤ i ∧ i < L + 4
    · rw [if_pos c]
      have : i = L ∨ i = L + 1 ∨ i = L + 1 + 1 ∨ i = L + 1 + 1 + 1 := by omega
      rcases this with z | z | z | z
      · rw [z]; simp (disch := omega) only [mu_ne, mu_eq]; rw [show L - L = 0 by omega]
      · rw [z]; simp (disch := omega) only [mu_ne, mu_eq]; rw [show L + 1 - L = 1 by omega]
      · rw [z]; simp (disch := omega) only [mu_ne, mu_eq]; rw [show L + 1 + 1 - L = 2 by omega]
      · rw [z]; simp (disch := omega) only [mu_eq]; rw [show L + 1 + 1 + 1 - L = 3 by omega]
    · rw [if_neg c]; simp (disch := omega) only [mu_ne]
  · simp (disch := omega) only [mu_ne]
  · simp (disch := omega) only [mu_rw]
theorem t_end {t : Int} {N : Nat} {s : iv_M} {x : Int} (h : Inv t s) (t0 : 0 ≤ t) : ∃ a s1 s2, FX11_end N s 0 x = some (a, s1) ∧ FX12_end N s1 113 x = some (a, s2) ∧ Inv (t + 1) s2 := by
  have hI := h
  obtain ⟨h1, h2, h3, ⟨p1, p2, p3, p4, p5⟩, _⟩ := h
  unfold FX11_end FX11_end_b12
  have no : ∀ s', s' = s → (x < 0 ∨ s 0 1 < x) → ∃ a s1 s2, some ((-1 : Int), s') = some (a, s1) ∧ FX12_end N s1 113 x = some (a, s2) ∧ Inv (t + 1) s2 := by
    intro s' e hc
    subst e
    refine ⟨-1, s', s', rfl, ?_, HR1_mono (by omega) hI⟩
    unfold FX12_end FX12_end_b12
    by_cases c : x < 0
    · rw [if_pos c]
    · rw [if_neg c, if_neg (by omega)]
  by_cases e1 : x < 0
  · rw [if_pos e1]; exact no s rfl (Or.inl e1)
  rw [if_neg e1]
  by_cases e2 : x ≤ s 0 1
  · rw [if_pos e2, pt_ok, Option.bind_some]
    refine ⟨x, mu s 0 1 x, mu (mu s 0 1 x) 113 28 x, rfl, ?_, ?_⟩
    · unfold FX12_end
      rw [if_neg e1, mu_ne (by omega), if_pos (by omega), pt_ok, Option.bind_some]
    · refine Inv_tp hI (by omega) (fun i hi => by rw [mu_ne (by omega), mu_ne (by omega)]) (fun i hi => by rw [mu_ne (by omega), mu_ne (by omega)]) (fun a a1 a2 a3 a4 => by rw [mu_rw a3, mu_rw a1]) ⟨?_, ?_, ?_, ?_, ?_⟩
      · rw [mu_eq, mu_ne (by omega), mu_eq]
      · rw [mu_ne (by omega), mu_eq]; omega
      · rw [mu_ne (by omega), mu_eq]; omega
      · rw [mu_ne (by omega), mu_eq]
        intro i i0 i1
        simp (disch := omega) only [mu_ne]
        exact p4 i i0 (by omega)
      · rw [mu_ne (by omega), mu_eq]
        intro i i0 i1
        simp (disch := omega) only [mu_ne]
        exact p5 i i0 (by omega)
  · rw [if_neg e2]; exact no s rfl (Or.inr (by omega))
theorem if_base {p : Prop} [Decidable p] {a b c : Int} (h : ¬ p → b = c) : (if p then a else b) = (if p then a else c) := by
  split
  · rfl
  · next z => exact h z
theorem if_rng {p : Prop} [Decidable p] {a b : Int} (ha : -128 ≤ a ∧ a < 128) (hb : ¬ p → -128 ≤ b ∧ b < 128) : -128 ≤ (if p then a else b) ∧ (if p then a else b) < 128 := by
  split
  · exact ha
  · next z => exact hb z
theorem feed_lt {L i : Int} (n1 : ¬ (L ≤ i ∧ i < L + 4)) (n2 : ¬ (L + 4 ≤ i ∧ i < L + 4 + 4)) (n3 : ¬ (L + 4 + 4 ≤ i ∧ i < L + 4 + 4 + 4)) (n4 : ¬ (L + 4 + 4 + 4 ≤ i ∧ i < L + 4 + 4 + 4 + 4)) (n5 : ¬ (L + 4 + 4 + 4 + 4 ≤ i ∧ i < L + 4 + 4 + 4 + 4 + 4)) (h : i < L + 4 + 4 + 4 + 4 + 4) : i < L := by omega
set_option maxHeartbeats 4000000 in
theorem t_feed {t : Int} {N : Nat} {s : iv_M} {x1 x2 x3 x4 x5 : Int} (hN : 100 ≤ N) (h : Inv t s) (t0 : 0 ≤ t) : ∃ a s1 s2, FX11_feed N s 0 x1 x2 x3 x4 x5 = some (a, s1) ∧ FX12_feed N s1 113 x1 x2 x3 x4 x5 = some (a, s2) ∧ Inv (t + 1) s2 := by
  have hI := h
  obtain ⟨h1, h2, h3, ⟨p1, p2, p3, p4, p5⟩, _⟩ := h
  unfold FX11_feed
  rw [w32_id (by omega) (by omega)]
  by_cases e : s 0 1 + 20 ≤ 400
  · rw [if_pos e]
    obtain ⟨c1, a1, a2, a3, a4, a5⟩ := put_c (N := N) (x := x1) hN (s := s) rfl p2 (by omega)
    obtain ⟨c2, b1, b2, b3, b4, b5⟩ := put_c (N := N) (x := x2) hN a2 (by omega) (by omega)
    obtain ⟨c3, d1, d2, d3, d4, d5⟩ := put_c (N := N) (x := x3) hN b2 (by omega) (by omega)
    obtain ⟨c4, f1, f2, f3, f4, f5⟩ := put_c (N := N) (x := x4) hN d2 (by omega) (by omega)
    obtain ⟨c5, g1, g2, g3, g4, g5⟩ := put_c (N := N) (x := x5) hN f2 (by omega) (by omega)
    rw [a1, Option.bind_some, b1, Option.bind_some, d1, Option.bind_some, f1, Option.bind_some, g1, Option.bind_some]
    have r113 : c5 113 = s 113 := by rw [g5 113 (by omega) (by omega), f5 113 (by omega) (by omega), d5 113 (by omega) (by omega), b5 113 (by omega) (by omega), a5 113 (by omega) (by omega)]
    have q0 : c5 113 28 = s 0 1 := by rw [r113]; exact p1.symm
    obtain ⟨k1, A1, A2, A3, A4, A5⟩ := put_r (N := N) (x := x1) hN q0 p2 (by omega)
    obtain ⟨k2, B1, B2, B3, B4, B5⟩ := put_r (N := N) (x := x2) hN A2 (by omega) (by omega)
    obtain ⟨k3, D1, D2, D3, D4, D5⟩ := put_r (N := N) (x := x3) hN B2 (by omega) (by omega)
    obtain ⟨k4, F1, F2, F3, F4, F5⟩ := put_r (N := N) (x := x4) hN D2 (by omega) (by omega)
    obtain ⟨k5, G1, G2, G3, G4, G5⟩ := put_r (N := N) (x := x5) hN F2 (by omega) (by omega)
    have k50 : k5 0 = c5 0 := by rw [G5 0 (by omega) (by omega), F5 0 (by omega) (by omega), D5 0 (by omega) (by omega), B5 0 (by omega) (by omega), A5 0 (by omega) (by omega)]
    have k51 : k5 1 = c5 1 := by rw [G5 1 (by omega) (by omega), F5 1 (by omega) (by omega), D5 1 (by omega) (by omega), B5 1 (by omega) (by omega), A5 1 (by omega) (by omega)]
    have c139 : c5 139 = s 139 := by rw [g5 139 (by omega) (by omega), f5 139 (by omega) (by omega), d5 139 (by omega) (by omega), b5 139 (by omega) (by omega), a5 139 (by omega) (by omega)]
    refine ⟨c5 0 1, c5, k5, rfl, ?_, ?_⟩
    · unfold FX12_feed
      rw [q0, w32_id (by omega) (by omega), if_pos e, A1, Option.bind_some, B1, Option.bind_some, D1, Option.bind_some, F1, Option.bind_some, G1, Option.bind_some, G2, g2]
    · refine Inv_tp hI (by omega) (fun i hi => by rw [k50, g4 i hi, f4 i hi, d4 i hi, b4 i hi, a4 i hi]) (fun i hi => by rw [G4 i hi, F4 i hi, D4 i hi, B4 i hi, A4 i hi, r113]) (fun a z1 z2 z3 z4 => by rw [G5 a z3 z4, F5 a z3 z4, D5 a z3 z4, B5 a z3 z4, A5 a z3 z4, g5 a z1 z2, f5 a z1 z2, d5 a z1 z2, b5 a z1 z2, a5 a z1 z2]) ⟨?_, ?_, ?_, ?_, ?_⟩
      · rw [k50, g2, G2]
      · rw [k50, g2]; omega
      · rw [k50, g2]; omega
      · rw [k50, k51, g2]
        intro i i0 i1
        rw [g3, f3, d3, b3, a3, G3, F3, D3, B3, A3, c139]
        exact if_base (fun n5 => if_base (fun n4 => if_base (fun n3 => if_base (fun n2 => if_base (fun n1 => p4 i i0 (feed_lt n1 n2 n3 n4 n5 i1))))))
      · rw [k50, k51, g2]
        intro i i0 i1
        rw [g3, f3, d3, b3, a3]
        exact if_rng (w8_rng _) (fun n5 => if_rng (w8_rng _) (fun n4 => if_rng (w8_rng _) (fun n3 => if_rng (w8_rng _) (fun n2 => if_rng (w8_rng _) (fun n1 => p5 i i0 (feed_lt n1 n2 n3 n4 n5 i1))))))
  · rw [if_neg e]
    refine ⟨-1, s, s, rfl, ?_, HR1_mono (by omega) hI⟩
    unfold FX12_feed
    rw [← p1, w32_id (by omega) (by omega), if_neg e]
