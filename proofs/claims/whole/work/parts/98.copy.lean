-- A HOUSE COPIED, AND IMAGES CARRIED
theorem HQ_apart {q p : Nat} (h : HQ q) (h2 : HQ p) (hn : q ≠ p) : q + 21 < p ∨ p + 21 < q := by unfold HQ at h h2; omega
theorem FX7_copyFrom_ok {N q p : Nat} {s : iv_M} {L : Int} (hq : ((sh (q + 1)).2 : Int) = L) (hp : ((sh (p + 1)).2 : Int) = L) (hqp : q + 1 < p ∨ p + 1 < q) (h0 : 0 ≤ s p 1) (h1 : s p 1 ≤ L) : ∃ s', FX7_copyFrom N s q p = some s' ∧ s' q 1 = s p 1 ∧ (∀ j, 0 ≤ j → j < s p 1 → s' (q + 1) j = s (p + 1) j) ∧ ∀ a, a ≠ q → a ≠ q + 1 → s' a = s a := by
  refine ⟨cpm (mu s q 1 (s p 1)) (p + 1) 0 (q + 1) 0 (s p 1), ?_, ?_, fun j j0 j1 => ?_, fun a h h2 => ?_⟩
  · unfold FX7_copyFrom
    have : mnI (s p 1) ((sh (q + 1)).2 : Int) = s p 1 := by unfold mnI; rw [if_neg (by omega)]
    rw [this, pt_ok, Option.bind_some, mu_eq, hq, hp, cp_ok (by omega) (by omega) h0 (by omega) (by omega), Option.bind_some]
  · rw [cpm_ne (by omega), mu_eq]
  · rw [cpm_in (by omega) (by omega), mu_ne (by omega), show j - 0 + 0 = j by omega]
  · funext i
    rw [cpm_ne (by omega), mu_ne (by omega)]
theorem FX2_copyFrom_ok {N q p : Nat} {t : Int} {s B : iv_M} (hN : 100 ≤ N) (hq : HQ q) (hp : HQ p) (hn : q ≠ p) (hH : HR s p B) (hW : WH t B) : ∃ s', FX2_copyFrom N s q p = some s' ∧ HR s' q B ∧ ∀ a, (a < q ∨ q + 21 < a) → s' a = s a := by
  have ap := HQ_apart hq hp hn
  obtain ⟨r8, r11, r13, r17, r19, r21⟩ := HQ_rows hq
  obtain ⟨p8, p11, p13, p17, p19, p21⟩ := HQ_rows hp
  obtain ⟨h1, ⟨h2, h2'⟩, h3, ⟨h4a, h4b, h4c⟩, h5, ⟨h6a, h6b, h6c, h6d, h6e, h6f⟩⟩ := hH
  obtain ⟨hWf, ⟨w3, w4, w5, w6, w7, w8, w9, w10, w11, _⟩, _⟩ := hW
  have hto : s p 0 = 0 ∨ s p 0 = 1 := by
    have := h1.1
    rw [this]
    by_cases e : 0 < B 114 0
    · rw [if_pos e]; omega
    · rw [if_neg e]; omega
  obtain ⟨a, ha⟩ : ∃ a, a = mu (mu (mu (mu (mu (mu (mu (mu (mu s q 0 (s p 0)) q 1 (s p 1)) q 2 (s p 2)) q 3 (s p 3)) q 4 (s p 4)) q 5 (s p 5)) q 6 (s p 6)) q 7 (s p 7)) q 8 (s p 8) := ⟨_, rfl⟩
  have ao : ∀ c, c ≠ q → a c = s c := fun c hc => by rw [ha, mu_rw hc, mu_rw hc, mu_rw hc, mu_rw hc, mu_rw hc, mu_rw hc, mu_rw hc, mu_rw hc, mu_rw hc]
  have aq : ∀ j, 0 ≤ j → j ≤ 8 → a q j = s p j := fun j j0 j1 => by
    have : j = 0 ∨ j = 1 ∨ j = 2 ∨ j = 3 ∨ j = 4 ∨ j = 5 ∨ j = 6 ∨ j = 7 ∨ j = 8 := by omega
    rw [ha]
    rcases this with e | e | e | e | e | e | e | e | e <;> subst e <;> simp (disch := omega) only [mu_ne, mu_eq]
  obtain ⟨b, b1, b2, b3, b4⟩ := FX1_copyFrom_ok (N := N) (q := q + 1) (p := p + 1) (s := a) (B := B) hN (HQ_TF hq).1 hWf (by omega) (FRc_ext (fun c x y => ao c (by omega)) h2) (FP_ext (ao _ (by omega)) h2')
  have bo : ∀ c, (c < q + 1 ∨ q + 7 < c) → b c = a c := fun c hc => by funext i; exact b4 c i (by omega)
  obtain ⟨c1, hc1⟩ : ∃ c1, c1 = cpm b (p + 8) 0 (q + 8) 0 5 := ⟨_, rfl⟩
  have o1 : ∀ c, c ≠ q + 8 → c1 c = b c := fun c hc => by rw [hc1]; funext i; exact cpm_ne (by omega)
  have v1 : ∀ k, 0 ≤ k → k < 5 → c1 (q + 8) k = s (p + 8) k := fun k k0 k1 => by rw [hc1, cpm_in (by omega) (by omega), bo (p + 8) (by omega), ao (p + 8) (by omega), show k - 0 + 0 = k by omega]
  obtain ⟨c2, hc2⟩ : ∃ c2, c2 = cpm c1 (p + 9) 0 (q + 9) 0 6 := ⟨_, rfl⟩
  have o2 : ∀ c, c ≠ q + 9 → c2 c = c1 c := fun c hc => by rw [hc2]; funext i; exact cpm_ne (by omega)
  have v2 : ∀ k, 0 ≤ k → k < 6 → c2 (q + 9) k = s (p + 9) k := fun k k0 k1 => by rw [hc2, cpm_in (by omega) (by omega), o1 (p + 9) (by omega), bo (p + 9) (by omega), ao (p + 9) (by omega), show k - 0 + 0 = k by omega]
  have P2 : ∀ c, p ≤ c → c ≤ p + 21 → c2 c = s c := fun c x y => by rw [o2 c (by omega), o1 c (by omega), bo c (by omega), ao c (by omega)]
  obtain ⟨c3, d1, d2, d3, d4⟩ := FX7_copyFrom_ok (N := N) (q := q + 10) (p := p + 10) (s := c2) (L := 20) (by show ((sh (q + 11)).2 : Int) = 20; rw [r11]; rfl) (by show ((sh (p + 11)).2 : Int) = 20; rw [p11]; rfl) (by omega) (by rw [P2 _ (by omega) (by omega), h4a]; omega) (by rw [P2 _ (by omega) (by omega), h4a]; omega)
  rw [P2 (p + 10) (by omega) (by omega)] at d2 d3
  rw [P2 (p + 10 + 1) (by omega) (by omega)] at d3
  have P3 : ∀ c, p ≤ c → c ≤ p + 21 → c3 c = s c := fun c x y => by rw [d4 c (by omega) (by omega), P2 c x y]
  obtain ⟨c4, e1, e2, e3, e4⟩ := FX7_copyFrom_ok (N := N) (q := q + 12) (p := p + 12) (s := c3) (L := 20) (by show ((sh (q + 13)).2 : Int) = 20; rw [r13]; rfl) (by show ((sh (p + 13)).2 : Int) = 20; rw [p13]; rfl) (by omega) (by rw [P3 _ (by omega) (by omega), h4b]; omega) (by rw [P3 _ (by omega) (by omega), h4b]; omega)
  rw [P3 (p + 12) (by omega) (by omega)] at e2 e3
  rw [P3 (p + 12 + 1) (by omega) (by omega)] at e3
  have P4 : ∀ c, p ≤ c → c ≤ p + 21 → c4 c = s c := fun c x y => by rw [e4 c (by omega) (by omega), P3 c x y]
  obtain ⟨c5, hc5⟩ : ∃ c5, c5 = cpm c4 (p + 14) 0 (q + 14) 0 4 := ⟨_, rfl⟩
  have o5 : ∀ c, c ≠ q + 14 → c5 c = c4 c := fun c hc => by rw [hc5]; funext i; exact cpm_ne (by omega)
  have v5 : ∀ k, 0 ≤ k → k < 4 → c5 (q + 14) k = s (p + 14) k := fun k k0 k1 => by rw [hc5, cpm_in (by omega) (by omega), P4 (p + 14) (by omega) (by omega), show k - 0 + 0 = k by omega]
  obtain ⟨c6, hc6⟩ : ∃ c6, c6 = cpm c5 (p + 15) 0 (q + 15) 0 4 := ⟨_, rfl⟩
  have o6 : ∀ c, c ≠ q + 15 → c6 c = c5 c := fun c hc => by rw [hc6]; funext i; exact cpm_ne (by omega)
  have v6 : ∀ k, 0 ≤ k → k < 4 → c6 (q + 15) k = s (p + 15) k := fun k k0 k1 => by rw [hc6, cpm_in (by omega) (by omega), o5 _ (by omega), P4 (p + 15) (by omega) (by omega), show k - 0 + 0 = k by omega]
  have P6 : ∀ c, p ≤ c → c ≤ p + 21 → c6 c = s c := fun c x y => by rw [o6 c (by omega), o5 c (by omega), P4 c x y]
  obtain ⟨c7, f1, f2, f3, f4⟩ := FX7_copyFrom_ok (N := N) (q := q + 16) (p := p + 16) (s := c6) (L := 10) (by show ((sh (q + 17)).2 : Int) = 10; rw [r17]; rfl) (by show ((sh (p + 17)).2 : Int) = 10; rw [p17]; rfl) (by omega) (by rw [P6 _ (by omega) (by omega), h6a]; omega) (by rw [P6 _ (by omega) (by omega), h6a]; omega)
  rw [P6 (p + 16) (by omega) (by omega)] at f2 f3
  rw [P6 (p + 16 + 1) (by omega) (by omega)] at f3
  have P7 : ∀ c, p ≤ c → c ≤ p + 21 → c7 c = s c := fun c x y => by rw [f4 c (by omega) (by omega), P6 c x y]
  obtain ⟨c8, g1, g2, g3, g4⟩ := FX7_copyFrom_ok (N := N) (q := q + 18) (p := p + 18) (s := c7) (L := 12) (by show ((sh (q + 19)).2 : Int) = 12; rw [r19]; rfl) (by show ((sh (p + 19)).2 : Int) = 12; rw [p19]; rfl) (by omega) (by rw [P7 _ (by omega) (by omega), h6c]; omega) (by rw [P7 _ (by omega) (by omega), h6c]; omega)
  rw [P7 (p + 18) (by omega) (by omega)] at g2 g3
  rw [P7 (p + 18 + 1) (by omega) (by omega)] at g3
  have P8 : ∀ c, p ≤ c → c ≤ p + 21 → c8 c = s c := fun c x y => by rw [g4 c (by omega) (by omega), P7 c x y]
  obtain ⟨c9, i1, i2, i3, i4⟩ := FX7_copyFrom_ok (N := N) (q := q + 20) (p := p + 20) (s := c8) (L := 8) (by show ((sh (q + 21)).2 : Int) = 8; rw [r21]; rfl) (by show ((sh (p + 21)).2 : Int) = 8; rw [p21]; rfl) (by omega) (by rw [P8 _ (by omega) (by omega), h6e]; omega) (by rw [P8 _ (by omega) (by omega), h6e]; omega)
  rw [P8 (p + 20) (by omega) (by omega)] at i2 i3
  rw [P8 (p + 20 + 1) (by omega) (by omega)] at i3
  have T9 : ∀ c, c < q + 16 → c9 c = c6 c := fun c hc => by rw [i4 c (by omega) (by omega), g4 c (by omega) (by omega), f4 c (by omega) (by omega)]
  have T6 : ∀ c, c < q + 14 → c9 c = c4 c := fun c hc => by rw [T9 c (by omega), o6 c (by omega), o5 c (by omega)]
  have T2 : ∀ c, c < q + 10 → c9 c = c2 c := fun c hc => by rw [T6 c (by omega), e4 c (by omega) (by omega), d4 c (by omega) (by omega)]
  have Tq : c9 q = a q := by rw [T2 q (by omega), o2 q (by omega), o1 q (by omega), bo q (by omega)]
  have Tf : ∀ c, q + 1 ≤ c → c ≤ q + 7 → c9 c = b c := fun c x y => by rw [T2 c (by omega), o2 c (by omega), o1 c (by omega)]
  have T8 : c9 (q + 8) = c1 (q + 8) := by rw [T2 _ (by omega), o2 _ (by omega)]
  have Tb : c9 (q + 9) = c2 (q + 9) := T2 _ (by omega)
  refine ⟨c9, ?_, ⟨?_, ⟨FRc_ext (fun c x y => Tf c (by omega) (by omega)) b2, FP_ext (Tf _ (by omega) (by omega)) b3⟩, ?_, ?_, ?_, ?_⟩, fun c hc => ?_⟩
  · unfold FX2_copyFrom
    rw [if_pos hto]
    simp (disch := omega) only [pt_ok, Option.bind_some, mu_ne]
    rw [← ha, b1, Option.bind_some, cp_ok (by omega) (by omega) (by omega) (by omega) (by omega), Option.bind_some, ← hc1, cp_ok (by omega) (by omega) (by omega) (by omega) (by omega), Option.bind_some, ← hc2, d1, Option.bind_some, e1, Option.bind_some, cp_ok (by omega) (by omega) (by omega) (by omega) (by omega), Option.bind_some, ← hc5, cp_ok (by omega) (by omega) (by omega) (by omega) (by omega), Option.bind_some, ← hc6, f1, Option.bind_some, g1, Option.bind_some, i1, Option.bind_some]
  · obtain ⟨k0, ⟨k1, k2, k3, k4, k9⟩, k31, k32, k5, k6, k7, k8⟩ := h1
    unfold HR1 HB
    rw [Tq, aq 0 (by omega) (by omega), aq 1 (by omega) (by omega), aq 2 (by omega) (by omega), aq 3 (by omega) (by omega), aq 4 (by omega) (by omega), aq 5 (by omega) (by omega), aq 6 (by omega) (by omega), aq 7 (by omega) (by omega), aq 8 (by omega) (by omega)]
    exact ⟨k0, ⟨k1, k2, k3, k4, fun x x0 x1 => by rw [Tb, v2 x x0 (by omega)]; exact k9 x x0 x1⟩, k31, k32, k5, k6, k7, k8⟩
  · intro k k0 k1
    rw [T8, v1 (k + 1) (by omega) (by omega)]; exact h3 k k0 k1
  · refine ⟨?_, ?_, fun j j0 j1 => ⟨?_, ?_⟩⟩
    · rw [T6 _ (by omega), e4 _ (by omega) (by omega), d2]; exact h4a
    · rw [T6 _ (by omega), e2]; exact h4b
    · rw [T6 _ (by omega), e4 _ (by omega) (by omega)]
      have := d3 j j0 (by rw [h4a]; exact j1)
      exact this.trans (h4c j j0 j1).1
    · rw [T6 _ (by omega)]
      have := e3 j j0 (by rw [h4b]; exact j1)
      exact this.trans (h4c j j0 j1).2
  · intro k k0 k1 k2
    obtain ⟨z1, z2⟩ := h5 k k0 k1 k2
    rw [T9 _ (by omega), T9 _ (by omega), o6 (q + 14) (by omega), v5 k k0 k1, v6 k k0 k1]
    exact ⟨z1, z2⟩
  · refine ⟨?_, fun j j0 j1 => ?_, ?_, fun j j0 j1 => ?_, ?_, fun j j0 j1 => ?_⟩
    · rw [i4 _ (by omega) (by omega), g4 _ (by omega) (by omega), f2]; exact h6a
    · rw [i4 _ (by omega) (by omega), g4 _ (by omega) (by omega)]
      exact (f3 j j0 (by rw [h6a]; exact j1)).trans (h6b j j0 j1)
    · rw [i4 _ (by omega) (by omega), g2]; exact h6c
    · rw [i4 _ (by omega) (by omega)]
      exact (g3 j j0 (by rw [h6c]; exact j1)).trans (h6d j j0 j1)
    · rw [i2]; exact h6e
    · exact (i3 j j0 (by rw [h6e]; exact j1)).trans (h6f j j0 j1)
  · rw [i4 c (by omega) (by omega), g4 c (by omega) (by omega), f4 c (by omega) (by omega), o6 c (by omega), o5 c (by omega), e4 c (by omega) (by omega), d4 c (by omega) (by omega), o2 c (by omega), o1 c (by omega), bo c (by omega), ao c (by omega)]
-- images of the reference
theorem ofs_s {a : Nat} (h0 : 114 ≤ a) (h1 : a ≤ 131) : (a < 131 → ofs (a + 1) = ofs a + ln a) ∧ ((sh a).2 : Int) = ln a ∧ 0 ≤ ofs a ∧ 0 < ln a ∧ ofs a + ln a ≤ 782 ∧ ln a ≤ 480 := by
  have : ∀ j : Fin 18, (114 + j.val < 131 → ofs (114 + j.val + 1) = ofs (114 + j.val) + ln (114 + j.val)) ∧ ((sh (114 + j.val)).2 : Int) = ln (114 + j.val) ∧ 0 ≤ ofs (114 + j.val) ∧ 0 < ln (114 + j.val) ∧ ofs (114 + j.val) + ln (114 + j.val) ≤ 782 ∧ ln (114 + j.val) ≤ 480 := by decide
  have := this ⟨a - 114, by omega⟩
  simp only [show 114 + (a - 114) = a by omega] at this
  exact this
theorem ofs_lt {a c : Nat} (h0 : 114 ≤ c) (h1 : c < a) (h2 : a ≤ 131) : ofs c + ln c ≤ ofs a := by
  have : ∀ i j : Fin 18, j.val < i.val → ofs (114 + j.val) + ln (114 + j.val) ≤ ofs (114 + i.val) := by decide
  have := this ⟨a - 114, by omega⟩ ⟨c - 114, by omega⟩ (by show c - 114 < a - 114; omega)
  simp only [show 114 + (a - 114) = a by omega, show 114 + (c - 114) = c by omega] at this
  exact this
/-- one row carried back out of the images -/
def cbk (s : iv_M) (a : Nat) (o n : Int) : iv_M := fun c i => if c = a ∧ 0 ≤ i ∧ i < n then s 172 (o + i) else if c = 113 ∧ i = 81 then o + n else s c i
theorem carry_back {N a : Nat} {s : iv_M} {o : Int} (hN : 1000 ≤ N) (h0 : 114 ≤ a) (h1 : a ≤ 131) (h81 : s 113 81 = o) (h82 : s 113 82 = 1) (o0 : 0 ≤ o) (o1 : o + ln a ≤ 3440) : FX12_carry N s 113 a = some (cbk s a o (ln a)) := by
  obtain ⟨_, hs, _, l0, _, l2⟩ := ofs_s h0 h1
  have hs0 : s = cbk s a o ((0 : Nat) : Int) := by
    funext c i; unfold cbk
    rw [if_neg (by omega)]
    by_cases e : c = 113 ∧ i = 81
    · rw [if_pos e, e.1, e.2, h81]; simp
    · rw [if_neg e]
  have lp := loop_fn (L := FX12_carry_l2 N 113 a (fun (s_4491 : iv_M) => some s_4491)) (k := fun (s_4491 : iv_M) => some s_4491) (hi := ln a) (N := N) (fun i => cbk s a o (i : Int)) (by omega) (fun n => by rw [FX12_carry_l2, if_pos (by omega)]) (fun n i hi => by
    have x82 : cbk s a o (i : Int) 113 82 = 1 := by unfold cbk; rw [if_neg (by omega), if_neg (by omega)]; exact h82
    have x81 : cbk s a o (i : Int) 113 81 = o + i := by unfold cbk; rw [if_neg (by omega), if_pos ⟨rfl, rfl⟩]
    have x172 : cbk s a o (i : Int) 172 (o + i) = s 172 (o + i) := by unfold cbk; rw [if_neg (by omega), if_neg (by omega)]
    rw [FX12_carry_l2, if_neg (by omega), if_neg (by rw [x82]; omega)]
    unfold FX12_carry_b42
    simp only [Nat.reduceAdd]
    rw [x81, rd_ok (by omega) (by omega), Option.bind_some, x172, hs, wr_ok (by omega) (by omega), Option.bind_some, mu_ne (by omega), x81, pt_ok, Option.bind_some, w32_id (by omega) (by omega), w32_id (by omega) (by omega)]
    congr 1
    funext c j
    unfold mu cbk
    by_cases e1 : c = 113 ∧ j = 81
    · rw [if_pos e1, if_neg (by omega), if_pos e1]; omega
    · rw [if_neg e1]
      by_cases e2 : c = a ∧ j = (i : Int)
      · rw [if_pos e2, if_pos (by omega), e2.2]
      · rw [if_neg e2, if_neg e1, if_neg e1]
        by_cases e3 : c = a ∧ 0 ≤ j ∧ j < (i : Int)
        · rw [if_pos e3, if_pos (by omega)]
        · rw [if_neg e3, if_neg (by omega)]) (by omega)
  have lp' : FX12_carry_l2 N 113 a (fun (s_4491 : iv_M) => some s_4491) N (cbk s a o ((0 : Nat) : Int)) 0 = some (cbk s a o (((ln a).toNat : Nat) : Int)) := lp
  rw [← hs0, Int.toNat_of_nonneg (by omega)] at lp'
  exact lp'
/-- rows below a carried back -/
def CB (s : iv_M) (k : Int) (a : Nat) (x : iv_M) : Prop := (∀ c, 114 ≤ c → c < a → x c = img s k c) ∧ (∀ c, c ≠ 113 → ¬ (114 ≤ c ∧ c < a) → x c = s c) ∧ (a ≤ 131 → x 113 81 = 860 * k + ofs a) ∧ x 113 82 = 1 ∧ ∀ j, j ≠ 81 → j ≠ 82 → x 113 j = s 113 j
theorem CB_step {N a : Nat} {s x : iv_M} {k : Int} (hN : 1000 ≤ N) (hO : OZ s) (k0 : 0 ≤ k) (k1 : k < 4) (h0 : 114 ≤ a) (h1 : a ≤ 131) (h : CB s k a x) : ∃ x', FX12_carry N x 113 a = some x' ∧ CB s k (a + 1) x' := by
  obtain ⟨z1, z2, z3, z4, z5⟩ := h
  obtain ⟨hs, _, l0, l1, l2, _⟩ := ofs_s h0 h1
  refine ⟨_, carry_back (N := N) (o := 860 * k + ofs a) hN h0 h1 (z3 h1) z4 (by omega) (by omega), fun c c0 c1 => ?_, fun c c0 c1 => ?_, fun ha => ?_, ?_, fun j j0 j1 => ?_⟩
  · funext i
    by_cases e : c = a
    · subst e
      unfold cbk img
      by_cases e2 : 0 ≤ i ∧ i < ln c
      · rw [if_pos (by omega), if_pos e2, z2 172 (by omega) (by omega)]
      · rw [if_neg (by omega), if_neg (by omega), if_neg e2, z2 c (by omega) (by omega)]
        exact hO c c0 h1 i e2
    · unfold cbk
      rw [if_neg (by omega), if_neg (by omega), z1 c c0 (by omega)]
  · funext i
    unfold cbk
    rw [if_neg (by omega), if_neg (by omega), z2 c c0 (by omega)]
  · unfold cbk
    rw [if_neg (by omega), if_pos ⟨rfl, rfl⟩, hs (by omega)]; omega
  · unfold cbk; rw [if_neg (by omega), if_neg (by omega)]; exact z4
  · unfold cbk; rw [if_neg (by omega), if_neg (by omega)]; exact z5 j j0 j1
theorem carriesBack_ok {N : Nat} {s : iv_M} {k : Int} (hN : 1000 ≤ N) (hO : OZ s) (k0 : 0 ≤ k) (k1 : k < 4) : ∃ x, FX12_carriesAll N s 113 k 1 = some x ∧ Eb (img s k) x ∧ (∀ c, c ≠ 113 → (c < 114 ∨ 131 < c) → x c = s c) ∧ ∀ j, j ≠ 81 → j ≠ 82 → x 113 j = s 113 j := by
  have h0 : CB s k 114 (mu (mu s 113 81 (860 * k)) 113 82 1) := by
    refine ⟨fun c c0 c1 => by omega, fun c c0 _ => by rw [mu_rw c0, mu_rw c0], fun _ => ?_, mu_eq, fun j j0 j1 => by rw [mu_ne (by omega), mu_ne (by omega)]⟩
    rw [mu_ne (by omega), mu_eq]
    have : ofs 114 = 0 := by decide
    omega
  have st := fun (a : Nat) (x : iv_M) (h0 : 114 ≤ a) (h1 : a ≤ 131) (h : CB s k a x) => CB_step (N := N) hN hO k0 k1 h0 h1 h
  obtain ⟨x1, a1, b1⟩ := st 114 _ (by omega) (by omega) h0
  obtain ⟨x2, a2, b2⟩ := st 115 _ (by omega) (by omega) b1
  obtain ⟨x3, a3, b3⟩ := st 116 _ (by omega) (by omega) b2
  obtain ⟨x4, a4, b4⟩ := st 117 _ (by omega) (by omega) b3
  obtain ⟨x5, a5, b5⟩ := st 118 _ (by omega) (by omega) b4
  obtain ⟨x6, a6, b6⟩ := st 119 _ (by omega) (by omega) b5
  obtain ⟨x7, a7, b7⟩ := st 120 _ (by omega) (by omega) b6
  obtain ⟨x8, a8, b8⟩ := st 121 _ (by omega) (by omega) b7
  obtain ⟨x9, a9, b9⟩ := st 122 _ (by omega) (by omega) b8
  obtain ⟨x10, a10, b10⟩ := st 123 _ (by omega) (by omega) b9
  obtain ⟨x11, a11, b11⟩ := st 124 _ (by omega) (by omega) b10
  obtain ⟨x12, a12, b12⟩ := st 125 _ (by omega) (by omega) b11
  obtain ⟨x13, a13, b13⟩ := st 126 _ (by omega) (by omega) b12
  obtain ⟨x14, a14, b14⟩ := st 127 _ (by omega) (by omega) b13
  obtain ⟨x15, a15, b15⟩ := st 128 _ (by omega) (by omega) b14
  obtain ⟨x16, a16, b16⟩ := st 129 _ (by omega) (by omega) b15
  obtain ⟨x17, a17, b17⟩ := st 130 _ (by omega) (by omega) b16
  obtain ⟨x18, a18, b18⟩ := st 131 _ (by omega) (by omega) b17
  refine ⟨x18, ?_, fun c c0 c1 => b18.1 c c0 (by omega), fun c c0 c1 => b18.2.1 c c0 (by omega), b18.2.2.2.2⟩
  unfold FX12_carriesAll
  simp only [Nat.reduceAdd]
  rw [w32_id (by omega) (by omega), pt_ok, Option.bind_some, if_pos (Or.inr trivial), pt_ok, Option.bind_some, a1, Option.bind_some, a2, Option.bind_some, a3, Option.bind_some, a4, Option.bind_some, a5, Option.bind_some, a6, Option.bind_some, a7, Option.bind_some, a8, Option.bind_some, a9, Option.bind_some, a10, Option.bind_some, a11, Option.bind_some, a12, Option.bind_some, a13, Option.bind_some, a14, Option.bind_some, a15, Option.bind_some, a16, Option.bind_some, a17, Option.bind_some, a18, Option.bind_some]
theorem ct_back {t : Int} {N : Nat} {s : iv_M} {k : Int} (hN : 1000 ≤ N) (h : Inv t s) (t0 : 0 ≤ t) (t1 : t ≤ 1000) : ∃ a s1 s2, FX11_back N s 0 k = some (a, s1) ∧ FX12_back N s1 113 k = some (a, s2) ∧ Inv (t + 1) s2 := by
  have hI := h
  obtain ⟨h1, h2, h3, h4, h5, h6, h7, h8, h9, h10⟩ := h
  obtain ⟨m1, m2, m3⟩ := now_ne h1
  have hq : (s 0 4).toNat = now s := rfl
  have hb := h9.1
  have no : (∀ k0 : 0 ≤ k, k < 4 → s 173 k = 0 ∧ s 53 k = -1) → ∃ a s1 s2, FX11_back N s 0 k = some (a, s1) ∧ FX12_back N s1 113 k = some (a, s2) ∧ Inv (t + 1) s2 := fun C => by
    refine ⟨-1, s, s, ?_, ?_, HR1_mono (by omega) hI⟩
    · unfold FX11_back FX11_back_b18
      simp only [Nat.reduceAdd, Nat.zero_add]
      by_cases e1 : k < 0
      · rw [if_pos e1]
      rw [if_neg e1]
      by_cases e2 : 4 ≤ k
      · rw [if_pos e2]
      rw [if_neg e2, rd_ok (by omega) (by omega), Option.bind_some, (C (by omega) (by omega)).2, if_pos (by omega)]
    · unfold FX12_back FX12_back_b21
      simp only [Nat.reduceAdd]
      rw [FX12_in_ok, Option.bind_some]
      by_cases e : 0 ≤ k ∧ k ≤ 3
      · rw [if_pos e, if_neg (by decide), rd_ok (by omega) (by omega), Option.bind_some, (C (by omega) (by omega)).1, if_pos rfl]
      · rw [if_neg e, if_pos rfl]
  by_cases e : 0 ≤ k ∧ k < 4
  rotate_left
  · exact no (fun k0 k1 => absurd ⟨k0, k1⟩ e)
  rcases h6 k e.1 e.2 with z | ⟨z1, q, z2, z3, z4, z5, z6, z7, _⟩
  · exact no (fun _ _ => z)
  obtain ⟨s1, c1, c2, c3⟩ := FX2_copyFrom_ok (N := N) (q := now s) (p := q) (by omega) (now_HQ h1).1 z4 (by omega) z5 z6
  obtain ⟨s1', hs1⟩ : ∃ x, x = mu s1 0 15 (s 0 15 + 1) := ⟨_, rfl⟩
  have o1 : ∀ a, a ≠ 0 → s1' a = s1 a := fun a ha => by rw [hs1, mu_rw ha]
  have o0 : ∀ i, i ≠ 15 → s1' 0 i = s 0 i := fun i hi => by rw [hs1, mu_ne (by omega), c3 0 (by omega)]
  have s115 : s1' 0 15 = s 0 15 + 1 := by rw [hs1, mu_eq]
  have hB : Eb s s1' := fun a a0 a1 => by rw [o1 a (by omega), c3 a (by omega)]
  have hO1 : OZ s1' := fun a a0 a1 i hi => by rw [hB a a0 a1]; exact h10 a a0 a1 i hi
  have himg : img s1' k = img s k := by funext a i; unfold img; rw [o1 172 (by omega), c3 172 (by omega)]
  obtain ⟨s2, d1, d2, d3, d4⟩ := carriesBack_ok (N := N) (s := s1') (k := k) hN hO1 e.1 e.2
  rw [himg] at d2
  refine ⟨img s k 114 6, s1', s2, ?_, ?_, ?_⟩
  · unfold FX11_back
    simp only [Nat.reduceAdd, Nat.zero_add]
    rw [if_neg (by omega), if_neg (by omega), rd_ok (by omega) (by omega), Option.bind_some, z2, if_neg (by omega), Option.bind_some, if_neg (by omega), hq, Int.toNat_natCast, c1, Option.bind_some, c3 0 (by omega), w32_id (by omega) (by omega), pt_ok, Option.bind_some, ← hs1, o0 4 (by omega), hq, o1 _ (by omega), c2.1.2.2.2.2.2.1]
  · unfold FX12_back
    simp only [Nat.reduceAdd]
    rw [FX12_in_ok, Option.bind_some, if_pos (show 0 ≤ k ∧ k ≤ 3 by omega), if_neg (by decide), rd_ok (by omega) (by omega), Option.bind_some, o1 173 (by omega), c3 173 (by omega), z1, if_neg (by decide), d1, Option.bind_some, rd_ok (by omega) (by omega), Option.bind_some, d2 114 (by omega) (by omega)]
  · exact Inv_bk (s1 := s1') (B := img s k) hI (by omega) o0 (by rw [s115]; omega) (fun a ha => by rw [o1 a (by omega), c3 a (by omega)]) (HR_ext (fun a x y => o1 a (by omega)) c2) (WH_mono (by omega) z6) z7 (fun a a0 a1 i hi => by unfold img; rw [if_neg hi]) (fun a ha => d3 a (by omega) (by omega)) (fun i hi => d4 i (by omega) (by omega)) d2 (Me_bump ⟨h7, h8⟩ (by rw [d3 64 (by omega) (by omega), o1 64 (by omega), c3 64 (by omega)]) (by rw [d3 81 (by omega) (by omega), o1 81 (by omega), c3 81 (by omega)]) (by rw [d3 0 (by omega) (by omega), s115]; omega))
