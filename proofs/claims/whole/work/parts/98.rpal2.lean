-- PALACE: class and reference read a part side by side
def nbk (z : iv_M) : iv_M := fun a i => if 0 ≤ i ∧ i < ln a then (if a = 114 then (if i < 5 then z 132 i else if i = 12 then -1 else 0) else if a = 115 then z 133 i else if a = 116 then z 134 i else if a = 118 then z 135 i else if a = 119 then z 136 i else if a = 120 then z 137 i else if a = 121 then z 138 i else 0) else 0
theorem nbk_4 {z : iv_M} {i : Int} (h : 0 ≤ i) (h1 : i < 5) : nbk z 114 i = z 132 i := by
  have hl : ln 114 = 14 := by decide
  unfold nbk; rw [if_pos ⟨h, by omega⟩, if_pos rfl, if_pos h1]
theorem nbk_5 {z : iv_M} {i : Int} (h : 0 ≤ i) (h1 : i < 48) : nbk z 115 i = z 133 i := by
  have hl : ln 115 = 48 := by decide
  unfold nbk; rw [if_pos ⟨h, by omega⟩, if_neg (by decide), if_pos rfl]
theorem nbk_6 {z : iv_M} {i : Int} (h : 0 ≤ i) (h1 : i < 12) : nbk z 116 i = z 134 i := by
  have hl : ln 116 = 12 := by decide
  unfold nbk; rw [if_pos ⟨h, by omega⟩, if_neg (by decide), if_neg (by decide), if_pos rfl]
theorem nbk_7 {z : iv_M} {i : Int} : nbk z 117 i = 0 := by
  unfold nbk
  split
  · rfl
  · rfl
theorem nbk_8 {z : iv_M} {i : Int} (h : 0 ≤ i) (h1 : i < 12) : nbk z 118 i = z 135 i := by
  have hl : ln 118 = 12 := by decide
  unfold nbk; rw [if_pos ⟨h, by omega⟩, if_neg (by decide), if_neg (by decide), if_neg (by decide), if_pos rfl]
theorem nbk_9 {z : iv_M} {i : Int} (h : 0 ≤ i) (h1 : i < 4) : nbk z 119 i = z 136 i := by
  have hl : ln 119 = 4 := by decide
  unfold nbk; rw [if_pos ⟨h, by omega⟩, if_neg (by decide), if_neg (by decide), if_neg (by decide), if_neg (by decide), if_pos rfl]
theorem nbk_20 {z : iv_M} {i : Int} (h : 0 ≤ i) (h1 : i < 6) : nbk z 120 i = z 137 i := by
  have hl : ln 120 = 6 := by decide
  unfold nbk; rw [if_pos ⟨h, by omega⟩, if_neg (by decide), if_neg (by decide), if_neg (by decide), if_neg (by decide), if_neg (by decide), if_pos rfl]
theorem nbk_21 {z : iv_M} {i : Int} (h : 0 ≤ i) (h1 : i < 16) : nbk z 121 i = z 138 i := by
  have hl : ln 121 = 16 := by decide
  unfold nbk; rw [if_pos ⟨h, by omega⟩, if_neg (by decide), if_neg (by decide), if_neg (by decide), if_neg (by decide), if_neg (by decide), if_neg (by decide), if_pos rfl]
/-- the block comes of these rows alone -/
theorem nbk_ext {z z' : iv_M} (h : ∀ a, 132 ≤ a → a ≤ 138 → z' a = z a) : nbk z' = nbk z := by
  funext a i
  unfold nbk
  rw [h 132 (by decide) (by decide), h 133 (by decide) (by decide), h 134 (by decide) (by decide), h 135 (by decide) (by decide), h 136 (by decide) (by decide), h 137 (by decide) (by decide), h 138 (by decide) (by decide)]
theorem nbk_rt {z : iv_M} {p ft : Int} : nbk (rtM z p ft) = nbk z := nbk_ext (fun a a0 a1 => rtM_o (by omega))
def WP (Q : iv_M) : Prop := Wf Q ∧ (0 ≤ Q 114 3 ∧ Q 114 3 ≤ 6) ∧ (0 ≤ Q 114 4 ∧ Q 114 4 ≤ 7) ∧ (∀ r, 0 ≤ r → r < Q 114 2 → Q 118 r = 0 ∨ Q 118 r = 1) ∧ (∀ k, 0 ≤ k → k < 4 → -1 ≤ Q 119 k ∧ Q 119 k < 12) ∧ ∀ p, 0 ≤ p → p < Q 114 3 → 0 ≤ Q 120 p ∧ Q 120 p < Q 114 2
def PFc (q : Nat) (s0 sc : iv_M) : Prop := ∀ a, a ≠ 54 → a ≠ 55 → (a < q ∨ q + 21 < a) → sc a = s0 a
def PFr (r0 sr : iv_M) : Prop := (∀ a, a ≠ 113 → (a < 132 ∨ 138 < a) → sr a = r0 a) ∧ ∀ i, i ≠ 29 → i ≠ 30 → i ≠ 38 → sr 113 i = r0 113 i
theorem PFr_rt {r0 sr : iv_M} {p ft : Int} (h : PFr r0 sr) : PFr r0 (rtM sr p ft) := ⟨fun a a0 a1 => by rw [rtM_o a0]; exact h.1 a a0 a1, fun i i1 i2 i3 => by rw [rtM_i i1 i2]; exact h.2 i i1 i2 i3⟩
theorem PFr_mu {r0 sr : iv_M} {a : Nat} {i v : Int} (h : PFr r0 sr) (a0 : 132 ≤ a) (a1 : a ≤ 138) : PFr r0 (mu sr a i v) := ⟨fun c c0 c1 => by rw [mu_rw (by omega)]; exact h.1 c c0 c1, fun j j1 j2 j3 => by rw [mu_rw (by omega)]; exact h.2 j j1 j2 j3⟩
theorem PFc_rd {s0 sc : iv_M} {q : Nat} {a b c : Int} (h : PFc q s0 sc) : PFc q s0 (rdM sc 55 a b c) := fun x x1 x2 x3 => by rw [rdM_o x2]; exact h x x1 x2 x3
theorem PFc_mu {s0 sc : iv_M} {q a : Nat} {i v : Int} (h : PFc q s0 sc) (ha : q ≤ a) (hb : a ≤ q + 21) : PFc q s0 (mu sc a i v) := fun x x1 x2 x3 => by rw [mu_rw (by omega)]; exact h x x1 x2 x3
def PS (sc sr : iv_M) (q : Nat) (b : Int → Int) (L p wt : Int) : Prop := (∃ fr, RD sc 55 b L p fr 0) ∧ sc 54 1 = wt ∧ HP sc q (nbk sr) ∧ RT sr b L p 0 ∧ sr 113 38 = wt ∧ (wt = 0 ∨ wt = 1) ∧ WP (nbk sr)
def POut (s0 r0 : iv_M) (q : Nat) (b : Int → Int) (L p : Int) (sc' sr' : iv_M) : Prop := PFc q s0 sc' ∧ PFr r0 sr' ∧ ∃ p', p ≤ p' ∧ ((p' ≤ L ∧ 0 < sr' 132 0 ∧ ∃ wt', PS sc' sr' q b L p' wt') ∨ (p' ≤ 1000 ∧ ∃ ft, 0 < ft ∧ ft ≤ 10000 ∧ sc' 55 4 = ft ∧ RT sr' b L p' ft))
def Ini (sr : iv_M) : Prop := sr 132 2 = 0 ∧ sr 132 3 = 0 ∧ sr 132 4 = 7 ∧ (∀ c, 0 ≤ c → c < 16 → sr 138 c = -1) ∧ ∀ k, 0 ≤ k → k < 4 → sr 136 k = -1
theorem nft_cases {b : Int → Int} {L p lo hi : Int} (p0 : 0 ≤ p) (p1 : p ≤ 1000) : (nft b L p lo hi 0 = 0 ∧ lo ≤ nmv b L p ∧ nmv b L p ≤ hi) ∨ (0 < nft b L p lo hi 0 ∧ nft b L p lo hi 0 ≤ 10000) := by
  unfold nft ffl
  by_cases z1 : edg b L p = p
  · rw [if_pos z1, if_pos rfl]; right; omega
  rw [if_neg z1]
  by_cases z2 : 5 < edg b L p - p ∨ nmv b L p < lo ∨ hi < nmv b L p
  · rw [if_pos z2, if_pos rfl]; right; omega
  · rw [if_neg z2]; left; omega
/-- where a number ends -/
theorem num_bd {b : Int → Int} {L e : Int} (h1 : e ≤ L) : e ≤ bl b L e ∧ bl b L e ≤ edg b L (bl b L e) ∧ edg b L (bl b L e) ≤ L := by
  have a1 : e ≤ bl b L e := rnn_ge
  have a2 : bl b L e ≤ L := rnn_le h1
  have a3 : bl b L e ≤ edg b L (bl b L e) := rnn_ge
  have a4 : edg b L (bl b L e) ≤ L := rnn_le a2
  exact ⟨a1, a3, a4⟩
theorem ini_W {sr : iv_M} (h : Ini sr) (c0 : 0 ≤ sr 132 0 ∧ sr 132 0 ≤ 4) (r0 : 0 ≤ sr 132 1 ∧ sr 132 1 ≤ 4) (hz : sr 132 0 = 0 ↔ sr 132 1 = 0) : WP (nbk sr) := by
  obtain ⟨h2, h3, h4, hat, hk⟩ := h
  have e0 : nbk sr 114 0 = sr 132 0 := nbk_4 (by omega) (by omega)
  have e1 : nbk sr 114 1 = sr 132 1 := nbk_4 (by omega) (by omega)
  have e2 : nbk sr 114 2 = 0 := by rw [nbk_4 (by omega) (by omega), h2]
  have e3 : nbk sr 114 3 = 0 := by rw [nbk_4 (by omega) (by omega), h3]
  have e4 : nbk sr 114 4 = 7 := by rw [nbk_4 (by omega) (by omega), h4]
  refine ⟨⟨⟨by rw [e0]; exact c0.1, by rw [e0]; exact c0.2, by rw [e1]; exact r0.1, by rw [e1]; exact r0.2, by rw [e2]; omega, by rw [e2]; omega, by rw [e0, e1]; exact hz, fun j j0 j1 => by rw [e2] at j1; omega⟩, fun c c0 c1 => Or.inl (by rw [nbk_21 c0 c1]; exact hat c c0 c1), fun r r0 r1 => by rw [e2] at r1; omega⟩, by rw [e3]; omega, by rw [e4]; omega, fun r r0 r1 => by rw [e2] at r1; omega, fun k k0 k1 => by rw [nbk_9 k0 k1, hk k k0 k1]; omega, fun p p0 p1 => by rw [e3] at p1; omega⟩
theorem pk_floor {N q : Nat} {s0 r0 sc sr : iv_M} {b : Int → Int} {L e fr wt : Int} (hN : 1000 ≤ N) (hq : q = 9 ∨ q = 31) (hT : TX b L) (e0 : 0 ≤ e) (e1 : e ≤ L) (hR : RD sc 55 b L e fr 0) (hw : sc 54 1 = wt) (hRT : RT sr b L e 0) (hw2 : sr 113 38 = wt) (hwt : wt = 0 ∨ wt = 1) (hi : Ini sr) (hc : PFc q s0 sc) (hr : PFr r0 sr) : ∃ sc' sr', FX5_readFloor N sc 54 q = some sc' ∧ FX12_palacePart N sr 113 0 = some sr' ∧ POut s0 r0 q b L e sc' sr' := by
  have hL := hT.2.1
  have hQ : HQ q := by unfold HQ; omega
  obtain ⟨a1, a2, a3⟩ := num_bd (b := b) e1
  obtain ⟨p1, hp1⟩ : ∃ p1, p1 = bl b L e := ⟨_, rfl⟩
  rw [← hp1] at a1 a2 a3
  obtain ⟨x1, hx1⟩ : ∃ x1, x1 = edg b L p1 := ⟨_, rfl⟩
  rw [← hx1] at a2 a3
  obtain ⟨c1, c2, c3⟩ := num_bd (b := b) a3
  obtain ⟨p2, hp2⟩ : ∃ p2, p2 = bl b L x1 := ⟨_, rfl⟩
  rw [← hp2] at c1 c2 c3
  obtain ⟨x2, hx2⟩ : ∃ x2, x2 = edg b L p2 := ⟨_, rfl⟩
  rw [← hx2] at c2 c3
  have rn1 := readNumber_ok (N := N) (lo := 1) (hi := 4) hN hR hT e0 (by omega)
  have am1 := amount_ok (N := N) (lo := 1) (hi := 4) hN hRT hT e0 (by omega)
  rw [← hp1, ← hx1] at rn1 am1
  have b132 : ∀ z : iv_M, z 132 = sr 132 → rd z 132 5 2 = some (sr 132 2) := fun z hz => by rw [rd_ok (by omega) (by omega), hz]
  unfold FX5_readFloor FX5_readFloor_b47 FX12_palacePart FX12_palacePart_b185
  simp only [Nat.reduceAdd]
  rw [rn1, Option.bind_some, b132 sr rfl, Option.bind_some, if_pos trivial, am1, Option.bind_some]
  dsimp only
  rw [wr_ok (by omega) (by omega), Option.bind_some]
  have f4 : rdM sc 55 x1 p1 (nft b L p1 1 4 0) 55 4 = nft b L p1 1 4 0 := mu_eq
  rcases nft_cases (b := b) (L := L) (p := p1) (lo := 1) (hi := 4) (by omega) (by omega) with ⟨z1, v1, v2⟩ | ⟨z1, z2⟩
  rotate_left
  · -- a fault in the columns
    rw [if_neg (by rw [f4]; omega)]
    have hRT1 : RT (mu (rtM sr x1 (nft b L p1 1 4 0)) 132 0 (nmv b L p1)) b L x1 (nft b L p1 1 4 0) := by
      have := RT_M (p' := x1) (ft' := nft b L p1 1 4 0) hRT
      exact ⟨by rw [mu_rw (by decide)]; exact this.1, by rw [mu_rw (by decide)]; exact this.2.1, by rw [mu_rw (by decide)]; exact this.2.2.1, fun i i0 i1 => by rw [mu_rw (by decide)]; exact this.2.2.2 i i0 i1⟩
    rw [amount_bad hN (by omega) hRT1 hT (by omega) (by omega), Option.bind_some]
    dsimp only
    rw [wr_ok (by omega) (by omega), Option.bind_some]
    refine ⟨_, _, rfl, rfl, PFc_rd hc, PFr_mu (PFr_rt (PFr_mu (PFr_rt hr) (by omega) (by omega))) (by omega) (by omega), p2, by omega, Or.inr ⟨by omega, _, z1, z2, f4, ?_⟩⟩
    have := RT_M (p' := bl b L x1) (ft' := nft b L p1 1 4 0) hRT1
    rw [← hp2] at this ⊢
    exact ⟨by rw [mu_rw (by decide)]; exact this.1, by rw [mu_rw (by decide)]; exact this.2.1, by rw [mu_rw (by decide)]; exact this.2.2.1, fun i i0 i1 => by rw [mu_rw (by decide)]; exact this.2.2.2 i i0 i1⟩
  rw [if_pos (by rw [f4]; exact z1), z1]
  have hR1 : RD (rdM sc 55 x1 p1 0) 55 b L x1 p1 0 := rdM_RD hR
  have hRT1 : RT (mu (rtM sr x1 0) 132 0 (nmv b L p1)) b L x1 0 := by
    have := RT_M (p' := x1) (ft' := 0) hRT
    exact ⟨by rw [mu_rw (by decide)]; exact this.1, by rw [mu_rw (by decide)]; exact this.2.1, by rw [mu_rw (by decide)]; exact this.2.2.1, fun i i0 i1 => by rw [mu_rw (by decide)]; exact this.2.2.2 i i0 i1⟩
  have rn2 := readNumber_ok (N := N) (lo := 1) (hi := 4) hN hR1 hT (by omega) (by omega)
  have am2 := amount_ok (N := N) (lo := 1) (hi := 4) hN hRT1 hT (by omega) (by omega)
  rw [← hp2, ← hx2, rdM_rdM] at rn2
  rw [← hp2, ← hx2] at am2
  rw [rn2, Option.bind_some, am2, Option.bind_some]
  dsimp only
  rw [wr_ok (by omega) (by omega), Option.bind_some]
  have f5 : rdM sc 55 x2 p2 (nft b L p2 1 4 0) 55 4 = nft b L p2 1 4 0 := mu_eq
  obtain ⟨sr', hsr⟩ : ∃ sr', sr' = mu (rtM (mu (rtM sr x1 0) 132 0 (nmv b L p1)) x2 (nft b L p2 1 4 0)) 132 1 (nmv b L p2) := ⟨_, rfl⟩
  have rF : PFr r0 sr' := by rw [hsr]; exact PFr_mu (PFr_rt (PFr_mu (PFr_rt hr) (by omega) (by omega))) (by omega) (by omega)
  have rR : RT sr' b L x2 (nft b L p2 1 4 0) := by
    have := RT_M (p' := x2) (ft' := nft b L p2 1 4 0) hRT1
    rw [hsr]
    exact ⟨by rw [mu_rw (by decide)]; exact this.1, by rw [mu_rw (by decide)]; exact this.2.1, by rw [mu_rw (by decide)]; exact this.2.2.1, fun i i0 i1 => by rw [mu_rw (by decide)]; exact this.2.2.2 i i0 i1⟩
  rw [← hsr]
  rcases nft_cases (b := b) (L := L) (p := p2) (lo := 1) (hi := 4) (by omega) (by omega) with ⟨y1, u1, u2⟩ | ⟨y1, y2⟩
  rotate_left
  · rw [if_neg (by rw [f5]; omega)]
    exact ⟨_, _, rfl, rfl, PFc_rd hc, rF, x2, by omega, Or.inr ⟨by omega, _, y1, y2, f5, rR⟩⟩
  rw [y1] at rR
  rw [if_pos (by rw [f5]; exact y1), y1]
  have so : ∀ a, a ≠ 113 → a ≠ 132 → sr' a = sr a := fun a a0 a1 => by rw [hsr, mu_rw a1, rtM_o a0, mu_rw a1, rtM_o a0]
  have s132 : ∀ i, sr' 132 i = if i = 1 then nmv b L p2 else if i = 0 then nmv b L p1 else sr 132 i := fun i => by
    rw [hsr]
    by_cases g : i = 1
    · rw [g, mu_eq, if_pos rfl]
    · rw [if_neg g, mu_ne (by omega), rtM_o (by decide)]
      by_cases k : i = 0
      · rw [k, mu_eq, if_pos rfl]
      · rw [if_neg k, mu_ne (by omega), rtM_o (by decide)]
  have ini' : Ini sr' := by
    obtain ⟨h2, h3, h4, hat, hk⟩ := hi
    exact ⟨by rw [s132, if_neg (by omega), if_neg (by omega)]; exact h2, by rw [s132, if_neg (by omega), if_neg (by omega)]; exact h3, by rw [s132, if_neg (by omega), if_neg (by omega)]; exact h4, fun c c0 c1 => by rw [so 138 (by decide) (by decide)]; exact hat c c0 c1, fun k k0 k1 => by rw [so 136 (by decide) (by decide)]; exact hk k k0 k1⟩
  have g0 : sr' 132 0 = nmv b L p1 := by rw [s132, if_neg (by omega), if_pos rfl]
  have g1 : sr' 132 1 = nmv b L p2 := by rw [s132, if_pos rfl]
  obtain ⟨sc', d1, d2, d3⟩ := build_ok (N := N) (q := q) (s := rdM sc 55 x2 p2 0) (B := nbk sr') (x := nmv b L p1) (y := nmv b L p2) (by omega) hQ (by rw [nbk_4 (by omega) (by omega), g0]) (by rw [nbk_4 (by omega) (by omega), g1]) (by rw [nbk_4 (by omega) (by omega)]; exact ini'.1) (by rw [nbk_4 (by omega) (by omega)]; exact ini'.2.1) (by rw [nbk_4 (by omega) (by omega)]; exact ini'.2.2.1) (fun c c0 c1 => by rw [nbk_21 c0 c1]; exact ini'.2.2.2.1 c c0 c1) (fun k k0 k1 => by rw [nbk_9 k0 k1]; exact ini'.2.2.2.2 k k0 k1) (by omega) (by omega) (by omega) (by omega)
  have so2 : ∀ a, (a < q ∨ q + 21 < a) → sc' a = rdM sc 55 x2 p2 0 a := fun a ha => by funext i; exact d3 a i ha
  have hR2 : RD (rdM sc 55 x2 p2 0) 55 b L x2 p2 0 := rdM_RD hR
  refine ⟨sc', sr', by rw [d1, Option.bind_some], rfl, fun a a1 a2 a3 => by rw [so2 a a3]; exact PFc_rd hc a a1 a2 a3, rF, x2, by omega, Or.inl ⟨c3, by rw [g0]; omega, wt, ⟨p2, ?_⟩, ?_, d2, rR, ?_, hwt, ini_W ini' (by rw [g0]; omega) (by rw [g1]; omega) (by rw [g0, g1]; omega)⟩⟩
  · have e5 := so2 55 (by omega)
    have e1' := so2 1 (by omega)
    exact ⟨by rw [e5]; exact hR2.1, by rw [e5]; exact hR2.2.1, by rw [e5]; exact hR2.2.2.1, by rw [e5]; exact hR2.2.2.2.1, by rw [e5]; exact hR2.2.2.2.2.1, by decide, fun i i0 i1 => by rw [e1']; exact hR2.2.2.2.2.2.2 i i0 i1⟩
  · rw [so2 54 (by omega), rdM_o (by decide)]; exact hw
  · rw [hsr, mu_rw (by decide), rtM_i (by omega) (by omega), mu_rw (by decide), rtM_i (by omega) (by omega)]; exact hw2
