-- PALACE: fixed rooms, keys, people, ways
theorem bit_set {x r i : Int} {n : Nat} (x0 : 0 ≤ x) (x1 : x < 2 ^ n) (hn : n ≤ 12) (r0 : 0 ≤ r) (r1 : r < n) (i0 : 0 ≤ i) : (0 ≤ bOr x (sl32 1 r) ∧ bOr x (sl32 1 r) < 2 ^ n) ∧ bOr x (sl32 1 r) / 2 ^ i.toNat % 2 = if i = r then 1 else x / 2 ^ i.toNat % 2 := by
  obtain ⟨x, rfl⟩ := Int.eq_ofNat_of_zero_le x0
  obtain ⟨r, rfl⟩ := Int.eq_ofNat_of_zero_le r0
  obtain ⟨i, rfl⟩ := Int.eq_ofNat_of_zero_le i0
  have hp : (2 : Nat) ^ r < 2 ^ n := Nat.pow_lt_pow_right (by decide) (by omega)
  have hp12 : (2 : Nat) ^ n ≤ 2 ^ 12 := Nat.pow_le_pow_right (by decide) hn
  have x1' : x < 2 ^ n := by
    have : ((x : Nat) : Int) < ((2 ^ n : Nat) : Int) := by rw [Int.natCast_pow]; exact x1
    omega
  rw [sl32_1 (by omega) (by omega), Int.toNat_natCast, Int.toNat_natCast, bOr_nat (by omega) (by omega)]
  have hx : x ||| 2 ^ r < 2 ^ n := Nat.or_lt_two_pow x1' hp
  refine ⟨⟨by omega, ?_⟩, ?_⟩
  · have : (((x ||| 2 ^ r : Nat)) : Int) < ((2 ^ n : Nat) : Int) := by omega
    rw [Int.natCast_pow] at this; exact this
  have e1 : ((x ||| 2 ^ r : Nat) : Int) / 2 ^ i % 2 = (((x ||| 2 ^ r) / 2 ^ i % 2 : Nat) : Int) := by
    rw [Int.natCast_emod, Int.natCast_ediv, Int.natCast_pow]; rfl
  have e2 : ∀ j : Nat, (x : Int) / 2 ^ j % 2 = ((x / 2 ^ j % 2 : Nat) : Int) := fun j => by
    rw [Int.natCast_emod, Int.natCast_ediv, Int.natCast_pow]; rfl
  rw [e1, e2, ← Nat.toNat_testBit, ← Nat.toNat_testBit, Nat.testBit_or, Nat.testBit_two_pow]
  by_cases h : r = i
  · subst h
    rw [if_pos rfl]
    simp
  · rw [if_neg (by omega)]
    simp [h]
theorem Ew_nbk {z z' : iv_M} (h0 : z' 132 0 = z 132 0) (h1 : z' 132 1 = z 132 1) (h2 : z' 132 2 = z 132 2) (h3 : z' 133 = z 133) (h4 : z' 134 = z 134) (h8 : z' 138 = z 138) : Ew (nbk z) (nbk z') := by
  refine ⟨by rw [nbk_4 (by omega) (by omega), nbk_4 (by omega) (by omega), h0], by rw [nbk_4 (by omega) (by omega), nbk_4 (by omega) (by omega), h1], by rw [nbk_4 (by omega) (by omega), nbk_4 (by omega) (by omega), h2], ?_, ?_, ?_, ?_⟩
  · funext i; unfold nbk; rw [h3]; rfl
  · funext i; unfold nbk; rw [h4]; rfl
  · funext i; rw [nbk_7, nbk_7]
  · funext i; unfold nbk; rw [h8]; rfl
theorem RT_mu {s : iv_M} {b : Int → Int} {L p ft : Int} {a : Nat} {i v : Int} (h : RT s b L p ft) (h1 : a ≠ 113) (h2 : a ≠ 139) : RT (mu s a i v) b L p ft :=
  ⟨by rw [mu_rw (Ne.symm h1)]; exact h.1, by rw [mu_rw (Ne.symm h1)]; exact h.2.1, by rw [mu_rw (Ne.symm h1)]; exact h.2.2.1, fun i i0 i1 => by rw [mu_rw (Ne.symm h2)]; exact h.2.2.2 i i0 i1⟩
theorem RD_mu {s : iv_M} {b : Int → Int} {L p fr ft : Int} {a : Nat} {i v : Int} (h : RD s 55 b L p fr ft) (h1 : a ≠ 55) (h2 : a ≠ 1) : RD (mu s a i v) 55 b L p fr ft :=
  ⟨by rw [mu_rw (Ne.symm h1)]; exact h.1, by rw [mu_rw (Ne.symm h1)]; exact h.2.1, by rw [mu_rw (Ne.symm h1)]; exact h.2.2.1, by rw [mu_rw (Ne.symm h1)]; exact h.2.2.2.1, by rw [mu_rw (Ne.symm h1)]; exact h.2.2.2.2.1, by decide, fun i i0 i1 => by rw [mu_rw (Ne.symm h2)]; exact h.2.2.2.2.2.2 i i0 i1⟩
theorem pp_2 {N : Nat} {z : iv_M} : FX12_palacePart N z 113 2 = ((FX12_amount N z 113 0 (w32 (z 132 2 - 1))).bind fun r => if r.2 113 30 = 0 then ((wr r.2 135 12 r.1 1).bind fun s => some s) else some r.2) := by
  unfold FX12_palacePart FX12_palacePart_b185
  simp only [Nat.reduceAdd]
  rw [rd_ok (by omega) (by omega), Option.bind_some, if_neg (by decide), if_neg (by decide), if_pos trivial]
theorem pp_3 {N : Nat} {z : iv_M} : FX12_palacePart N z 113 3 = ((FX12_amount N z 113 1 4).bind fun r => ((FX12_amount N r.2 113 0 (w32 (z 132 2 - 1))).bind fun u => if u.2 113 30 = 0 then ((wr u.2 136 4 (w32 (r.1 - 1)) u.1).bind fun s => some s) else some u.2)) := by
  unfold FX12_palacePart FX12_palacePart_b185
  simp only [Nat.reduceAdd]
  rw [rd_ok (by omega) (by omega), Option.bind_some, if_neg (by decide), if_neg (by decide), if_neg (by decide), if_pos trivial]
theorem pp_4 {N : Nat} {z : iv_M} : FX12_palacePart N z 113 4 = ((FX12_amount N z 113 0 (w32 (z 132 2 - 1))).bind fun r => ((wr r.2 137 6 (z 132 3) r.1).bind fun s => ((wr s 132 5 3 (w32 (s 132 3 + 1))).bind fun s' => some s'))) := by
  unfold FX12_palacePart FX12_palacePart_b185
  simp only [Nat.reduceAdd]
  rw [rd_ok (by omega) (by omega), Option.bind_some, if_neg (by decide), if_neg (by decide), if_neg (by decide), if_neg (by decide), if_pos trivial, rd_ok (by omega) (by omega), Option.bind_some]
  rfl
theorem pp_5 {N : Nat} {z : iv_M} : FX12_palacePart N z 113 5 = ((FX12_amount N z 113 1 7).bind fun r => ((wr r.2 132 5 4 r.1).bind fun s => some (mu s 113 38 1))) := by
  unfold FX12_palacePart FX12_palacePart_b185
  simp only [Nat.reduceAdd]
  rw [rd_ok (by omega) (by omega), Option.bind_some, if_neg (by decide), if_neg (by decide), if_neg (by decide), if_neg (by decide), if_neg (by decide)]
  rfl
theorem pk_fixed {N q : Nat} {s0 r0 sc sr : iv_M} {b : Int → Int} {L e fr wt : Int} (hN : 1000 ≤ N) (hq : q = 9 ∨ q = 31) (hT : TX b L) (e0 : 0 ≤ e) (e1 : e ≤ L) (hR : RD sc 55 b L e fr 0) (hw : sc 54 1 = wt) (hRT : RT sr b L e 0) (hw2 : sr 113 38 = wt) (hwt : wt = 0 ∨ wt = 1) (hcol : 0 < sr 132 0) (hH : HP sc q (nbk sr)) (hW : WP (nbk sr)) (hc : PFc q s0 sc) (hr : PFr r0 sr) : ∃ sc' sr', FX5_readFixed N sc 54 q = some sc' ∧ FX12_palacePart N sr 113 2 = some sr' ∧ POut s0 r0 q b L e sc' sr' := by
  have hL := hT.2.1
  obtain ⟨a1, a2, a3⟩ := num_bd (b := b) e1
  obtain ⟨p1, hp1⟩ : ∃ p1, p1 = bl b L e := ⟨_, rfl⟩
  rw [← hp1] at a1 a2 a3
  obtain ⟨x1, hx1⟩ : ∃ x1, x1 = edg b L p1 := ⟨_, rfl⟩
  rw [← hx1] at a2 a3
  have n2 : nbk sr 114 2 = sr 132 2 := nbk_4 (by omega) (by omega)
  have n0 : 0 ≤ sr 132 2 := by have := hW.1.1.2.2.2.2.1; rw [n2] at this; exact this
  have n12 : sr 132 2 ≤ 12 := by have := hW.1.1.2.2.2.2.2.1; rw [n2] at this; exact this
  have sc2 : sc (q + 1) 2 = sr 132 2 := by rw [← n2]; exact hH.2.2.2.2.2.1.1.2.2.1
  have rn1 := readNumber_ok (N := N) (lo := 0) (hi := sr 132 2 - 1) hN hR hT e0 (by omega)
  have am1 := amount_ok (N := N) (lo := 0) (hi := sr 132 2 - 1) hN hRT hT e0 (by omega)
  rw [← hp1, ← hx1] at rn1 am1
  rw [pp_2]
  unfold FX5_readFixed FX5_readFixed_b40
  simp only [Nat.reduceAdd]
  rw [sc2, w32_id (x := sr 132 2 - 1) (by omega) (by omega), rn1, Option.bind_some, am1, Option.bind_some]
  dsimp only
  have f4 : rdM sc 55 x1 p1 (nft b L p1 0 (sr 132 2 - 1) 0) 55 4 = nft b L p1 0 (sr 132 2 - 1) 0 := mu_eq
  rcases nft_cases (b := b) (L := L) (p := p1) (lo := 0) (hi := sr 132 2 - 1) (by omega) (by omega) with ⟨z1, v1, v2⟩ | ⟨z1, z2⟩
  rotate_left
  · rw [if_neg (by rw [f4]; omega), if_neg (by rw [rtM_f]; omega)]
    exact ⟨_, _, rfl, rfl, PFc_rd hc, PFr_rt hr, x1, by omega, Or.inr ⟨by omega, _, z1, z2, f4, RT_M hRT⟩⟩
  rw [if_pos (by rw [f4]; exact z1), if_pos (by rw [rtM_f]; exact z1), z1, pt_ok, Option.bind_some, wr_ok (by omega) (by omega), Option.bind_some]
  obtain ⟨v, hv⟩ : ∃ v, v = nmv b L p1 := ⟨_, rfl⟩
  rw [← hv] at v1 v2 ⊢
  obtain ⟨sr', hsr⟩ : ∃ sr', sr' = mu (rtM sr x1 0) 135 v 1 := ⟨_, rfl⟩
  have qo : rdM sc 55 x1 p1 0 q = sc q := rdM_o (by omega)
  rw [qo, ← hsr]
  obtain ⟨sc', hsc⟩ : ∃ sc', sc' = mu (rdM sc 55 x1 p1 0) q 3 (bOr (sc q 3) (sl32 1 v)) := ⟨_, rfl⟩
  rw [← hsc]
  have so : ∀ a, a ≠ 113 → a ≠ 135 → sr' a = sr a := fun a a0 a1 => by rw [hsr, mu_rw a1, rtM_o a0]
  have s113 : ∀ i, i ≠ 29 → i ≠ 30 → sr' 113 i = sr 113 i := fun i i1 i2 => by rw [hsr, mu_rw (by decide), rtM_i i1 i2]
  have ew : Ew (nbk sr) (nbk sr') := Ew_nbk (by rw [so 132 (by decide) (by decide)]) (by rw [so 132 (by decide) (by decide)]) (by rw [so 132 (by decide) (by decide)]) (so _ (by decide) (by decide)) (so _ (by decide) (by decide)) (so _ (by decide) (by decide))
  have k4 : ∀ i, 0 ≤ i → i < 5 → nbk sr' 114 i = nbk sr 114 i := fun i i0 i1 => by rw [nbk_4 i0 i1, nbk_4 i0 i1, so 132 (by decide) (by decide)]
  have k8 : ∀ r, 0 ≤ r → r < 12 → nbk sr' 118 r = if r = v then 1 else nbk sr 118 r := fun r u0 u1 => by
    rw [nbk_8 u0 u1, nbk_8 u0 u1, hsr]
    by_cases g : r = v
    · rw [if_pos g, g, mu_eq]
    · rw [if_neg g, mu_ne (by omega), rtM_o (by decide)]
  have k9 : ∀ k, 0 ≤ k → k < 4 → nbk sr' 119 k = nbk sr 119 k := fun k u0 u1 => by rw [nbk_9 u0 u1, nbk_9 u0 u1, so 136 (by decide) (by decide)]
  have k20 : ∀ p, 0 ≤ p → p < 6 → nbk sr' 120 p = nbk sr 120 p := fun p u0 u1 => by rw [nbk_20 u0 u1, nbk_20 u0 u1, so 137 (by decide) (by decide)]
  have co : ∀ a, a ≠ 55 → a ≠ q → sc' a = sc a := fun a c1 c2 => by rw [hsc, mu_rw c2, rdM_o c1]
  have cq : ∀ i, i ≠ 3 → sc' q i = sc q i := fun i hi => by rw [hsc, mu_ne (by omega), qo]
  obtain ⟨h1, h2, ⟨h3, h3', h3''⟩, h4, h5, ⟨h6, h7⟩, h8, h9⟩ := hH
  obtain ⟨w1, w2, w3, w4, w5, w6⟩ := hW
  rw [n2] at h3''
  refine ⟨sc', sr', rfl, rfl, by rw [hsc]; exact PFc_mu (PFc_rd hc) (by omega) (by omega), by rw [hsr]; exact PFr_mu (PFr_rt hr) (by omega) (by omega), x1, by omega, Or.inl ⟨a3, by rw [so 132 (by decide) (by decide)]; exact hcol, wt, ⟨p1, by rw [hsc]; exact RD_mu (rdM_RD hR) (by omega) (by omega)⟩, by rw [co 54 (by omega) (by omega)]; exact hw, ⟨?_, ?_, ⟨fun r u0 u1 => ?_, ?_, ?_⟩, ?_, fun p u0 u1 => ?_, ⟨ew_FRc ew (FRc_ext (fun a u v => co a (by omega) (by omega)) h6), ew_FP ew (FP_ext (co _ (by omega) (by omega)) h7)⟩, fun k u0 u1 => ?_, ?_⟩, by rw [hsr]; exact RT_mu (RT_M hRT) (by decide) (by decide), by rw [s113 38 (by omega) (by omega)]; exact hw2, hwt, ⟨ew_Wf ew w1, by rw [k4 3 (by omega) (by omega)]; exact w2, by rw [k4 4 (by omega) (by omega)]; exact w3, fun r u0 u1 => ?_, fun k u0 u1 => by rw [k9 k u0 u1]; exact w5 k u0 u1, fun p u0 u1 => ?_⟩⟩⟩
  · rw [cq 0 (by omega)]; exact h1
  · rw [cq 1 (by omega), cq 2 (by omega), k4 4 (by omega) (by omega), k4 3 (by omega) (by omega)]; exact h2
  · rw [k4 2 (by omega) (by omega), n2] at u1
    have := (bit_set (x := sc q 3) (r := v) (i := r) (n := (sr 132 2).toNat) h3' h3'' (by omega) (by omega) (by omega) u0).2
    rw [hsc, mu_eq, this, k8 r u0 (by omega)]
    by_cases g : r = v
    · rw [if_pos g, if_pos g]
    · rw [if_neg g, if_neg g]; exact h3 r u0 (by rw [n2]; exact u1)
  · rw [hsc, mu_eq]; exact (bit_set (x := sc q 3) (r := v) (i := 0) (n := (sr 132 2).toNat) h3' h3'' (by omega) (by omega) (by omega) (by omega)).1.1
  · rw [hsc, mu_eq, k4 2 (by omega) (by omega), n2]; exact (bit_set (x := sc q 3) (r := v) (i := 0) (n := (sr 132 2).toNat) h3' h3'' (by omega) (by omega) (by omega) (by omega)).1.2
  · rw [cq 4 (by omega), cq 5 (by omega), cq 6 (by omega), cq 8 (by omega)]; exact h4
  · rw [k4 3 (by omega) (by omega)] at u1
    rw [co _ (by omega) (by omega), k20 p u0 (by omega)]; exact h5 p u0 u1
  · rw [co _ (by omega) (by omega), k9 k u0 u1]; exact h8 k u0 u1
  · rw [co (q + 10) (by omega) (by omega), co (q + 12) (by omega) (by omega), co (q + 16) (by omega) (by omega), co (q + 18) (by omega) (by omega), co (q + 20) (by omega) (by omega)]; exact h9
  · rw [k4 2 (by omega) (by omega), n2] at u1
    rw [k8 r u0 (by omega)]
    by_cases g : r = v
    · rw [if_pos g]; right; rfl
    · rw [if_neg g]; exact w4 r u0 (by rw [n2]; exact u1)
  · rw [k4 3 (by omega) (by omega)] at u1
    rw [k4 2 (by omega) (by omega), k20 p u0 (by omega)]; exact w6 p u0 u1
