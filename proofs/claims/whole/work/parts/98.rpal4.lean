-- PALACE: keys, people, ways
theorem pk_key {N q : Nat} {s0 r0 sc sr : iv_M} {b : Int → Int} {L e fr wt : Int} (hN : 1000 ≤ N) (hq : q = 9 ∨ q = 31) (hT : TX b L) (e0 : 0 ≤ e) (e1 : e ≤ L) (hR : RD sc 55 b L e fr 0) (hw : sc 54 1 = wt) (hRT : RT sr b L e 0) (hw2 : sr 113 38 = wt) (hwt : wt = 0 ∨ wt = 1) (hcol : 0 < sr 132 0) (hH : HP sc q (nbk sr)) (hW : WP (nbk sr)) (hc : PFc q s0 sc) (hr : PFr r0 sr) : ∃ sc' sr', FX5_readKey N sc 54 q = some sc' ∧ FX12_palacePart N sr 113 3 = some sr' ∧ POut s0 r0 q b L e sc' sr' := by
  have hL := hT.2.1
  obtain ⟨a1, a2, a3⟩ := num_bd (b := b) e1
  obtain ⟨p1, hp1⟩ : ∃ p1, p1 = bl b L e := ⟨_, rfl⟩
  rw [← hp1] at a1 a2 a3
  obtain ⟨x1, hx1⟩ : ∃ x1, x1 = edg b L p1 := ⟨_, rfl⟩
  rw [← hx1] at a2 a3
  have n2 : nbk sr 114 2 = sr 132 2 := nbk_4 (by omega) (by omega)
  have n3 : nbk sr 114 3 = sr 132 3 := nbk_4 (by omega) (by omega)
  have n0 : 0 ≤ sr 132 2 := by have := hW.1.1.2.2.2.2.1; rw [n2] at this; exact this
  have n12 : sr 132 2 ≤ 12 := by have := hW.1.1.2.2.2.2.2.1; rw [n2] at this; exact this
  have sc2 : sc (q + 1) 2 = sr 132 2 := by rw [← n2]; exact hH.2.2.2.2.2.1.1.2.2.1
  obtain ⟨c1, c2, c3⟩ := num_bd (b := b) a3
  obtain ⟨p2, hp2⟩ : ∃ p2, p2 = bl b L x1 := ⟨_, rfl⟩
  rw [← hp2] at c1 c2 c3
  obtain ⟨x2, hx2⟩ : ∃ x2, x2 = edg b L p2 := ⟨_, rfl⟩
  rw [← hx2] at c2 c3
  have rn1 := readNumber_ok (N := N) (lo := 1) (hi := 4) hN hR hT e0 (by omega)
  have am1 := amount_ok (N := N) (lo := 1) (hi := 4) hN hRT hT e0 (by omega)
  rw [← hp1, ← hx1] at rn1 am1
  rw [pp_3]
  unfold FX5_readKey FX5_readKey_b56
  simp only [Nat.reduceAdd]
  rw [rn1, Option.bind_some, am1, Option.bind_some, w32_id (x := sr 132 2 - 1) (by omega) (by omega)]
  dsimp only
  have f4 : rdM sc 55 x1 p1 (nft b L p1 1 4 0) 55 4 = nft b L p1 1 4 0 := mu_eq
  have q2o : ∀ u v w : Int, rdM sc 55 u v w (q + 1) 2 = sr 132 2 := fun u v w => by rw [rdM_o (by omega)]; exact sc2
  rcases nft_cases (b := b) (L := L) (p := p1) (lo := 1) (hi := 4) (by omega) (by omega) with ⟨z1, v1, v2⟩ | ⟨z1, z2⟩
  rotate_left
  · rw [if_neg (by rw [f4]; omega), amount_bad hN (by omega) (RT_M hRT) hT (by omega) (by omega), Option.bind_some]
    dsimp only
    rw [rtM_rtM, if_neg (by rw [rtM_f]; omega), ← hp2]
    exact ⟨_, _, rfl, rfl, PFc_rd hc, PFr_rt hr, p2, by omega, Or.inr ⟨by omega, _, z1, z2, f4, RT_M hRT⟩⟩
  rw [if_pos (by rw [f4]; exact z1), q2o, w32_id (x := sr 132 2 - 1) (by omega) (by omega), z1]
  have rn2 := readNumber_ok (N := N) (lo := 0) (hi := sr 132 2 - 1) hN (rdM_RD (pl := x1) (fr' := p1) (ft' := 0) hR) hT (by omega) (by omega)
  have am2 := amount_ok (N := N) (lo := 0) (hi := sr 132 2 - 1) hN (RT_M (p' := x1) (ft' := 0) hRT) hT (by omega) (by omega)
  rw [← hp2, ← hx2, rdM_rdM] at rn2
  rw [← hp2, ← hx2, rtM_rtM] at am2
  rw [rn2, Option.bind_some, am2, Option.bind_some]
  dsimp only
  have f5 : rdM sc 55 x2 p2 (nft b L p2 0 (sr 132 2 - 1) 0) 55 4 = nft b L p2 0 (sr 132 2 - 1) 0 := mu_eq
  rcases nft_cases (b := b) (L := L) (p := p2) (lo := 0) (hi := sr 132 2 - 1) (by omega) (by omega) with ⟨y1, u1, u2⟩ | ⟨y1, y2⟩
  rotate_left
  · rw [if_neg (by rw [f5]; omega), if_neg (by rw [rtM_f]; omega)]
    exact ⟨_, _, rfl, rfl, PFc_rd hc, PFr_rt hr, x2, by omega, Or.inr ⟨by omega, _, y1, y2, f5, RT_M hRT⟩⟩
  obtain ⟨k, hk⟩ : ∃ k, k = nmv b L p1 := ⟨_, rfl⟩
  obtain ⟨v, hv⟩ : ∃ v, v = nmv b L p2 := ⟨_, rfl⟩
  rw [← hk] at v1 v2
  rw [← hv] at u1 u2
  rw [if_pos (by rw [f5]; exact y1), if_pos (by rw [rtM_f]; exact y1), y1, ← hk, ← hv, wr_ok (by omega) (by omega), Option.bind_some, w32_id (x := k - 1) (by omega) (by omega), wr_ok (by omega) (by omega), Option.bind_some]
  obtain ⟨sr', hsr⟩ : ∃ sr', sr' = mu (rtM sr x2 0) 136 (k - 1) v := ⟨_, rfl⟩
  obtain ⟨sc', hsc⟩ : ∃ sc', sc' = mu (rdM sc 55 x2 p2 0) (q + 8) k v := ⟨_, rfl⟩
  rw [← hsr, ← hsc]
  have so : ∀ a, a ≠ 113 → a ≠ 136 → a ≠ 1000 → sr' a = sr a := fun a a0 a1 _ => by rw [hsr, mu_rw a1, rtM_o a0]
  have s132 : ∀ i : Int, i ≠ 1000 → sr' 132 i = sr 132 i := fun i _ => by rw [so 132 (by decide) (by decide) (by decide)]
  have s113 : ∀ i, i ≠ 29 → i ≠ 30 → sr' 113 i = sr 113 i := fun i i1 i2 => by rw [hsr, mu_rw (by decide), rtM_i i1 i2]
  have co : ∀ a, a ≠ 55 → a ≠ q + 8 → sc' a = sc a := fun a c1 c2 => by rw [hsc, mu_rw c2, rdM_o c1]
  have ew : Ew (nbk sr) (nbk sr') := Ew_nbk (s132 0 (by omega)) (s132 1 (by omega)) (s132 2 (by omega)) (so _ (by decide) (by decide) (by decide)) (so _ (by decide) (by decide) (by decide)) (so _ (by decide) (by decide) (by decide))
  have k8 : ∀ r, 0 ≤ r → r < 12 → nbk sr' 118 r = nbk sr 118 r := fun r u0 u1 => by rw [nbk_8 u0 u1, nbk_8 u0 u1, so 135 (by decide) (by decide) (by decide)]
  obtain ⟨h1, h2, ⟨h3, h3', h3''⟩, h4, h5, ⟨h6, h7⟩, h8, h9⟩ := hH
  obtain ⟨w1, w2, w3, w4, w5, w6⟩ := hW
  have m2 : nbk sr' 114 2 = nbk sr 114 2 := by rw [nbk_4 (by omega) (by omega), n2, s132 2 (by omega)]
  have k4 : ∀ i, 0 ≤ i → i < 5 → nbk sr' 114 i = nbk sr 114 i := fun i i0 i1 => by rw [nbk_4 i0 i1, nbk_4 i0 i1, s132 i (by omega)]
  have k20 : ∀ p, 0 ≤ p → p < 6 → nbk sr' 120 p = nbk sr 120 p := fun p u0 u1 => by rw [nbk_20 u0 u1, nbk_20 u0 u1, so 137 (by decide) (by decide) (by decide)]
  have k9 : ∀ j, 0 ≤ j → j < 4 → nbk sr' 119 j = if j = k - 1 then v else nbk sr 119 j := fun j u0 u1 => by
    rw [nbk_9 u0 u1, nbk_9 u0 u1, hsr]
    by_cases g : j = k - 1
    · rw [if_pos g, g, mu_eq]
    · rw [if_neg g, mu_ne (by omega), rtM_o (by decide)]
  refine ⟨sc', sr', rfl, rfl, by rw [hsc]; exact PFc_mu (PFc_rd hc) (by omega) (by omega), by rw [hsr]; exact PFr_mu (PFr_rt hr) (by omega) (by omega), x2, by omega, Or.inl ⟨c3, by rw [s132 0 (by omega)]; exact hcol, wt, ⟨p2, by rw [hsc]; exact RD_mu (rdM_RD hR) (by omega) (by omega)⟩, by rw [co 54 (by omega) (by omega)]; exact hw, ⟨?_, ?_, ⟨fun r u0 u1 => ?_, ?_, ?_⟩, ?_, fun p u0 u1 => ?_, ⟨ew_FRc ew (FRc_ext (fun a u v => co a (by omega) (by omega)) h6), ew_FP ew (FP_ext (co _ (by omega) (by omega)) h7)⟩, fun j u0 u1 => ?_, ?_⟩, by rw [hsr]; exact RT_mu (RT_M hRT) (by decide) (by decide), by rw [s113 38 (by omega) (by omega)]; exact hw2, hwt, ⟨ew_Wf ew w1, by rw [k4 3 (by omega) (by omega)]; exact w2, by rw [k4 4 (by omega) (by omega)]; exact w3, fun r u0 u1 => ?_, fun j u0 u1 => ?_, fun p u0 u1 => ?_⟩⟩⟩
  · rw [co q (by omega) (by omega)]; exact h1
  · rw [co q (by omega) (by omega), k4 4 (by omega) (by omega), k4 3 (by omega) (by omega)]; exact h2
  · rw [m2] at u1
    rw [co q (by omega) (by omega), k8 r u0 (by omega)]; exact h3 r u0 u1
  · rw [co q (by omega) (by omega)]; exact h3'
  · rw [co q (by omega) (by omega), m2]; exact h3''
  · rw [co q (by omega) (by omega)]; exact h4
  · rw [k4 3 (by omega) (by omega)] at u1
    rw [co _ (by omega) (by omega), k20 p u0 (by omega)]; exact h5 p u0 u1
  · rw [k9 j u0 u1, hsc]
    by_cases g : j = k - 1
    · rw [if_pos g, show j + 1 = k by omega, mu_eq]
    · rw [if_neg g, mu_ne (by omega), rdM_o (by omega)]; exact h8 j u0 u1
  · rw [co (q + 10) (by omega) (by omega), co (q + 12) (by omega) (by omega), co (q + 16) (by omega) (by omega), co (q + 18) (by omega) (by omega), co (q + 20) (by omega) (by omega)]; exact h9
  · rw [m2] at u1
    rw [k8 r u0 (by omega)]; exact w4 r u0 u1
  · rw [k9 j u0 u1]
    by_cases g : j = k - 1
    · rw [if_pos g]; omega
    · rw [if_neg g]; exact w5 j u0 u1
  · rw [k4 3 (by omega) (by omega)] at u1
    rw [m2, k20 p u0 (by omega)]; exact w6 p u0 u1
theorem pk_person {N q : Nat} {s0 r0 sc sr : iv_M} {b : Int → Int} {L e fr wt : Int} (hN : 1000 ≤ N) (hq : q = 9 ∨ q = 31) (hT : TX b L) (e0 : 0 ≤ e) (e1 : e ≤ L) (hR : RD sc 55 b L e fr 0) (hw : sc 54 1 = wt) (hRT : RT sr b L e 0) (hw2 : sr 113 38 = wt) (hwt : wt = 0 ∨ wt = 1) (hcol : 0 < sr 132 0) (hH : HP sc q (nbk sr)) (hW : WP (nbk sr)) (hc : PFc q s0 sc) (hr : PFr r0 sr) (h6p : sr 132 3 < 6) : ∃ sc' sr', FX5_readPerson N sc 54 q = some sc' ∧ FX12_palacePart N sr 113 4 = some sr' ∧ POut s0 r0 q b L e sc' sr' := by
  have hL := hT.2.1
  obtain ⟨a1, a2, a3⟩ := num_bd (b := b) e1
  obtain ⟨p1, hp1⟩ : ∃ p1, p1 = bl b L e := ⟨_, rfl⟩
  rw [← hp1] at a1 a2 a3
  obtain ⟨x1, hx1⟩ : ∃ x1, x1 = edg b L p1 := ⟨_, rfl⟩
  rw [← hx1] at a2 a3
  have n2 : nbk sr 114 2 = sr 132 2 := nbk_4 (by omega) (by omega)
  have n3 : nbk sr 114 3 = sr 132 3 := nbk_4 (by omega) (by omega)
  have n0 : 0 ≤ sr 132 2 := by have := hW.1.1.2.2.2.2.1; rw [n2] at this; exact this
  have n12 : sr 132 2 ≤ 12 := by have := hW.1.1.2.2.2.2.2.1; rw [n2] at this; exact this
  have sc2 : sc (q + 1) 2 = sr 132 2 := by rw [← n2]; exact hH.2.2.2.2.2.1.1.2.2.1
  have m0 : 0 ≤ sr 132 3 := by have := hW.2.1.1; rw [n3] at this; exact this
  have rn1 := readNumber_ok (N := N) (lo := 0) (hi := sr 132 2 - 1) hN hR hT e0 (by omega)
  have am1 := amount_ok (N := N) (lo := 0) (hi := sr 132 2 - 1) hN hRT hT e0 (by omega)
  rw [← hp1, ← hx1] at rn1 am1
  rw [pp_4]
  unfold FX5_readPerson FX5_readPerson_b48
  simp only [Nat.reduceAdd]
  rw [sc2, w32_id (x := sr 132 2 - 1) (by omega) (by omega), rn1, Option.bind_some, am1, Option.bind_some]
  dsimp only
  have f4 : rdM sc 55 x1 p1 (nft b L p1 0 (sr 132 2 - 1) 0) 55 4 = nft b L p1 0 (sr 132 2 - 1) 0 := mu_eq
  have qo : ∀ f : Int, rdM sc 55 x1 p1 f q = sc q := fun f => rdM_o (by omega)
  have q2 : sc q 2 = sr 132 3 := by rw [← n3]; exact hH.2.1.2
  obtain ⟨v, hv⟩ : ∃ v, v = nmv b L p1 := ⟨_, rfl⟩
  have w1r : ∀ f : Int, (wr (rtM sr x1 f) 137 6 (sr 132 3) v).bind (fun s => ((wr s 132 5 3 (w32 (s 132 3 + 1))).bind fun s' => some s')) = some (mu (mu (rtM sr x1 f) 137 (sr 132 3) v) 132 3 (sr 132 3 + 1)) := fun f => by
    rw [wr_ok m0 h6p, Option.bind_some, wr_ok (by omega) (by omega), Option.bind_some, mu_rw (show (132 : Nat) ≠ 137 by decide), rtM_o (by decide), w32_id (by omega) (by omega)]
  rw [← hv, w1r]
  rcases nft_cases (b := b) (L := L) (p := p1) (lo := 0) (hi := sr 132 2 - 1) (by omega) (by omega) with ⟨z1, v1, v2⟩ | ⟨z1, z2⟩
  rotate_left
  · rw [if_neg (by rw [f4]; omega)]
    exact ⟨_, _, rfl, rfl, PFc_rd hc, PFr_mu (PFr_mu (PFr_rt hr) (by omega) (by omega)) (by omega) (by omega), x1, by omega, Or.inr ⟨by omega, _, z1, z2, f4, RT_mu (RT_mu (RT_M hRT) (by decide) (by decide)) (by decide) (by decide)⟩⟩
  rw [← hv] at v1 v2
  rw [if_pos (by rw [f4]; exact z1), z1, qo, q2, wr_ok m0 h6p, Option.bind_some, pt_ok, Option.bind_some, mu_rw (show q ≠ q + 9 by omega), qo, q2, w32_id (by omega) (by omega)]
  obtain ⟨sr', hsr⟩ : ∃ sr', sr' = mu (mu (rtM sr x1 0) 137 (sr 132 3) v) 132 3 (sr 132 3 + 1) := ⟨_, rfl⟩
  obtain ⟨sc', hsc⟩ : ∃ sc', sc' = mu (mu (rdM sc 55 x1 p1 0) (q + 9) (sr 132 3) v) q 2 (sr 132 3 + 1) := ⟨_, rfl⟩
  rw [← hsr, ← hsc]
  have so : ∀ a, a ≠ 113 → a ≠ 137 → a ≠ 132 → sr' a = sr a := fun a a0 a1 a2 => by rw [hsr, mu_rw a2, mu_rw a1, rtM_o a0]
  have s132 : ∀ i : Int, i ≠ 3 → sr' 132 i = sr 132 i := fun i hi => by rw [hsr, mu_ne (by omega), mu_rw (by decide), rtM_o (by decide)]
  have s3 : sr' 132 3 = sr 132 3 + 1 := by rw [hsr, mu_eq]
  have s113 : ∀ i, i ≠ 29 → i ≠ 30 → sr' 113 i = sr 113 i := fun i i1 i2 => by rw [hsr, mu_rw (by decide), mu_rw (by decide), rtM_i i1 i2]
  have co : ∀ a, a ≠ 55 → a ≠ q + 9 → a ≠ q → sc' a = sc a := fun a c1 c2 c3 => by rw [hsc, mu_rw c3, mu_rw c2, rdM_o c1]
  have cq : ∀ i, i ≠ 2 → sc' q i = sc q i := fun i hi => by rw [hsc, mu_ne (by omega), mu_rw (by omega), rdM_o (by omega)]
  have cq2 : sc' q 2 = sr 132 3 + 1 := by rw [hsc, mu_eq]
  have ew : Ew (nbk sr) (nbk sr') := Ew_nbk (s132 0 (by omega)) (s132 1 (by omega)) (s132 2 (by omega)) (so _ (by decide) (by decide) (by decide)) (so _ (by decide) (by decide) (by decide)) (so _ (by decide) (by decide) (by decide))
  have k8 : ∀ r, 0 ≤ r → r < 12 → nbk sr' 118 r = nbk sr 118 r := fun r u0 u1 => by rw [nbk_8 u0 u1, nbk_8 u0 u1, so 135 (by decide) (by decide) (by decide)]
  obtain ⟨h1, h2, ⟨h3, h3', h3''⟩, h4, h5, ⟨h6, h7⟩, h8, h9⟩ := hH
  obtain ⟨w1, w2, w3, w4, w5, w6⟩ := hW
  have m2 : nbk sr' 114 2 = nbk sr 114 2 := by rw [nbk_4 (by omega) (by omega), n2, s132 2 (by omega)]
  have k4 : ∀ i, 0 ≤ i → i < 5 → i ≠ 3 → nbk sr' 114 i = nbk sr 114 i := fun i i0 i1 i3 => by rw [nbk_4 i0 i1, nbk_4 i0 i1, s132 i i3]
  have m3 : nbk sr' 114 3 = sr 132 3 + 1 := by rw [nbk_4 (by omega) (by omega), s3]
  have k9 : ∀ j, 0 ≤ j → j < 4 → nbk sr' 119 j = nbk sr 119 j := fun j u0 u1 => by rw [nbk_9 u0 u1, nbk_9 u0 u1, so 136 (by decide) (by decide) (by decide)]
  have k20 : ∀ p, 0 ≤ p → p < 6 → nbk sr' 120 p = if p = sr 132 3 then v else nbk sr 120 p := fun p u0 u1 => by
    rw [nbk_20 u0 u1, nbk_20 u0 u1, hsr, mu_rw (by decide)]
    by_cases g : p = sr 132 3
    · rw [if_pos g, g, mu_eq]
    · rw [if_neg g, mu_ne (by omega), rtM_o (by decide)]
  refine ⟨sc', sr', rfl, rfl, by rw [hsc]; exact PFc_mu (PFc_mu (PFc_rd hc) (by omega) (by omega)) (by omega) (by omega), by rw [hsr]; exact PFr_mu (PFr_mu (PFr_rt hr) (by omega) (by omega)) (by omega) (by omega), x1, by omega, Or.inl ⟨a3, by rw [s132 0 (by omega)]; exact hcol, wt, ⟨p1, by rw [hsc]; exact RD_mu (RD_mu (rdM_RD hR) (by omega) (by omega)) (by omega) (by omega)⟩, by rw [co 54 (by omega) (by omega) (by omega)]; exact hw, ⟨?_, ?_, ⟨fun r u0 u1 => ?_, ?_, ?_⟩, ?_, fun p u0 u1 => ?_, ⟨ew_FRc ew (FRc_ext (fun a u v => co a (by omega) (by omega) (by omega)) h6), ew_FP ew (FP_ext (co _ (by omega) (by omega) (by omega)) h7)⟩, fun j u0 u1 => ?_, ?_⟩, by rw [hsr]; exact RT_mu (RT_mu (RT_M hRT) (by decide) (by decide)) (by decide) (by decide), by rw [s113 38 (by omega) (by omega)]; exact hw2, hwt, ⟨ew_Wf ew w1, by rw [m3]; omega, by rw [k4 4 (by omega) (by omega) (by omega)]; exact w3, fun r u0 u1 => ?_, fun j u0 u1 => by rw [k9 j u0 u1]; exact w5 j u0 u1, fun p u0 u1 => ?_⟩⟩⟩
  · rw [cq 0 (by omega)]; exact h1
  · rw [cq 1 (by omega), cq2, k4 4 (by omega) (by omega) (by omega), m3]; exact ⟨h2.1, rfl⟩
  · rw [m2] at u1
    rw [cq 3 (by omega), k8 r u0 (by omega)]; exact h3 r u0 u1
  · rw [cq 3 (by omega)]; exact h3'
  · rw [cq 3 (by omega), m2]; exact h3''
  · rw [cq 4 (by omega), cq 5 (by omega), cq 6 (by omega), cq 8 (by omega)]; exact h4
  · rw [m3] at u1
    rw [k20 p u0 (by omega), hsc, mu_rw (by omega)]
    by_cases g : p = sr 132 3
    · rw [if_pos g, g, mu_eq]
    · rw [if_neg g, mu_ne (by omega), rdM_o (by omega)]; exact h5 p u0 (by rw [n3]; omega)
  · rw [co _ (by omega) (by omega) (by omega), k9 j u0 u1]; exact h8 j u0 u1
  · rw [co (q + 10) (by omega) (by omega) (by omega), co (q + 12) (by omega) (by omega) (by omega), co (q + 16) (by omega) (by omega) (by omega), co (q + 18) (by omega) (by omega) (by omega), co (q + 20) (by omega) (by omega) (by omega)]; exact h9
  · rw [m2] at u1
    rw [k8 r u0 (by omega)]; exact w4 r u0 u1
  · rw [m3] at u1
    rw [m2, k20 p u0 (by omega)]
    by_cases g : p = sr 132 3
    · rw [if_pos g, n2]; omega
    · rw [if_neg g]; exact w6 p u0 (by rw [n3]; omega)
theorem pk_ways {N q : Nat} {s0 r0 sc sr : iv_M} {b : Int → Int} {L e fr wt : Int} (hN : 1000 ≤ N) (hq : q = 9 ∨ q = 31) (hT : TX b L) (e0 : 0 ≤ e) (e1 : e ≤ L) (hR : RD sc 55 b L e fr 0) (hw : sc 54 1 = wt) (hRT : RT sr b L e 0) (hw2 : sr 113 38 = wt) (hwt : wt = 0 ∨ wt = 1) (hcol : 0 < sr 132 0) (hH : HP sc q (nbk sr)) (hW : WP (nbk sr)) (hc : PFc q s0 sc) (hr : PFr r0 sr) : ∃ sc' sr', ((FX6_readNumber N sc 55 1 7).bind fun r => some (mu (mu r.2 q 1 r.1) 54 1 1)) = some sc' ∧ FX12_palacePart N sr 113 5 = some sr' ∧ POut s0 r0 q b L e sc' sr' := by
  have hL := hT.2.1
  obtain ⟨a1, a2, a3⟩ := num_bd (b := b) e1
  obtain ⟨p1, hp1⟩ : ∃ p1, p1 = bl b L e := ⟨_, rfl⟩
  rw [← hp1] at a1 a2 a3
  obtain ⟨x1, hx1⟩ : ∃ x1, x1 = edg b L p1 := ⟨_, rfl⟩
  rw [← hx1] at a2 a3
  have n2 : nbk sr 114 2 = sr 132 2 := nbk_4 (by omega) (by omega)
  have n3 : nbk sr 114 3 = sr 132 3 := nbk_4 (by omega) (by omega)
  have n0 : 0 ≤ sr 132 2 := by have := hW.1.1.2.2.2.2.1; rw [n2] at this; exact this
  have n12 : sr 132 2 ≤ 12 := by have := hW.1.1.2.2.2.2.2.1; rw [n2] at this; exact this
  have sc2 : sc (q + 1) 2 = sr 132 2 := by rw [← n2]; exact hH.2.2.2.2.2.1.1.2.2.1
  have rn1 := readNumber_ok (N := N) (lo := 1) (hi := 7) hN hR hT e0 (by omega)
  have am1 := amount_ok (N := N) (lo := 1) (hi := 7) hN hRT hT e0 (by omega)
  rw [← hp1, ← hx1] at rn1 am1
  rw [pp_5, rn1, Option.bind_some, am1, Option.bind_some]
  dsimp only
  have f4 : rdM sc 55 x1 p1 (nft b L p1 1 7 0) 55 4 = nft b L p1 1 7 0 := mu_eq
  obtain ⟨v, hv⟩ : ∃ v, v = nmv b L p1 := ⟨_, rfl⟩
  rw [← hv, wr_ok (by omega) (by omega), Option.bind_some]
  obtain ⟨sr', hsr⟩ : ∃ sr', sr' = mu (mu (rtM sr x1 (nft b L p1 1 7 0)) 132 4 v) 113 38 1 := ⟨_, rfl⟩
  obtain ⟨sc', hsc⟩ : ∃ sc', sc' = mu (mu (rdM sc 55 x1 p1 (nft b L p1 1 7 0)) q 1 v) 54 1 1 := ⟨_, rfl⟩
  rw [← hsr, ← hsc]
  have hcF : PFc q s0 sc' := fun a c1 c2 c3 => by rw [hsc, mu_rw c1, mu_rw (by omega), rdM_o c2]; exact hc a c1 c2 c3
  have hrF : PFr r0 sr' := ⟨fun a c1 c2 => by rw [hsr, mu_rw c1, mu_rw (by omega), rtM_o c1]; exact hr.1 a c1 c2, fun i i1 i2 i3 => by rw [hsr, mu_ne (by omega), mu_rw (by decide), rtM_i i1 i2]; exact hr.2 i i1 i2 i3⟩
  have rR : RT sr' b L x1 (nft b L p1 1 7 0) := by
    have h0 := RT_mu (a := 132) (i := 4) (v := v) (RT_M (p' := x1) (ft' := nft b L p1 1 7 0) hRT) (by decide) (by decide)
    rw [hsr]
    exact ⟨by rw [mu_ne (by omega)]; exact h0.1, by rw [mu_ne (by omega)]; exact h0.2.1, by rw [mu_ne (by omega)]; exact h0.2.2.1, fun i i0 i1 => by rw [mu_rw (by decide)]; exact h0.2.2.2 i i0 i1⟩
  have c55 : sc' 55 4 = nft b L p1 1 7 0 := by rw [hsc, mu_rw (by decide), mu_rw (by omega)]; exact f4
  rcases nft_cases (b := b) (L := L) (p := p1) (lo := 1) (hi := 7) (by omega) (by omega) with ⟨z1, v1, v2⟩ | ⟨z1, z2⟩
  rotate_left
  · exact ⟨_, _, rfl, rfl, hcF, hrF, x1, by omega, Or.inr ⟨by omega, _, z1, z2, c55, rR⟩⟩
  rw [← hv] at v1 v2
  rw [z1] at rR hsr hsc
  have so : ∀ a, a ≠ 113 → a ≠ 132 → a ≠ 1000 → sr' a = sr a := fun a a0 a1 _ => by rw [hsr, mu_rw a0, mu_rw a1, rtM_o a0]
  have s132 : ∀ i : Int, i ≠ 4 → sr' 132 i = sr 132 i := fun i hi => by rw [hsr, mu_rw (by decide), mu_ne (by omega), rtM_o (by decide)]
  have s4 : sr' 132 4 = v := by rw [hsr, mu_rw (by decide), mu_eq]
  have co : ∀ a, a ≠ 55 → a ≠ 54 → a ≠ q → sc' a = sc a := fun a c1 c2 c3 => by rw [hsc, mu_rw c2, mu_rw c3, rdM_o c1]
  have cq : ∀ i, i ≠ 1 → sc' q i = sc q i := fun i hi => by rw [hsc, mu_rw (by omega), mu_ne (by omega), rdM_o (by omega)]
  have cq1 : sc' q 1 = v := by rw [hsc, mu_rw (by omega), mu_eq]
  have ew : Ew (nbk sr) (nbk sr') := Ew_nbk (s132 0 (by omega)) (s132 1 (by omega)) (s132 2 (by omega)) (so _ (by decide) (by decide) (by decide)) (so _ (by decide) (by decide) (by decide)) (so _ (by decide) (by decide) (by decide))
  have k8 : ∀ r, 0 ≤ r → r < 12 → nbk sr' 118 r = nbk sr 118 r := fun r u0 u1 => by rw [nbk_8 u0 u1, nbk_8 u0 u1, so 135 (by decide) (by decide) (by decide)]
  obtain ⟨h1, h2, ⟨h3, h3', h3''⟩, h4, h5, ⟨h6, h7⟩, h8, h9⟩ := hH
  obtain ⟨w1, w2, w3, w4, w5, w6⟩ := hW
  have m2 : nbk sr' 114 2 = nbk sr 114 2 := by rw [nbk_4 (by omega) (by omega), n2, s132 2 (by omega)]
  have m3 : nbk sr' 114 3 = nbk sr 114 3 := by rw [nbk_4 (by omega) (by omega), n3, s132 3 (by omega)]
  have m4 : nbk sr' 114 4 = v := by rw [nbk_4 (by omega) (by omega), s4]
  have k9 : ∀ j, 0 ≤ j → j < 4 → nbk sr' 119 j = nbk sr 119 j := fun j u0 u1 => by rw [nbk_9 u0 u1, nbk_9 u0 u1, so 136 (by decide) (by decide) (by decide)]
  have k20 : ∀ p, 0 ≤ p → p < 6 → nbk sr' 120 p = nbk sr 120 p := fun p u0 u1 => by rw [nbk_20 u0 u1, nbk_20 u0 u1, so 137 (by decide) (by decide) (by decide)]
  have hRD : RD sc' 55 b L x1 p1 0 := by
    rw [hsc]; exact RD_mu (RD_mu (rdM_RD hR) (by omega) (by omega)) (by omega) (by omega)
  refine ⟨sc', sr', rfl, rfl, hcF, hrF, x1, by omega, Or.inl ⟨a3, by rw [s132 0 (by omega)]; exact hcol, 1, ⟨p1, hRD⟩, by rw [hsc, mu_eq], ⟨?_, ?_, ⟨fun r u0 u1 => ?_, ?_, ?_⟩, ?_, fun p u0 u1 => ?_, ⟨ew_FRc ew (FRc_ext (fun a u v => co a (by omega) (by omega) (by omega)) h6), ew_FP ew (FP_ext (co _ (by omega) (by omega) (by omega)) h7)⟩, fun j u0 u1 => ?_, ?_⟩, rR, by rw [hsr, mu_eq], Or.inr rfl, ⟨ew_Wf ew w1, by rw [m3]; exact w2, by rw [m4]; omega, fun r u0 u1 => ?_, fun j u0 u1 => by rw [k9 j u0 u1]; exact w5 j u0 u1, fun p u0 u1 => ?_⟩⟩⟩
  · rw [cq 0 (by omega)]; exact h1
  · rw [cq1, cq 2 (by omega), m4, m3]; exact ⟨rfl, h2.2⟩
  · rw [m2] at u1
    rw [cq 3 (by omega), k8 r u0 (by omega)]; exact h3 r u0 u1
  · rw [cq 3 (by omega)]; exact h3'
  · rw [cq 3 (by omega), m2]; exact h3''
  · rw [cq 4 (by omega), cq 5 (by omega), cq 6 (by omega), cq 8 (by omega)]; exact h4
  · rw [m3] at u1
    rw [co _ (by omega) (by omega) (by omega), k20 p u0 (by omega)]; exact h5 p u0 u1
  · rw [co _ (by omega) (by omega) (by omega), k9 j u0 u1]; exact h8 j u0 u1
  · rw [co (q + 10) (by omega) (by omega) (by omega), co (q + 12) (by omega) (by omega) (by omega), co (q + 16) (by omega) (by omega) (by omega), co (q + 18) (by omega) (by omega) (by omega), co (q + 20) (by omega) (by omega) (by omega)]; exact h9
  · rw [m2] at u1
    rw [k8 r u0 (by omega)]; exact w4 r u0 u1
  · rw [m3] at u1
    rw [m2, k20 p u0 (by omega)]; exact w6 p u0 u1
