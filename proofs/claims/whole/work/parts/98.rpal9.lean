-- PALACE: clause by clause
theorem clause_ok {N q : Nat} {s0 r0 sc sr : iv_M} {b : Int → Int} {L p wt n : Int} (hN : 1000 ≤ N) (hq : q = 9 ∨ q = 31) (hT : TX b L) (p0 : 0 ≤ p) (p1 : p ≤ L) (n0 : 0 ≤ n) (n40 : n ≤ 40) (hS : PS sc sr q b L p wt) (hi : n = 0 → Ini sr) (hcol : n ≠ 0 → 0 < sr 132 0) (hc : PFc q s0 sc) (hr : PFr r0 sr) : ∃ sc' sr', FX5_readClause N sc 54 q n = some sc' ∧ FX12_palaceClause N sr 113 n = some sr' ∧ POut s0 r0 q b L p sc' sr' ∧ (n = 40 → sc' 55 4 ≠ 0) := by
  have hL := hT.2.1
  obtain ⟨⟨fr, hR⟩, hw, hH, hRT, hw2, hwt, hW⟩ := hS
  obtain ⟨p', hp'⟩ : ∃ p', p' = bl b L p := ⟨_, rfl⟩
  have q0 : p ≤ p' := by rw [hp']; exact rnn_ge
  have q1 : p' ≤ L := by rw [hp']; exact rnn_le p1
  obtain ⟨e, he⟩ : ∃ e, e = el b L p' := ⟨_, rfl⟩
  have q2 : p' ≤ e := by rw [he]; exact rnn_ge
  have q3 : e ≤ L := by rw [he]; exact rnn_le q1
  obtain ⟨k, hk⟩ : ∃ k, k = idw b p' e pws 0 := ⟨_, rfl⟩
  have rw1 := readWord_ok (N := N) (ws := pws) hN hR hT str_pws (by decide) (by decide) (by decide) p0 (by omega)
  rw [← hp', ← he, ← hk] at rw1
  have hR1 : RT (rtM sr p' 0) b L p' 0 := RT_M hRT
  have cl : FX12_palaceClause N sr 113 n = FX12_palaceClause_b34 N (rtM sr p' 0) 113 n p' (if k = -1 then 6 else k) := by
    unfold FX12_palaceClause
    rw [blanks_ok hN hRT hT p0 (by omega), Option.bind_some, ← hp', rtM_p, pw_loop hN hR1 hT (by omega) (by omega), ← he, ← hk]
  have n2 : nbk sr 114 2 = sr 132 2 := nbk_4 (by omega) (by omega)
  have n3 : nbk sr 114 3 = sr 132 3 := nbk_4 (by omega) (by omega)
  have r12 : sr 132 2 ≤ 12 := by have := hW.1.1.2.2.2.2.2.1; rw [n2] at this; exact this
  have p6 : sr 132 3 ≤ 6 := by have := hW.2.1.2; rw [n3] at this; exact this
  rw [cl]
  unfold FX5_readClause
  simp only [Nat.reduceAdd]
  rw [rw1, Option.bind_some]
  dsimp only
  obtain ⟨ft, hft⟩ : ∃ ft, ft = wft b p' e pws 0 := ⟨_, rfl⟩
  rw [← hft]
  have f4 : rdM sc 55 e p' ft 55 4 = ft := mu_eq
  have f3 : rdM sc 55 e p' ft 55 3 = p' := by unfold rdM; rw [mu_ne (by omega), mu_eq]
  unfold FX12_palaceClause_b34
  by_cases kn : k = -1
  · have fv : ft = 1 + 8 * p' + 0 := by rw [hft]; unfold wft ffl; rw [← hk, if_pos kn, if_pos rfl]
    have fv2 : ffl 0 p' 0 = ft := by rw [fv]; unfold ffl; rw [if_pos rfl]
    rw [if_neg (by rw [f4]; omega), if_pos kn, if_pos rfl, fails_ok hR1 (by omega) (by omega) (by omega) (by omega), Option.bind_some, rtM_rtM, fv2]
    exact ⟨_, _, rfl, rfl, ⟨PFc_rd hc, PFr_rt hr, p', q0, Or.inr ⟨by omega, ft, by omega, by omega, f4, RT_M hRT⟩⟩, fun _ => by rw [f4]; omega⟩
  have f0 : ft = 0 := by rw [hft]; unfold wft; rw [← hk, if_neg kn]
  have k05 : 0 ≤ k ∧ k < 6 := by
    rcases idw_ge (b := b) (p := p') (e := e) pws 0 (by omega) with u | u
    · rw [← hk] at u; exact absurd u kn
    · rw [← hk] at u
      have : ((pws.length : Nat) : Int) = 6 := by decide
      omega
  have hx : ∀ a, a ≠ 55 → rdM sc 55 e p' ft a = sc a := fun a ha => rdM_o ha
  have tm := tooMuch_ok (N := N) (q := q) (s := rdM sc 55 e p' ft) (n := n) (k := k) (rooms := sr 132 2) (people := sr 132 3) (wt := wt) n0 n40 k05.1 k05.2 (by rw [hx _ (by omega), ← n2]; exact hH.2.2.2.2.2.1.1.2.2.1) (by rw [hx _ (by omega), ← n3]; exact hH.2.1.2) (by rw [hx _ (by omega)]; exact hw) r12 p6 hwt
  have fm := pfull_ok (N := N) (z := rtM sr p' 0) (n := n) (k := k) (rooms := sr 132 2) (people := sr 132 3) (wt := wt) n0 n40 k05.1 k05.2 (by rw [rtM_o (by decide)]) (by rw [rtM_o (by decide)]) (by rw [rtM_i (by omega) (by omega)]; exact hw2) hwt
  rw [if_pos (by rw [f4]; exact f0), tm, Option.bind_some, if_neg kn, if_neg (show ¬ k = 6 by omega), fm, Option.bind_some]
  by_cases full : pfl n k (sr 132 2) (sr 132 3) wt = 0
  rotate_left
  · have fv : ffl 0 p' 4 = 1 + 8 * p' + 4 := by unfold ffl; rw [if_pos rfl]
    rw [if_neg full, if_neg full, fail_ok (by rw [f3]; omega) (by rw [f3]; omega) (by omega) (by omega), f4, f3, f0, Option.bind_some, fails_ok hR1 (by omega) (by omega) (by omega) (by omega), Option.bind_some, rtM_rtM]
    refine ⟨_, _, rfl, rfl, ⟨fun a t1 t2 t3 => by rw [mu_rw t2, ← f0, hx a t2]; exact hc a t1 t2 t3, PFr_rt hr, p', q0, Or.inr ⟨by omega, ffl 0 p' 4, by omega, by omega, mu_eq, RT_M hRT⟩⟩, fun _ => by rw [mu_eq]; omega⟩
  have nfull : n ≠ 40 ∧ (n = 0 ↔ k = 0) := by
    unfold pfl at full
    by_cases z : n = 40 ∨ ¬ (n = 0 ↔ k = 0)
    · rw [if_pos z] at full; omega
    · omega
  have wk : ∀ (qk : Nat) (w : List Int), FX12_palaceWord N (rtM sr p' 0) k = some qk → Str qk w → (∃ j : Nat, k = j ∧ pws[j]? = some w) → ((FX12_palaceWord N (rtM sr p' 0) k).bind fun v_2852 => ((pt (rtM sr p' 0) 113 29 (w32 ((rtM sr p' 0 113 29) + (tL v_2852)))).bind fun s_2854 => ((FX12_palacePart N s_2854 113 k).bind fun s_2857 => some s_2857))) = FX12_palacePart N (rtM sr e 0) 113 k := fun qk w h1 h2 h3 => by
    obtain ⟨j, hj, hw⟩ := h3
    obtain ⟨w', w1, w2⟩ := idw_at (b := b) (p := p') (e := e) pws 0 j (by rw [← hk]; omega) (by omega)
    have : w' = w := by rw [hw] at w1; injection w1 with w1; exact w1.symm
    rw [this] at w2
    unfold isw at w2
    rw [Bool.and_eq_true, decide_eq_true_iff] at w2
    rw [h1, Option.bind_some, pt_ok, Option.bind_some, rtM_p, h2.1, w32_id (by omega) (by omega), ← w2.1, rtM_mu hR1, rtM_rtM]
    cases FX12_palacePart N (rtM sr e 0) 113 k <;> rfl
  rw [if_pos full, if_pos full]
  have eR : RD (rdM sc 55 e p' 0) 55 b L e p' 0 := rdM_RD hR
  have eRT : RT (rtM sr e 0) b L e 0 := RT_M hRT
  have ew : rdM sc 55 e p' 0 54 1 = wt := by rw [rdM_o (by decide)]; exact hw
  have ew2 : rtM sr e 0 113 38 = wt := by rw [rtM_i (by omega) (by omega)]; exact hw2
  have eH : HP (rdM sc 55 e p' 0) q (nbk (rtM sr e 0)) := by rw [nbk_rt]; exact HP_ext (fun a t1 t2 => rdM_o (by omega)) hH
  have eW : WP (nbk (rtM sr e 0)) := by rw [nbk_rt]; exact hW
  have ec : PFc q s0 (rdM sc 55 e p' 0) := PFc_rd hc
  have er : PFr r0 (rtM sr e 0) := PFr_rt hr
  rw [f0]
  have fin : ∀ sc' sr', POut s0 r0 q b L e sc' sr' → POut s0 r0 q b L p sc' sr' ∧ (n = 40 → sc' 55 4 ≠ 0) := fun sc' sr' h => by
    obtain ⟨t1, t2, x, t3, t4⟩ := h
    exact ⟨⟨t1, t2, x, by omega, t4⟩, fun z => absurd z nfull.1⟩
  unfold FX5_readClause_b146
  have six : k = 0 ∨ k = 1 ∨ k = 2 ∨ k = 3 ∨ k = 4 ∨ k = 5 := by omega
  rcases six with g | g | g | g | g | g
  · have w := wk 1000031 [102, 108, 111, 111, 114] (by rw [g]; rfl) str_p0 ⟨0, by omega, rfl⟩
    rw [w, g, if_pos rfl]
    obtain ⟨sc', sr', a1, a2, a3⟩ := pk_floor (N := N) hN hq hT (by omega) q3 eR ew eRT ew2 hwt (by
      have := hi (nfull.2.mpr g)
      obtain ⟨i1, i2, i3, i4, i5⟩ := this
      exact ⟨by rw [rtM_o (by decide)]; exact i1, by rw [rtM_o (by decide)]; exact i2, by rw [rtM_o (by decide)]; exact i3, by rw [rtM_o (by decide)]; exact i4, by rw [rtM_o (by decide)]; exact i5⟩) ec er
    exact ⟨sc', sr', by rw [a1, Option.bind_some], a2, fin sc' sr' a3⟩
  all_goals have hcol' : 0 < rtM sr e 0 132 0 := by rw [rtM_o (by decide)]; exact hcol (fun z => by have := nfull.2.mp z; omega)
  · have w := wk 1000016 [114, 111, 111, 109] (by rw [g]; rfl) str_p1 ⟨1, by omega, rfl⟩
    have h12 : rtM sr e 0 132 2 < 12 := by
      rw [rtM_o (by decide)]
      unfold pfl at full
      rw [if_neg (by omega), if_pos g] at full
      by_cases z : sr 132 2 = 12
      · rw [if_pos z] at full; omega
      · omega
    rw [w, g, if_neg (by decide), if_pos rfl]
    obtain ⟨sc', sr', a1, a2, a3⟩ := pk_room (N := N) hN hq hT (by omega) q3 eR ew eRT ew2 hwt hcol' eH eW ec er h12
    exact ⟨sc', sr', by rw [a1, Option.bind_some], a2, fin sc' sr' a3⟩
  · have w := wk 1000032 [102, 105, 120, 101, 100] (by rw [g]; rfl) str_p2 ⟨2, by omega, rfl⟩
    rw [w, g, if_neg (by decide), if_neg (by decide), if_pos rfl]
    obtain ⟨sc', sr', a1, a2, a3⟩ := pk_fixed (N := N) hN hq hT (by omega) q3 eR ew eRT ew2 hwt hcol' eH eW ec er
    exact ⟨sc', sr', by rw [a1, Option.bind_some], a2, fin sc' sr' a3⟩
  · have w := wk 1000033 [107, 101, 121] (by rw [g]; rfl) str_p3 ⟨3, by omega, rfl⟩
    rw [w, g, if_neg (by decide), if_neg (by decide), if_neg (by decide), if_pos rfl]
    obtain ⟨sc', sr', a1, a2, a3⟩ := pk_key (N := N) hN hq hT (by omega) q3 eR ew eRT ew2 hwt hcol' eH eW ec er
    exact ⟨sc', sr', by rw [a1, Option.bind_some], a2, fin sc' sr' a3⟩
  · have w := wk 1000034 [112, 101, 114, 115, 111, 110] (by rw [g]; rfl) str_p4 ⟨4, by omega, rfl⟩
    have h6 : rtM sr e 0 132 3 < 6 := by
      rw [rtM_o (by decide)]
      unfold pfl at full
      rw [if_neg (by omega), if_neg (by omega), if_pos g] at full
      by_cases z : sr 132 3 = 6
      · rw [if_pos z] at full; omega
      · omega
    rw [w, g, if_neg (by decide), if_neg (by decide), if_neg (by decide), if_neg (by decide), if_pos rfl]
    obtain ⟨sc', sr', a1, a2, a3⟩ := pk_person (N := N) hN hq hT (by omega) q3 eR ew eRT ew2 hwt hcol' eH eW ec er h6
    exact ⟨sc', sr', by rw [a1, Option.bind_some], a2, fin sc' sr' a3⟩
  · have w := wk 1000035 [119, 97, 121, 115] (by rw [g]; rfl) str_p5 ⟨5, by omega, rfl⟩
    rw [w, g, if_neg (by decide), if_neg (by decide), if_neg (by decide), if_neg (by decide), if_neg (by decide)]
    obtain ⟨sc', sr', a1, a2, a3⟩ := pk_ways (N := N) hN hq hT (by omega) q3 eR ew eRT ew2 hwt hcol' eH eW ec er
    exact ⟨sc', sr', a1, a2, fin sc' sr' a3⟩
theorem pal_loop {N q : Nat} {s0 r0 : iv_M} {b : Int → Int} {L : Int} {kc : iv_M → Option (Int × iv_M)} {kr : iv_M → Option iv_M} (hN : 1000 ≤ N) (hq : q = 9 ∨ q = 31) (hT : TX b L) : ∀ (m f g : Nat) (n p wt : Int) (sc sr : iv_M), n + m = 40 → m + 1 < f → m + 1 < g → 0 ≤ n → 0 ≤ p → p ≤ L → PS sc sr q b L p wt → (n = 0 → Ini sr) → (n ≠ 0 → 0 < sr 132 0) → PFc q s0 sc → PFr r0 sr → ∃ sc' sr' ft, FX5_read_l26 N 54 q kc f sc 1 n = kc sc' ∧ FX12_readsAll_l82 N 113 kr g sr n 1 = kr sr' ∧ PFc q s0 sc' ∧ PFr r0 sr' ∧ sc' 55 4 = ft ∧ sr' 113 30 = ft ∧ ((ft = 0 ∧ HP sc' q (nbk sr') ∧ WP (nbk sr') ∧ 0 < sr' 132 0) ∨ (0 < ft ∧ ft ≤ 10000)) := by
  intro m
  have hL := hT.2.1
  induction m with
  | zero =>
    intro f g n p wt sc sr hn hf hg n0 p0 p1 hS hi hcol hc hr
    obtain ⟨f', rfl⟩ : ∃ f', f = f' + 1 + 1 := ⟨f - 2, by omega⟩
    obtain ⟨g', rfl⟩ : ∃ g', g = g' + 1 + 1 := ⟨g - 2, by omega⟩
    obtain ⟨sc', sr', a1, a2, ⟨a3, a4, p', a5, a6⟩, a7⟩ := clause_ok (N := N) hN hq hT p0 p1 n0 (by omega) hS hi hcol hc hr
    have a7 := a7 (by omega)
    rcases a6 with ⟨_, _, wt', ⟨_, u⟩, _⟩ | ⟨c1, ft, c2, c3, c4, c5⟩
    · exact absurd u.2.2.2.2.1 a7
    have gs := goesOn_ok (N := N) hN c5 hT (by omega) c1
    rw [if_neg (fun z => by have := z.1; omega), if_neg (fun z => by have := z.1; omega)] at gs
    refine ⟨sc', rtM sr' (bl b L p' + 1) ft, ft, ?_, ?_, a3, PFr_rt a4, c4, rtM_f, Or.inr ⟨c2, c3⟩⟩
    · rw [FX5_read_l26, if_neg (by decide), if_neg (by omega), a1, Option.bind_some]
      unfold FX5_goesOn
      simp only [Nat.reduceAdd]
      rw [if_neg (by omega), Option.bind_some]
      dsimp only
      rw [FX5_read_l26, if_pos rfl]
    · rw [FX12_readsAll_l82, if_neg (by decide), a2, Option.bind_some, gs, Option.bind_some]
      dsimp only
      rw [FX12_readsAll_l82, if_pos rfl]
  | succ m ih =>
    intro f g n p wt sc sr hn hf hg n0 p0 p1 hS hi hcol hc hr
    obtain ⟨f', rfl⟩ : ∃ f', f = f' + 1 + 1 := ⟨f - 2, by omega⟩
    obtain ⟨g', rfl⟩ : ∃ g', g = g' + 1 + 1 := ⟨g - 2, by omega⟩
    obtain ⟨sc', sr', a1, a2, ⟨a3, a4, p', a5, a6⟩, a7⟩ := clause_ok (N := N) hN hq hT p0 p1 n0 (by omega) hS hi hcol hc hr
    have ec : FX5_read_l26 N 54 q kc (f' + 1 + 1) sc 1 n = ((FX5_goesOn N sc' 54).bind fun r_1139 => FX5_read_l26 N 54 q kc (f' + 1) r_1139.2 r_1139.1 (n + 1)) := by
      rw [FX5_read_l26, if_neg (by decide), if_neg (by omega), a1, Option.bind_some, w32_id (by omega) (by omega)]
    have er : FX12_readsAll_l82 N 113 kr (g' + 1 + 1) sr n 1 = ((FX12_goesOn N sr' 113).bind fun r_2928 => FX12_readsAll_l82 N 113 kr (g' + 1) r_2928.2 (n + 1) r_2928.1) := by
      rw [FX12_readsAll_l82, if_neg (by decide), a2, Option.bind_some, w32_id (by omega) (by omega)]
    rw [ec, er]
    have stopc : ∀ z : iv_M, FX5_read_l26 N 54 q kc (f' + 1) z 0 (n + 1) = kc z := fun z => by rw [FX5_read_l26, if_pos rfl]
    have stopr : ∀ z : iv_M, FX12_readsAll_l82 N 113 kr (g' + 1) z (n + 1) 0 = kr z := fun z => by rw [FX12_readsAll_l82, if_pos rfl]
    rcases a6 with ⟨c0, ccol, wt', ⟨fr, hR⟩, h2, h3, h4, h5, h6, h7⟩ | ⟨c1, ft, c2, c3, c4, c5⟩
    rotate_left
    · have gs := goesOn_ok (N := N) hN c5 hT (by omega) c1
      rw [if_neg (fun z => by have := z.1; omega), if_neg (fun z => by have := z.1; omega)] at gs
      have gc : FX5_goesOn N sc' 54 = some (0, sc') := by
        unfold FX5_goesOn
        simp only [Nat.reduceAdd]
        rw [if_neg (by omega)]
      rw [gc, Option.bind_some, gs, Option.bind_some]
      dsimp only
      rw [stopc, stopr]
      exact ⟨sc', _, ft, rfl, rfl, a3, PFr_rt a4, c4, rtM_f, Or.inr ⟨c2, c3⟩⟩
    have gs := goesOn_ok (N := N) hN h4 hT (by omega) (by omega)
    obtain ⟨x, hx⟩ : ∃ x, x = bl b L p' := ⟨_, rfl⟩
    have x0 : p' ≤ x := by rw [hx]; exact rnn_ge
    have x1 : x ≤ L := by rw [hx]; exact rnn_le c0
    rw [← hx] at gs
    have gc : FX5_goesOn N sc' 54 = if sg b L x = 59 then some (1, mu sc' 55 2 (x + 1)) else if sg b L x = -1 then some (0, mu sc' 55 2 x) else some (0, mu (mu sc' 55 2 x) 55 4 (ffl 0 x 0)) := by
      unfold FX5_goesOn FX5_goesOn_b61
      simp only [Nat.reduceAdd]
      rw [if_pos (show sc' 55 4 = 0 from hR.2.2.2.2.1), skip_ok hN hR hT (by omega) (by omega), Option.bind_some, ← hx]
      dsimp only
      rw [mu_eq, pt_ok, Option.bind_some, w32_id (by omega) (by omega), mu_mu, fail_ok (by omega) (by omega) (by omega) (by omega), Option.bind_some, mu_ne (by omega), hR.2.2.2.2.1]
    rw [gc, gs]
    by_cases z : x < L
    · by_cases y : b x = 59
      · have sy : sg b L x = 59 := (sg_eq hT (by omega) (by omega) (by omega)).mpr ⟨z, y⟩
        rw [if_pos sy, Option.bind_some, Option.bind_some, if_pos ⟨rfl, z, y⟩, if_neg (by rintro ⟨_, _, u⟩; exact u y)]
        dsimp only
        exact ih (f' + 1) (g' + 1) (n + 1) (x + 1) wt' _ _ (by omega) (by omega) (by omega) (by omega) (by omega) (by omega) ⟨⟨fr, RD_2 hR⟩, by rw [mu_rw (by decide)]; exact h2, by rw [nbk_rt]; exact HP_ext (fun a t1 t2 => mu_rw (by omega)) h3, RT_M h4, by rw [rtM_i (by omega) (by omega)]; exact h5, h6, by rw [nbk_rt]; exact h7⟩ (fun u => by omega) (fun _ => by rw [rtM_o (by decide)]; exact ccol) (fun a t1 t2 t3 => by rw [mu_rw t2]; exact a3 a t1 t2 t3) (PFr_rt a4)
      · have sy : ¬ sg b L x = 59 := fun u => y ((sg_eq hT (by omega) (by omega) (by omega)).mp u).2
        have sn : ¬ sg b L x = -1 := fun u => by have := (sg_none hT (by omega)).mp u; omega
        have fv : ffl 0 x 0 = 1 + 8 * x + 0 := by unfold ffl; rw [if_pos rfl]
        rw [if_neg sy, if_neg sn, Option.bind_some, Option.bind_some, if_neg (by rintro ⟨_, _, u⟩; exact y u), if_pos ⟨rfl, z, y⟩]
        dsimp only
        rw [stopc, stopr]
        exact ⟨_, _, ffl 0 x 0, rfl, rfl, fun a t1 t2 t3 => by rw [mu_rw t2, mu_rw t2]; exact a3 a t1 t2 t3, PFr_rt a4, mu_eq, rtM_f, Or.inr (by omega)⟩
    · have sy : ¬ sg b L x = 59 := fun u => z ((sg_eq hT (by omega) (by omega) (by omega)).mp u).1
      have sn : sg b L x = -1 := (sg_none hT (by omega)).mpr (by omega)
      rw [if_neg sy, if_pos sn, Option.bind_some, Option.bind_some, if_neg (by rintro ⟨_, u, _⟩; exact z u), if_neg (by rintro ⟨_, u, _⟩; exact z u)]
      dsimp only
      rw [stopc, stopr]
      refine ⟨_, _, 0, rfl, rfl, fun a t1 t2 t3 => by rw [mu_rw t2]; exact a3 a t1 t2 t3, PFr_rt a4, by rw [mu_ne (by omega)]; exact hR.2.2.2.2.1, rtM_f, Or.inl ⟨rfl, ?_, ?_, by rw [rtM_o (by decide)]; exact ccol⟩⟩
      · rw [nbk_rt]; exact HP_ext (fun a t1 t2 => mu_rw (by omega)) h3
      · rw [nbk_rt]; exact h7
