-- PALACE: the clause of a room
theorem pp_1 {N : Nat} {z : iv_M} : FX12_palacePart N z 113 1 = FX12_readsRoom N z 113 := by
  unfold FX12_palacePart FX12_palacePart_b185
  simp only [Nat.reduceAdd]
  rw [rd_ok (by omega) (by omega), Option.bind_some, if_neg (by decide), if_pos trivial]
  cases FX12_readsRoom N z 113 <;> rfl
/-- after a fault the rest of a room's clause does nothing -/
theorem b74_bad {N : Nat} {s : iv_M} {b : Int → Int} {L p ft n : Int} (hN : 1000 ≤ N) (hf : ft ≠ 0) (hR : RT s b L p ft) (hT : TX b L) (p0 : 0 ≤ p) (p1 : p ≤ 1000) : FX12_readsRoom_b74 N s 113 n = some (rtM s (bl b L p) ft) := by
  have i1 : bl b L (bl b L p) = bl b L p := rnn_idem
  have g0 : p ≤ bl b L p := rnn_ge
  have g1 : bl b L p ≤ 1000 := by
    by_cases z : p ≤ L
    · have : bl b L p ≤ L := rnn_le z
      have := hT.2.1; omega
    · have : bl b L p = p := rnn_stop (by omega)
      omega
  unfold FX12_readsRoom_b74 FX12_readsRoom_b147 FX12_readsRoom_b195
  rw [blanks_ok hN hR hT p0 p1, Option.bind_some, amount_bad hN hf (RT_M hR) hT (by omega) g1, Option.bind_some]
  dsimp only
  rw [rtM_rtM, i1, amount_bad hN hf (RT_M hR) hT (by omega) g1, Option.bind_some]
  dsimp only
  rw [rtM_rtM, i1, if_neg (by rw [rtM_f]; exact hf), if_neg (by rw [rtM_f]; exact hf)]
theorem amount_go {N : Nat} {s : iv_M} {b : Int → Int} {L p : Int} (hN : 1000 ≤ N) (hR : RT s b L p 0) (hT : TX b L) (p0 : 0 ≤ p) (p1 : p ≤ 401) : FX12_amount N (rtM s (bl b L p) 0) 113 0 3 = some (nmv b L (bl b L p), rtM s (edg b L (bl b L p)) (nft b L (bl b L p) 0 3 0)) := by
  have i1 : bl b L (bl b L p) = bl b L p := rnn_idem
  have g0 : p ≤ bl b L p := rnn_ge
  have g1 : bl b L p ≤ 401 := by
    by_cases z : p ≤ L
    · have : bl b L p ≤ L := rnn_le z
      have := hT.2.1; omega
    · have : bl b L p = p := rnn_stop (by omega)
      omega
  have := amount_ok (N := N) (lo := 0) (hi := 3) hN (RT_M (p' := bl b L p) (ft' := 0) hR) hT (by omega) g1
  rw [i1, rtM_rtM] at this
  exact this
theorem pk_room {N q : Nat} {s0 r0 sc sr : iv_M} {b : Int → Int} {L e fr wt : Int} (hN : 1000 ≤ N) (hq : q = 9 ∨ q = 31) (hT : TX b L) (e0 : 0 ≤ e) (e1 : e ≤ L) (hR : RD sc 55 b L e fr 0) (hw : sc 54 1 = wt) (hRT : RT sr b L e 0) (hw2 : sr 113 38 = wt) (hwt : wt = 0 ∨ wt = 1) (hcol : 0 < sr 132 0) (hH : HP sc q (nbk sr)) (hW : WP (nbk sr)) (hc : PFc q s0 sc) (hr : PFr r0 sr) (hn12 : sr 132 2 < 12) : ∃ sc' sr', FX5_readRoom N sc 54 (q + 1) = some sc' ∧ FX12_palacePart N sr 113 1 = some sr' ∧ POut s0 r0 q b L e sc' sr' := by
  have hL := hT.2.1
  obtain ⟨n, hn⟩ : ∃ n, sr 132 2 = n := ⟨_, rfl⟩
  have n2 : nbk sr 114 2 = n := by rw [nbk_4 (by omega) (by omega), hn]
  have n0 : 0 ≤ n := by have := hW.1.1.2.2.2.2.1; rw [n2] at this; exact this
  have sc2 : sc (q + 1) 2 = n := by rw [← n2]; exact hH.2.2.2.2.2.1.1.2.2.1
  obtain ⟨p0, hp0⟩ : ∃ p0, p0 = bl b L e := ⟨_, rfl⟩
  have g0 : e ≤ p0 := by rw [hp0]; exact rnn_ge
  have g1 : p0 ≤ L := by rw [hp0]; exact rnn_le e1
  have scR : RD (mu sc 55 2 p0) 55 b L p0 fr 0 := RD_2 hR
  have srR : RT (rtM sr p0 0) b L p0 0 := RT_M hRT
  obtain ⟨kc, hkc⟩ : ∃ kc, kc = (fun (s_1019 : iv_M) => ((FX6_readNumber N s_1019 (54 + 1) 0 3).bind fun r_1021 => (fun (v_1021 : Int) (s_1022 : iv_M) => (if (s_1022 (54 + 1) 4) = 0 then ((FX6_readNumber N s_1022 (54 + 1) 0 3).bind fun r_1026 => (fun (v_1026 : Int) (s_1027 : iv_M) => (if (s_1027 (54 + 1) 4) = 0 then ((FX1_cellAt N s_1027 (q + 1) v_1021 v_1026).bind fun v_1030 => (if v_1030 = (-1) then (FX5_readRoom_b157 N s_1027 54 (s_1022 (54 + 1) 3)) else ((rd s_1027 ((q + 1) + 3) 16 v_1030).bind fun v_1032 => (if v_1032 = (-1) then ((FX1_put N s_1027 (q + 1) (s_1027 (q + 1) 2) v_1030 0).bind fun s_1036 => ((pt s_1036 (q + 1) 2 (w32 ((s_1036 (q + 1) 2) + 1))).bind fun s_1038 => some s_1038)) else (FX5_readRoom_b157 N s_1027 54 (s_1022 (54 + 1) 3)))))) else some s_1027)) r_1026.1 r_1026.2) else some s_1022)) r_1021.1 r_1021.2)) := ⟨_, rfl⟩
  have st : FX5_readRoom N sc 54 (q + 1) = FX5_readRoom_l10 N 54 (q + 1) kc N (mu sc 55 2 p0) 0 := by
    unfold FX5_readRoom
    have := skip_ok (N := N) hN hR hT e0 (by omega)
    rw [show 54 + 1 = 55 from rfl, this, Option.bind_some, ← hp0, hkc]
  have rt : FX12_palacePart N sr 113 1 = FX12_readsRoom_l13 N 113 n (fun (s_2735 : iv_M) => (FX12_readsRoom_b74 N s_2735 113 n)) N (rtM sr p0 0) 0 := by
    rw [pp_1]
    unfold FX12_readsRoom
    simp only [Nat.reduceAdd]
    rw [rd_ok (by omega) (by omega), Option.bind_some, hn, blanks_ok hN hRT hT e0 (by omega), Option.bind_some, ← hp0]
  have c55 : ∀ a, a ≠ 55 → mu sc 55 2 p0 a = sc a := fun a ha => mu_rw ha
  rcases sides_l (N := N) (F := q + 1) (b := b) (L := L) (n := n) (fr := fr) (kc := kc) (kr := fun (s_2735 : iv_M) => (FX12_readsRoom_b74 N s_2735 113 n)) (by omega) hT n0 (by omega) 4 N N 0 (mu sc 55 2 p0) (rtM sr p0 0) p0 (by omega) (by omega) (by omega) (by omega) (by omega) (by omega) (by rw [c55 _ (by omega)]; exact sc2) scR srR with ⟨x, y, d1, d2, d3, d4, d5, d6, d7⟩ | ⟨x, y, ft, p', d1, d2, d3, d4, d5, d6, d7, d8⟩
  rotate_left
  · -- a wrong sign
    obtain ⟨i1, i2, i3, i4, i5, i6⟩ := d8
    rw [st, rt, d1, d2]
    show ∃ sc' sr', some x = some sc' ∧ FX12_readsRoom_b74 N y 113 n = some sr' ∧ POut s0 r0 q b L e sc' sr'
    rw [b74_bad hN (by omega) d7 hT (by omega) (by omega)]
    have bg : p' ≤ bl b L p' := rnn_ge
    refine ⟨x, _, rfl, rfl, fun a a1 a2 a3 => ?_, ⟨fun a a1 a2 => ?_, fun i j1 j2 j3 => ?_⟩, bl b L p', by omega, Or.inr ⟨?_, ft, d3.1, d3.2, d4, RT_M d7⟩⟩
    · rw [i1 a a2 (by omega), c55 a a2]; exact hc a a1 a2 a3
    · rw [rtM_o a1, i4 a a1 (by omega), rtM_o a1]; exact hr.1 a a1 a2
    · rw [rtM_i j1 j2, i6 i j1 j2, rtM_i j1 j2]; exact hr.2 i j1 j2 j3
    · by_cases z : p' ≤ L
      · have : bl b L p' ≤ L := rnn_le z
        omega
      · have : bl b L p' = p' := rnn_stop (by omega)
        omega
  obtain ⟨i1, i2, i3, i4, i5, i6⟩ := d6
  rw [st, rt, d1, d2]
  show ∃ sc' sr', kc x = some sc' ∧ FX12_readsRoom_b74 N y 113 n = some sr' ∧ POut s0 r0 q b L e sc' sr'
  have p4 : p0 + ((4 : Nat) : Int) ≤ L := by omega
  obtain ⟨p1, hp1⟩ : ∃ p1, p1 = bl b L (p0 + ((4 : Nat) : Int)) := ⟨_, rfl⟩
  obtain ⟨a1, a2, a3⟩ := num_bd (b := b) p4
  rw [← hp1] at a1 a2 a3
  obtain ⟨x1, hx1⟩ : ∃ x1, x1 = edg b L p1 := ⟨_, rfl⟩
  rw [← hx1] at a2 a3
  obtain ⟨c1, c2, c3⟩ := num_bd (b := b) a3
  obtain ⟨p2, hp2⟩ : ∃ p2, p2 = bl b L x1 := ⟨_, rfl⟩
  rw [← hp2] at c1 c2 c3
  obtain ⟨x2, hx2⟩ : ∃ x2, x2 = edg b L p2 := ⟨_, rfl⟩
  rw [← hx2] at c2 c3
  have xo : ∀ a, a ≠ 55 → a ≠ q + 5 → x a = sc a := fun a z1 z2 => by rw [i1 a z1 (by omega), c55 a z1]
  have yo : ∀ a, a ≠ 113 → a ≠ 133 → y a = sr a := fun a z1 z2 => by rw [i4 a z1 z2, rtM_o z1]
  have yi : ∀ i, i ≠ 29 → i ≠ 30 → y 113 i = sr 113 i := fun i z1 z2 => by rw [i6 i z1 z2, rtM_i z1 z2]
  have xF : PFc q s0 x := fun a z1 z2 z3 => by rw [xo a z2 (by omega)]; exact hc a z1 z2 z3
  have yF : PFr r0 y := ⟨fun a z1 z2 => by rw [yo a z1 (by omega)]; exact hr.1 a z1 z2, fun i z1 z2 z3 => by rw [yi i z1 z2]; exact hr.2 i z1 z2 z3⟩
  have rn1 := readNumber_ok (N := N) (lo := 0) (hi := 3) hN d3 hT (by omega) (by omega)
  have am1 := amount_go (N := N) hN d4 hT (by omega) (by omega)
  have bk := blanks_ok (N := N) hN d4 hT (by omega) (by omega)
  rw [← hp1, ← hx1] at rn1 am1
  rw [← hp1] at bk
  unfold FX12_readsRoom_b74
  rw [bk, Option.bind_some, am1, Option.bind_some, rtM_p]
  dsimp only
  rw [hkc]
  simp only [Nat.reduceAdd]
  rw [rn1, Option.bind_some]
  dsimp only
  have f4 : rdM x 55 x1 p1 (nft b L p1 0 3 0) 55 4 = nft b L p1 0 3 0 := mu_eq
  rcases nft_cases (b := b) (L := L) (p := p1) (lo := 0) (hi := 3) (by omega) (by omega) with ⟨z1, v1, v2⟩ | ⟨z1, z2⟩
  rotate_left
  · rw [if_neg (by rw [f4]; omega), amount_bad hN (by omega) (RT_M d4) hT (by omega) (by omega), Option.bind_some]
    dsimp only
    unfold FX12_readsRoom_b147 FX12_readsRoom_b195
    rw [rtM_rtM, if_neg (by rw [rtM_f]; omega), if_neg (by rw [rtM_f]; omega), ← hp2]
    exact ⟨_, _, rfl, rfl, PFc_rd xF, PFr_rt yF, p2, by omega, Or.inr ⟨by omega, _, z1, z2, f4, RT_M d4⟩⟩
  rw [if_pos (by rw [f4]; exact z1), z1]
  have rn2 := readNumber_ok (N := N) (lo := 0) (hi := 3) hN (rdM_RD (pl := x1) (fr' := p1) (ft' := 0) d3) hT (by omega) (by omega)
  have am2 := amount_ok (N := N) (lo := 0) (hi := 3) hN (RT_M (p' := x1) (ft' := 0) d4) hT (by omega) (by omega)
  rw [← hp2, ← hx2, rdM_rdM] at rn2
  rw [← hp2, ← hx2, rtM_rtM] at am2
  rw [rn2, Option.bind_some, am2, Option.bind_some]
  dsimp only
  have f5 : rdM x 55 x2 p2 (nft b L p2 0 3 0) 55 4 = nft b L p2 0 3 0 := mu_eq
  rcases nft_cases (b := b) (L := L) (p := p2) (lo := 0) (hi := 3) (by omega) (by omega) with ⟨y1, u1, u2⟩ | ⟨y1, y2⟩
  rotate_left
  · unfold FX12_readsRoom_b147 FX12_readsRoom_b195
    rw [if_neg (by rw [f5]; omega), if_neg (by rw [rtM_f]; omega), if_neg (by rw [rtM_f]; omega)]
    exact ⟨_, _, rfl, rfl, PFc_rd xF, PFr_rt yF, x2, by omega, Or.inr ⟨by omega, _, y1, y2, f5, RT_M d4⟩⟩
  obtain ⟨vx, hvx⟩ : ∃ vx, vx = nmv b L p1 := ⟨_, rfl⟩
  obtain ⟨vy, hvy⟩ : ∃ vy, vy = nmv b L p2 := ⟨_, rfl⟩
  rw [← hvx] at v1 v2
  rw [← hvy] at u1 u2
  rw [if_pos (by rw [f5]; exact y1), y1, ← hvx, ← hvy]
  obtain ⟨xx, hxx⟩ : ∃ xx, xx = rdM x 55 x2 p2 0 := ⟨_, rfl⟩
  obtain ⟨yy, hyy⟩ : ∃ yy, yy = rtM y x2 0 := ⟨_, rfl⟩
  rw [← hxx, ← hyy]
  have f3 : rdM x 55 x1 p1 0 55 3 = p1 := by unfold rdM; rw [mu_ne (by omega), mu_eq]
  rw [f3]
  have xxo : ∀ a, a ≠ 55 → xx a = x a := fun a ha => by rw [hxx, rdM_o ha]
  have xxR : RD xx 55 b L x2 p2 0 := by rw [hxx]; exact rdM_RD d3
  have yyR : RT yy b L x2 0 := by rw [hyy]; exact RT_M d4
  have yyo : ∀ a, a ≠ 113 → yy a = y a := fun a ha => by rw [hyy, rtM_o ha]
  have w0 : nbk sr 114 0 = sr 132 0 := nbk_4 (by omega) (by omega)
  have w1 : nbk sr 114 1 = sr 132 1 := nbk_4 (by omega) (by omega)
  have h6 := hH.2.2.2.2.2.1.1
  have q0 : xx (q + 1) 0 = nbk sr 114 0 := by rw [xxo _ (by omega), xo _ (by omega) (by omega)]; exact h6.1
  have q1 : xx (q + 1) 1 = nbk sr 114 1 := by rw [xxo _ (by omega), xo _ (by omega) (by omega)]; exact h6.2.1
  have y32 : yy 132 = sr 132 := by rw [yyo _ (by decide), yo _ (by decide) (by decide)]
  have y38 : yy 138 = sr 138 := by rw [yyo _ (by decide), yo _ (by decide) (by decide)]
  have ca := cellAt_ok (N := N) (q := q + 1) (s := xx) (B := nbk sr) (x := vx) (y := vy) q0 q1 hW.1.1.2.1 hW.1.1.2.2.2.1
  -- where the cell can't be
  have wrong : ∃ sc' sr', FX5_readRoom_b157 N xx 54 p1 = some sc' ∧ FX12_readsRoom_b141 N yy 113 n p1 vx vy = some sr' ∧ POut s0 r0 q b L e sc' sr' := by
    unfold FX5_readRoom_b157 FX12_readsRoom_b141 FX12_readsRoom_b147 FX12_readsRoom_b195
    simp only [Nat.reduceAdd]
    have fv : ffl 0 p1 5 = 1 + 8 * p1 + 5 := by unfold ffl; rw [if_pos rfl]
    rw [fail_ok (by omega) (by omega) (by omega) (by omega), Option.bind_some, xxR.2.2.2.2.1, fails_ok yyR (by omega) (by omega) (by omega) (by omega), Option.bind_some, if_neg (by rw [rtM_f]; omega)]
    refine ⟨_, _, rfl, rfl, fun a t1 t2 t3 => by rw [mu_rw t2, xxo a t2]; exact xF a t1 t2 t3, PFr_rt (by rw [hyy]; exact PFr_rt yF), x2, by omega, Or.inr ⟨by omega, ffl 0 p1 5, by omega, by omega, mu_eq, RT_M yyR⟩⟩
  rw [ca, Option.bind_some, if_pos (show yy 113 30 = 0 from yyR.2.2.1)]
  rw [rd_ok (s := yy) (a := 132) (i := 0) (by omega) (by omega), Option.bind_some, y32]
  unfold isC
  rw [w0, w1]
  by_cases k1 : sr 132 0 ≤ vx
  · rw [if_neg (show ¬ (0 ≤ vx ∧ vx < sr 132 0 ∧ 0 ≤ vy ∧ vy < sr 132 1) by omega), if_pos rfl, if_pos k1]
    exact wrong
  rw [if_neg k1, rd_ok (s := yy) (a := 132) (i := 1) (by omega) (by omega), Option.bind_some, y32]
  by_cases k2 : sr 132 1 ≤ vy
  · rw [if_neg (show ¬ (0 ≤ vx ∧ vx < sr 132 0 ∧ 0 ≤ vy ∧ vy < sr 132 1) by omega), if_pos rfl, if_pos k2]
    exact wrong
  have cc : ¬ (4 * vy + vx = -1) := by omega
  have r3 : xx (q + 1 + 3) (4 * vy + vx) = sr 138 (4 * vy + vx) := by
    rw [xxo _ (by omega), xo _ (by omega) (by omega), h6.2.2.2.1 _ (by omega) (by omega), nbk_21 (by omega) (by omega)]
  rw [if_neg k2, if_pos (show 0 ≤ vx ∧ vx < sr 132 0 ∧ 0 ≤ vy ∧ vy < sr 132 1 by omega), if_neg cc, w32_id (x := 4 * vy) (by omega) (by omega), w32_id (x := 4 * vy + vx) (by omega) (by omega), rd_ok (s := yy) (a := 138) (by omega) (by omega), Option.bind_some, y38, rd_ok (s := xx) (by omega) (by omega), Option.bind_some, r3]
  by_cases k3 : sr 138 (4 * vy + vx) = -1
  rotate_left
  · rw [if_neg k3, if_neg k3]; exact wrong
  rw [if_pos k3, if_pos k3]
  have xx2 : xx (q + 1) 2 = n := by rw [xxo _ (by omega), xo _ (by omega) (by omega)]; exact sc2
  have pt2 : putM xx (q + 1) n (4 * vy + vx) 0 (q + 1) 2 = n := by rw [pm_0 (by omega) (by omega)]; exact xx2
  have hTF : (sh (q + 1 + 5)).2 = 64 := (HQ_TF (q := q) (by unfold HQ; omega)).1.2.2.1
  unfold FX12_readsRoom_b147 FX12_readsRoom_b195
  simp only [Nat.reduceAdd]
  rw [xx2, FX1_put_ok (by omega) hTF n0 (by omega) (by omega) (by omega) (by omega) (by omega), Option.bind_some, pt_ok, Option.bind_some, pt2, w32_id (x := n + 1) (by omega) (by omega), if_pos (show yy 113 30 = 0 from yyR.2.2.1), w32_id (x := 4 * vy) (by omega) (by omega), w32_id (x := 4 * vy + vx) (by omega) (by omega), wr_ok (by omega) (by omega), Option.bind_some, wr_ok n0 (by omega), Option.bind_some, wr_ok n0 (by omega), Option.bind_some, rd_ok (by omega) (by omega), Option.bind_some, wr_ok (by omega) (by omega), Option.bind_some, mu_rw (show (132 : Nat) ≠ 135 by decide), mu_rw (show (132 : Nat) ≠ 134 by decide), mu_rw (show (132 : Nat) ≠ 138 by decide), y32, hn, w32_id (x := n + 1) (by omega) (by omega)]
  obtain ⟨sc', hsc⟩ : ∃ sc', sc' = mu (putM xx (q + 1) n (4 * vy + vx) 0) (q + 1) 2 (n + 1) := ⟨_, rfl⟩
  obtain ⟨sr', hsr⟩ : ∃ sr', sr' = mu (mu (mu (mu yy 138 (4 * vy + vx) n) 134 n (4 * vy + vx)) 135 n 0) 132 2 (n + 1) := ⟨_, rfl⟩
  rw [← hsc, ← hsr]
  obtain ⟨e1', e2'⟩ := room_put (q := q) (sc := sc) (sc1 := xx) (sr := sr) (sr1 := yy) (n := n) (c := 4 * vy + vx) hq hH hW hn (by omega) (by omega) (by omega) (by omega) (by omega) k3 (fun a t1 t2 => by rw [xxo a t1, xo a t1 t2]) (fun j hj => by rw [xxo _ (by omega), show q + 5 = q + 1 + 4 by omega, i2 j (by omega), c55 _ (by omega)]) (fun a t1 t2 => by rw [yyo a t1, yo a t1 t2]) (fun j hj => by rw [yyo _ (by decide), i5 j (by omega), rtM_o (by decide)]) (fun j j0 j1 => by rw [xxo _ (by omega), yyo _ (by decide)]; exact d7 j (by omega) (by omega)) hsc hsr
  have sco : ∀ a, (a < q + 1 ∨ q + 6 < a) → sc' a = xx a := fun a ha => by funext i; rw [hsc, mu_rw (by omega), pm_out (by omega)]
  have sro : ∀ a, (a < 132 ∨ 138 < a) → sr' a = yy a := fun a ha => by rw [hsr, mu_rw (by omega), mu_rw (by omega), mu_rw (by omega), mu_rw (by omega)]
  refine ⟨sc', sr', rfl, rfl, fun a t1 t2 t3 => by rw [sco a (by omega), xxo a t2]; exact xF a t1 t2 t3, ⟨fun a t1 t2 => by rw [sro a t2, yyo a t1]; exact yF.1 a t1 t2, fun i t1 t2 t3 => by rw [sro 113 (by omega), hyy, rtM_i t1 t2]; exact yF.2 i t1 t2 t3⟩, x2, by omega, Or.inl ⟨c3, by rw [hsr, mu_ne (by omega), mu_rw (by decide), mu_rw (by decide), mu_rw (by decide), y32]; exact hcol, wt, ⟨p2, ?_⟩, ?_, e1', ?_, ?_, hwt, e2'⟩⟩
  · have g5 := sco 55 (by omega)
    have g1' := sco 1 (by omega)
    exact ⟨by rw [g5]; exact xxR.1, by rw [g5]; exact xxR.2.1, by rw [g5]; exact xxR.2.2.1, by rw [g5]; exact xxR.2.2.2.1, by rw [g5]; exact xxR.2.2.2.2.1, by decide, fun i i0 i1 => by rw [g1']; exact xxR.2.2.2.2.2.2 i i0 i1⟩
  · rw [sco 54 (by omega), xxo 54 (by decide), xo 54 (by decide) (by omega)]; exact hw
  · have g5 := sro 113 (by omega)
    exact ⟨by rw [g5]; exact yyR.1, by rw [g5]; exact yyR.2.1, by rw [g5]; exact yyR.2.2.1, fun i i0 i1 => by rw [sro 139 (by omega)]; exact yyR.2.2.2 i i0 i1⟩
  · rw [sro 113 (by omega), hyy, rtM_i (by omega) (by omega), yi 38 (by omega) (by omega)]; exact hw2
