-- RULE: a fact is wanted
theorem b40_ok {N : Nat} {r : iv_M} {b : Int → Int} {L p ft sl dep cnt k : Int} {B : List (Int × Int)} {O : List Int} (hR : RT r b L p ft) (h : RK r sl B O dep cnt) (hl : O.length < 400) : ∃ r', FX12_opens_b40 N r 113 k = some r' ∧ RT r' b L p ft ∧ RK r' sl B (k :: O) dep cnt ∧ FrR sl r r' := by
  obtain ⟨b1, ⟨b2, b3⟩, ⟨b4, b5⟩, b6, b7, b8⟩ := h
  refine ⟨mu (mu r 145 (O.length : Int) k) 113 36 ((O.length : Int) + 1), ?_, RT_i (RT_mu hR (by decide) (by decide)) (by omega) (by omega) (by omega), ⟨?_, ⟨?_, EN_ext (by rw [mu_rw (by decide), mu_rw (by decide)]) (by rw [mu_rw (by decide), mu_rw (by decide)]) _ _ b3⟩, ⟨by rw [mu_eq]; simp, ?_⟩, ?_, ?_, ?_⟩, ?_⟩
  · unfold FX12_opens_b40
    simp only [Nat.reduceAdd]
    rw [b4, wr_ok (by omega) (by omega), Option.bind_some, pt_ok, Option.bind_some, mu_rw (by decide), b4, w32_id (by omega) (by omega)]
  · rw [mu_ne (by omega), mu_rw (by decide)]; exact b1
  · rw [mu_ne (by omega), mu_rw (by decide)]; exact b2
  · rw [mu_rw (by decide)]; exact SR_push b5
  · rw [mu_ne (by omega), mu_rw (by decide)]; exact b6
  · rw [mu_ne (by omega), mu_rw (by decide)]; exact b7
  · rw [mu_ne (by omega), mu_rw (by decide)]; exact b8
  · exact ⟨fun a x1 x2 x3 x4 => by rw [mu_rw x1, mu_rw x4], fun j _ => by rw [mu_rw (by decide), mu_rw (by decide), mu_rw (by decide), mu_rw (by decide)]; exact ⟨rfl, rfl⟩, fun i x1 x2 x3 x4 x5 x6 => by rw [mu_ne (by omega), mu_rw (by decide)]⟩
theorem RK_dep {r : iv_M} {sl dep cnt v : Int} {B : List (Int × Int)} {O : List Int} (h : RK r sl B O dep cnt) : RK (mu r 113 34 v) sl B O v cnt := by
  obtain ⟨a1, ⟨a2, a3⟩, ⟨a4, a5⟩, a6, a7, a8⟩ := h
  exact ⟨by rw [mu_ne (by omega)]; exact a1, ⟨by rw [mu_ne (by omega)]; exact a2, EN_ext (mu_rw (by decide)) (mu_rw (by decide)) _ _ a3⟩, ⟨by rw [mu_ne (by omega)]; exact a4, by rw [mu_rw (by decide)]; exact a5⟩, mu_eq, by rw [mu_ne (by omega)]; exact a7, by rw [mu_ne (by omega)]; exact a8⟩
theorem ropens_ok {N : Nat} {r : iv_M} {b : Int → Int} {L p sl dep cnt k : Int} {B : List (Int × Int)} {O : List Int} (hk : k = 9 ∨ k = 12) (hR : RT r b L p 0) (h : RK r sl B O dep cnt) (hl : O.length < 400) (p0 : 0 ≤ p) (p1 : p ≤ 1000) (d0 : 0 ≤ dep) (d1 : dep ≤ 10) : ∃ r', FX12_opens N r 113 k = some r' ∧ RT r' b L p (if dep = 10 then ffl 0 p 2 else 0) ∧ RK r' sl B (k :: O) (dep + 1) cnt ∧ FrR sl r r' := by
  have e : FX12_opens N r 113 k = FX12_opens_b12 N r 113 k := by
    unfold FX12_opens
    rcases hk with u | u
    · rw [if_pos u]
    · rw [if_neg (by omega), if_pos u]
  have h34 := h.2.2.2.1
  have fin : ∀ z ft, RT z b L p ft → RK z sl B O dep cnt → FrR sl r z → ∃ r', FX12_opens_b30 N z 113 k = some r' ∧ RT r' b L p ft ∧ RK r' sl B (k :: O) (dep + 1) cnt ∧ FrR sl r r' := fun z ft zR zK zF => by
    unfold FX12_opens_b30
    rw [pt_ok, Option.bind_some, zK.2.2.2.1, w32_id (by omega) (by omega)]
    obtain ⟨r', a1, a2, a3, a4⟩ := b40_ok (N := N) (k := k) (RT_i (i := 34) (v := dep + 1) zR (by omega) (by omega) (by omega)) (RK_dep zK) hl
    exact ⟨r', a1, a2, a3, (zF.trans (FrR_m (by omega))).trans a4⟩
  rw [e]
  unfold FX12_opens_b12
  rw [h34]
  by_cases g : dep = 10
  · rw [if_pos g, if_pos g, hR.2.1, fails_ok hR p0 p1 (by omega) (by omega), Option.bind_some]
    exact fin _ _ (RT_M hR) (RK_rt h) FrR_rt
  · rw [if_neg g, if_neg g]
    exact fin r 0 hR h FrR.refl
theorem str_not : Str 1000028 wNot := str_ok (by decide)
theorem str_and : Str 1000029 wAnd := str_ok (by decide)
theorem str_or : Str 1000030 wOr := str_ok (by decide)
theorem str_bar : Str 1000036 wBar := str_ok (by decide)
theorem low4 {O : List Int} (h : okS 0 O = true) : Low 4 O ∧ O.length ≤ 2 + (n9 O + 3 * n12 O).toNat := by
  obtain ⟨a, b⟩ := okS_len O 0 (by omega) (by omega) h
  have n1 := n9_nn O
  have n2 := n12_nn O
  refine ⟨fun k ys hk => ?_, by omega⟩
  have := b k (by rw [hk]; exact List.mem_cons_self)
  have : k = 9 ∨ k = 10 ∨ k = 11 ∨ k = 12 := by omega
  rcases this with u | u | u | u <;> rw [u] <;> decide
/-- a sign that opens: 'not', or a bracket -/
theorem fact_open {N : Nat} {kx : iv_M → Option (Int × iv_M)} {b : Int → Int} {L sl cl : Int} {s0 r0 : iv_M} {Pc Q : List (Int × Int)} {O : List Int} {c r c' : iv_M} {p q x cmp cnt k len fr fr' : Int} {A : List (Int × Int)} (hC : JC N b L sl cl r0 Pc Q O) (hok : okS 0 O = true) (h : JS b L sl cl s0 r0 Pc Q O c r p q x 1 cmp cnt A [] [] (tyO O) 1) (hq : q = bl b L p) (hk : k = 9 ∨ k = 12) (hlen : (k = 9 ∧ len = 3) ∨ (k = 12 ∧ len = 1)) (hL' : q + len ≤ L) (hR : RD c 58 b L p fr 0)
    (z1 : FX8_readNext N (mu c 58 2 (bl b L p)) 57 (sg b L (bl b L p)) = some (1, c')) (z2 : FrC (mu c 58 2 (bl b L p)) c') (z3 : n9 O + n12 O < 10 → RD c' 58 b L (q + len) fr' 0 ∧ CK c' (Pc ++ A) (k :: O) 1 0 cl (n9 O + n12 O + 1) (n12 (k :: O)) cnt) (z4 : ¬ n9 O + n12 O < 10 → c' 58 4 = ffl 0 q 2) : ∃ r' ft, ((FX12_opens N r 113 k).bind fun s => ((pt s 113 29 (w32 (s 113 29 + len))).bind fun s' => some ((0 : Int), s'))) = some (0, rtM r' (q + len) ft) ∧ ((∃ x', CRun N kx c x c' x' ∧ JC N b L sl cl r0 Pc Q (k :: O) ∧ okS 0 (k :: O) = true ∧ JS b L sl cl s0 r0 Pc Q (k :: O) c' (rtM r' (q + len) ft) (q + len) (q + len) x' 1 0 cnt A [] [] (tyO (k :: O)) 1) ∨ JF N kx b L sl s0 r0 c x (rtM r' (q + len) ft)) := by
  have hC' := hC
  obtain ⟨hN, hT, ⟨s00, s01⟩, hcl, h5, h6, h37⟩ := hC
  obtain ⟨⟨_, hK, hFc⟩, ⟨hRT, hRK, hFr⟩, ⟨x0, x1, x2, x3, x4⟩, hty, ⟨nt, t0, t1, t2⟩, hnv, ⟨c0, c1⟩, hisK, hw⟩ := h
  have hL := hT.2.1
  have l4 := low4 hok
  have n1 := n9_nn O
  have n2 := n12_nn O
  have lo : O.length ≤ 32 := by omega
  obtain ⟨r1, a1, a2, a3, a4⟩ := ropens_ok (N := N) hk hRT hRK (by omega) (by omega) (by omega) (by omega) h6
  obtain ⟨ft, hft⟩ : ∃ ft, ft = (if n9 O + n12 O = 10 then ffl 0 q 2 else 0) := ⟨_, rfl⟩
  rw [← hft] at a2
  have fc : FrC s0 c' := hFc.trans (FrC.trans (fun a u1 u2 u3 u4 => mu_rw u2) z2)
  refine ⟨r1, ft, by rw [a1, Option.bind_some, pt_ok, Option.bind_some, a2.2.1, w32_id (by omega) (by omega), rtM_mu a2], ?_⟩
  have R2 := RT_M (p' := q + len) (ft' := ft) a2
  have f2 : FrR sl r0 (rtM r1 (q + len) ft) := (hFr.trans a4).trans FrR_rt
  by_cases g : n9 O + n12 O < 10
  · left
    obtain ⟨e1, e2⟩ := z3 g
    have f0 : ft = 0 := by rw [hft, if_neg (by omega)]
    rw [f0] at R2 f2 ⊢
    have kd : n9 (k :: O) + n12 (k :: O) = n9 O + n12 O + 1 := by
      show (if k = 9 then 1 else 0) + n9 O + ((if k = 12 then 1 else 0) + n12 O) = _
      rcases hk with u | u
      · rw [if_pos u, if_neg (by omega)]; omega
      · rw [if_neg (by omega), if_pos u]; omega
    have k12 : n12 (k :: O) = (if k = 12 then 1 else 0) + n12 O := rfl
    refine ⟨x + 1, ⟨1, by omega, fun n => c_step hN hT (by omega) (by omega) x0 (by omega) hR z1 e1.2.2.2.2.1 n⟩, JC_O hC' (by omega), ?_, ⟨⟨fr', e1⟩, ?_, fc⟩, ⟨R2, ?_, f2⟩, ⟨by omega, by omega, by omega, hL', rfl⟩, ?_, ⟨nt + (if k = 9 then 1 else 0), ?_, ?_, ?_⟩, hnv, ⟨c0, c1⟩, ?_, ?_⟩
    · unfold okS
      rcases hk with u | u
      · rw [if_neg (by omega), if_neg (by omega), if_neg (by omega), if_pos u, hok]; rfl
      · rw [if_pos u]; exact hok
    · show CK c' (Pc ++ A) (k :: O) 1 0 cl (n9 (k :: O) + n12 (k :: O)) (n12 (k :: O)) cnt
      rw [kd]; exact e2
    · rw [kd]; exact RK_rt a3
    · have : tyO (k :: O) = tyO O := by show (if k = 10 ∨ k = 11 then true :: tyO O else tyO O) = _; rw [if_neg (by omega)]
      rw [this]; exact hty
    · split <;> omega
    · rcases hlen with ⟨u, v⟩ | ⟨u, v⟩
      · rw [if_pos u]; omega
      · rw [if_neg (by omega)]; omega
    · rw [k12]
      simp at t2 ⊢
      rcases hk with u | u
      · rw [if_pos u, if_neg (by omega)]; omega
      · rw [if_neg (by omega), if_pos u]; omega
    · intro j hj
      have hj' : j ∈ k :: O := hj
      rw [List.mem_cons] at hj'
      rcases hj' with u | u
      · rw [u]; unfold isK; omega
      · exact hisK j u
    · simp; omega
  · right
    have f0 : ft = ffl 0 q 2 := by rw [hft, if_pos (by omega)]
    have fv : ffl 0 q 2 = 1 + 8 * q + 2 := by unfold ffl; rw [if_pos rfl]
    exact ⟨ft, by omega, by omega, ⟨2, c', by omega, fun n => c_fail hN hT (by omega) (by omega) x0 (by omega) hR z1 (Or.inr (by rw [z4 g]; omega)) n, by rw [z4 g, f0], fc⟩, f2, q + len, by omega, by omega, R2⟩
theorem fact_sim {N : Nat} {kx : iv_M → Option (Int × iv_M)} {b : Int → Int} {L sl cl : Int} {s0 r0 : iv_M} {Pc Q : List (Int × Int)} {O : List Int} {c r : iv_M} {p pr x cmp cnt : Int} {A : List (Int × Int)} (hC : JC N b L sl cl r0 Pc Q O) (hok : okS 0 O = true) (h : JS b L sl cl s0 r0 Pc Q O c r p pr x 1 cmp cnt A [] [] (tyO O) 1) : ∃ w r', FX12_fact N r 113 = some (w, r') ∧ ((w = 0 ∧ ∃ O' c' p' x', CRun N kx c x c' x' ∧ p < p' ∧ JC N b L sl cl r0 Pc Q O' ∧ okS 0 O' = true ∧ JS b L sl cl s0 r0 Pc Q O' c' r' p' p' x' 1 0 cnt A [] [] (tyO O') 1) ∨ (w = 1 ∧ ∃ c' p' x' cnt' A' X', CRun N kx c x c' x' ∧ p < p' ∧ JS b L sl cl s0 r0 Pc Q O c' r' p' (bl b L p') x' 4 1 cnt' A' X' [] (true :: tyO O) 0 ∧ X'.length ≤ 3 ∧ (∀ k, k ∈ X' → 4 ≤ rnk k) ∧ ark (sg b L (bl b L p')) = 0) ∨ JF N kx b L sl s0 r0 c x r') := by
  have hC' := hC
  obtain ⟨hN, hT, ⟨s00, s01⟩, hcl, h5, h6, h37⟩ := hC'
  have hL := hT.2.1
  obtain ⟨d3, d4⟩ := blanks_sim hC h
  obtain ⟨q, hq⟩ : ∃ q, q = bl b L p := ⟨_, rfl⟩
  rw [← hq] at d3 d4
  have hh := d4
  obtain ⟨⟨⟨fr, hR⟩, hK, hFc⟩, ⟨hRT, hRK, hFr⟩, ⟨x0, x1, x2, x3, x4⟩, hty, _, _, _, hisK, hw⟩ := hh
  have qi : bl b L q = q := by rw [hq]; exact rnn_idem
  have l4 := low4 hok
  have n1 := n9_nn O
  have n2 := n12_nn O
  have lo : O.length ≤ 32 := by omega
  unfold FX12_fact
  rw [d3, Option.bind_some, stood_ok hN hRT hT str_not (by decide) (by omega) (by omega), Option.bind_some]
  have hK1 : CK (mu c 58 2 q) (Pc ++ A) O 1 cmp cl (n9 O + n12 O) (n12 O) cnt := CK_m hK
  have hR1 : RD (mu c 58 2 q) 58 b L q fr 0 := RD_2 hR
  by_cases nt : isw b q (el b L q) wNot = true
  · have el3 : el b L q = q + 3 := isw_len nt
    have ele : el b L q ≤ L := rnn_le x3
    obtain ⟨c', z1, z2, z3, z4⟩ := next_not (N := N) hN hT (by omega) x3 qi nt hR1 hK1 (by omega) (by omega) h6
    obtain ⟨r', ft, g1, g2⟩ := fact_open (kx := kx) (k := 9) (len := 3) hC hok d4 hq (Or.inl rfl) (Or.inl ⟨rfl, rfl⟩) (by omega) hR (by rw [← hq]; exact z1) (by rw [← hq]; exact z2) (fun u => ⟨(z3 u).1, by
      have e := (z3 u).2
      have : n12 (9 :: O) = n12 O := by show (if (9 : Int) = 12 then 1 else 0) + n12 O = _; rw [if_neg (by decide)]; omega
      rw [this]; exact e⟩) z4
    rw [if_pos nt, if_neg (by decide)]
    refine ⟨0, _, g1, ?_⟩
    rcases g2 with ⟨x', y1, y2, y3, y4⟩ | w
    · exact Or.inl ⟨rfl, 9 :: O, c', q + 3, x', y1, by omega, y2, y3, y4⟩
    · exact Or.inr (Or.inr w)
  rw [if_neg nt, if_pos rfl, sign_ok hRT hT (by omega), Option.bind_some]
  have ntf : isw b q (el b L q) wNot = false := by cases hh : isw b q (el b L q) wNot; rfl; exact absurd hh nt
  by_cases s91 : sg b L q = 91
  · have pL : q < L := ((sg_eq hT (by omega) (by omega) (by omega)).mp s91).1
    obtain ⟨c', z1, z2, z3, z4⟩ := next_open (N := N) hN hT (by omega) x3 s91 hR1 hK1 (by omega) (by omega) h6 (by omega) (by omega)
    obtain ⟨r', ft, g1, g2⟩ := fact_open (kx := kx) (k := 12) (len := 1) hC hok d4 hq (Or.inr rfl) (Or.inr ⟨rfl, rfl⟩) (by omega) hR (by rw [← hq]; exact z1) (by rw [← hq]; exact z2) (fun u => ⟨(z3 u).1, by
      have e := (z3 u).2
      have : n12 (12 :: O) = n12 O + 1 := by show (if (12 : Int) = 12 then 1 else 0) + n12 O = _; rw [if_pos rfl]; omega
      rw [this]; exact e⟩) z4
    rw [if_pos s91]
    refine ⟨0, _, g1, ?_⟩
    rcases g2 with ⟨x', y1, y2, y3, y4⟩ | w
    · exact Or.inl ⟨rfl, 12 :: O, c', q + 1, x', y1, by omega, y2, y3, y4⟩
    · exact Or.inr (Or.inr w)
  rw [if_neg s91]
  obtain ⟨r', g1, g2⟩ := compared_sim (kx := kx) hC d4 (by rw [← hq]; exact s91) (by rw [← hq]; exact ntf) l4.1 (by omega)
  rw [g1, Option.bind_some]
  refine ⟨1, r', rfl, ?_⟩
  rcases g2 with ⟨c', p', x', cnt', A', X', y1, y2, y3⟩ | w
  · exact Or.inr (Or.inl ⟨rfl, c', p', x', cnt', A', X', y1, y2, y3⟩)
  · exact Or.inr (Or.inr w)
