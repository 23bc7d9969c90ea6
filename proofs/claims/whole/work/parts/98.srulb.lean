-- RULE: behind a fact
theorem and_or {b : Int → Int} {q e : Int} (h : isw b q e wAnd = true) : isw b q e wOr = false := by
  have h1 := isw_len h
  have : wAnd.length = 3 := rfl
  unfold isw
  have h2 : wOr.length = 2 := rfl
  rw [decide_eq_false (by omega), Bool.false_and]
theorem idw_ao {b : Int → Int} {q e : Int} : idw b q e [wAnd, wOr] 0 = if isw b q e wAnd = true then 0 else if isw b q e wOr = true then 1 else -1 := rfl
theorem word_lt {b : Int → Int} {L q : Int} {w : List Int} (hT : TX b L) (q0 : 0 ≤ q) (h : isw b q (el b L q) w = true) (hw : 0 < w.length) : 97 ≤ sg b L q ∧ sg b L q ≤ 122 := by
  have h1 := isw_len h
  exact (sg_lt hT q0).mpr (rnn_in (f := isLt) (b := b) (L := L) (p := q) (i := q) (Int.le_refl q) (by show q < el b L q; omega))
/-- the class joins what follows to what was read -/
theorem joint_sim {N : Nat} {kx : iv_M → Option (Int × iv_M)} {b : Int → Int} {L sl cl : Int} {s0 r0 : iv_M} {Pc Q : List (Int × Int)} {O : List Int} {c r : iv_M} {p q x stg cmp cnt k len : Int} {A : List (Int × Int)} {X : List Int} (hC : JC N b L sl cl r0 Pc Q O) (h : JS b L sl cl s0 r0 Pc Q O c r p q x stg cmp cnt A X [] (true :: tyO O) 0) (hq : q = bl b L p) (he : endF stg (ark (sg b L q))) (hk : (k = 10 ∧ isw b q (el b L q) wAnd = true ∧ len = 3) ∨ (k = 11 ∧ isw b q (el b L q) wAnd = false ∧ isw b q (el b L q) wOr = true ∧ len = 2)) (hP : Prt (rnk k) X O) (hok : okS 0 (k :: O) = true) : ∃ r', ((FX12_opens N r 113 k).bind fun s => ((pt s 113 29 (w32 (s 113 29 + len))).bind fun s' => some s')) = some r' ∧ ∃ c' p' x' A', CRun N kx c x c' x' ∧ p < p' ∧ JC N b L sl cl r0 Pc Q (k :: O) ∧ JS b L sl cl s0 r0 Pc Q (k :: O) c' r' p' p' x' 1 cmp cnt A' [] [] (tyO (k :: O)) 1 := by
  obtain ⟨l1, l2⟩ := JS_len hC h (by omega)
  have hC' := hC
  obtain ⟨hN, hT, ⟨s00, s01⟩, hcl, h5, h6, h37⟩ := hC'
  have hL := hT.2.1
  obtain ⟨⟨⟨fr, hR⟩, hK, hFc⟩, ⟨hRT, hRK, hFr⟩, ⟨x0, x1, x2, x3, x4⟩, hty, ⟨nt, t0, t1, t2⟩, hnv, ⟨c0, c1⟩, hisK, hw⟩ := h
  have qi : bl b L q = q := by rw [hq]; exact rnn_idem
  have k12 : k ≠ 12 ∧ k ≠ 9 ∧ isK k := by unfold isK; omega
  have elq : el b L q = q + len ∧ 97 ≤ sg b L q ∧ sg b L q ≤ 122 ∧ 0 < len := by
    rcases hk with ⟨u, v, w⟩ | ⟨u, v', v, w⟩
    · have := isw_len v
      have h3 : wAnd.length = 3 := rfl
      exact ⟨by omega, (word_lt hT (by omega) v (by decide)).1, (word_lt hT (by omega) v (by decide)).2, by omega⟩
    · have := isw_len v
      have h3 : wOr.length = 2 := rfl
      exact ⟨by omega, (word_lt hT (by omega) v (by decide)).1, (word_lt hT (by omega) v (by decide)).2, by omega⟩
  have ele : el b L q ≤ L := rnn_le x3
  have kid : k = if idw b q (el b L q) [wAnd, wOr] 0 = 0 then 10 else 11 := by
    rw [idw_ao]
    rcases hk with ⟨u, v, w⟩ | ⟨u, v', v, w⟩
    · rw [if_pos v, if_pos rfl]; exact u
    · rw [if_neg (show ¬ isw b q (el b L q) wAnd = true by rw [v']; decide), if_pos v, if_neg (by decide)]; exact u
  have wf : wft b q (el b L q) [wAnd, wOr] 0 = 0 := by
    unfold wft; rw [idw_ao]
    rcases hk with ⟨u, v, w⟩ | ⟨u, v', v, w⟩
    · rw [if_pos v, if_neg (by decide)]
    · rw [if_neg (show ¬ isw b q (el b L q) wAnd = true by rw [v']; decide), if_pos v, if_neg (by decide)]
  have n9w := n9_nn (X ++ O)
  have n12w := n12_nn (X ++ O)
  have nx := n9_nn X
  have hwl : X.length + O.length ≤ 60 := by simp at hw; omega
  have wl2 : ((X ++ O).length : Int) ≤ 60 := by rw [List.length_append]; omega
  obtain ⟨c', z1, z2, z3, z4⟩ := next_joint (N := N) (k := k) hN hT (by omega) x3 qi he ⟨elq.2.1, elq.2.2.1⟩ kid hP (RD_2 (p' := q) hR) (CK_m (i := 2) (v := q) hK) (by omega) (by omega) (show n9 X - 1000 ≤ n9 (X ++ O) + n12 (X ++ O) by rw [n9_app]; have := n9_nn O; omega) (show n9 (X ++ O) + n12 (X ++ O) ≤ 1000 by omega)
  rw [wf, elq.1] at z2
  have fc : FrC s0 c' := hFc.trans (FrC.trans (fun a u1 u2 u3 u4 => mu_rw u2) z4)
  obtain ⟨r1, a1, a2, a3, a4⟩ := b40_ok (N := N) (k := k) hRT hRK (by omega)
  have op : FX12_opens N r 113 k = some r1 := by unfold FX12_opens; rw [if_neg k12.2.1, if_neg k12.1]; exact a1
  have R2 := RT_M (p' := q + len) (ft' := 0) a2
  refine ⟨rtM r1 (q + len) 0, by rw [op, Option.bind_some, pt_ok, Option.bind_some, a2.2.1, w32_id (by omega) (by omega), rtM_mu a2], c', q + len, x + 1, A ++ em X, ⟨1, by omega, fun n => c_step hN hT (by omega) (by omega) x0 (by omega) hR (by rw [← hq]; exact z1) z2.2.2.2.2.1 n⟩, by omega, ?_, ?_⟩
  · refine JC_O hC ?_
    show (if k = 9 then 1 else 0) + n9 O + ((if k = 12 then 1 else 0) + n12 O) ≤ 10
    rw [if_neg k12.2.1, if_neg k12.1]; omega
  have x12 := Prt_12 hP (by rcases hk with ⟨u, _⟩ | ⟨u, _⟩ <;> rw [u] <;> decide)
  have d9 : n9 (k :: O) = n9 O := by show (if k = 9 then 1 else 0) + n9 O = _; rw [if_neg k12.2.1]; omega
  have d12 : n12 (k :: O) = n12 O := by show (if k = 12 then 1 else 0) + n12 O = _; rw [if_neg k12.1]; omega
  have em0 : em [] = [] := rfl
  refine ⟨⟨⟨q, z2⟩, ?_, fc⟩, ⟨R2, ?_, (hFr.trans a4).trans FrR_rt⟩, ⟨by omega, by omega, by omega, by omega, rfl⟩, ?_, ⟨nt, t0, by omega, ?_⟩, ?_, ⟨c0, c1⟩, ?_, ?_⟩
  · show CK c' (Pc ++ (A ++ em X)) (k :: O) 1 cmp cl (n9 (k :: O) + n12 (k :: O)) (n12 (k :: O)) cnt
    rw [d9, d12, ← List.append_assoc]
    have q1 : n9 (X ++ O) + n12 (X ++ O) - n9 X = n9 O + n12 O := by rw [n9_app, n12_app, x12]; omega
    have q2 : n12 (X ++ O) = n12 O := by rw [n12_app, x12]; omega
    have z3' : CK c' (Pc ++ A ++ em X) (k :: O) 1 cmp cl (n9 (X ++ O) + n12 (X ++ O) - n9 X) (n12 (X ++ O)) cnt := z3
    rw [q1, q2] at z3'
    exact z3'
  · rw [em0, List.append_nil, d9, d12]; exact RK_rt a3
  · rw [em0, List.append_nil]
    have : tyO (k :: O) = true :: tyO O := by show (if k = 10 ∨ k = 11 then true :: tyO O else tyO O) = _; rw [if_pos (by omega)]
    rw [this]; exact hty
  · rw [List.length_append, em_len, d12]; simp at t2 ⊢; omega
  · rw [em0, List.append_nil]; exact hnv
  · intro j hj
    have hj' : j ∈ k :: O := hj
    rw [List.mem_cons] at hj'
    rcases hj' with u | u
    · rw [u]; exact k12.2.2
    · exact hisK j (by rw [List.mem_append]; right; exact u)
  · have l4 := low4 hok
    simp at l4 ⊢
    have m1 := n9_nn (k :: O)
    have m2 := n12_nn (k :: O)
    omega
/-- where neither 'and' nor 'or' stands nor the end it should be: the class's fault -/
theorem end_bad {N : Nat} {kx : iv_M → Option (Int × iv_M)} {b : Int → Int} {L sl cl : Int} {s0 r0 : iv_M} {Pc Q : List (Int × Int)} {O : List Int} {c r : iv_M} {p q x stg cmp cnt : Int} {A : List (Int × Int)} {X : List Int} {ty : List Bool} (hC : JC N b L sl cl r0 Pc Q O) (h : JS b L sl cl s0 r0 Pc Q O c r p q x stg cmp cnt A X [] ty 0) (hq : q = bl b L p) (he : endF stg (ark (sg b L q))) (hna : isw b q (el b L q) wAnd = false) (hno : isw b q (el b L q) wOr = false) (hP : Prt 1 X O) (hbad : (O = [] ∧ sg b L q ≠ 59 ∧ sg b L q ≠ -1) ∨ (0 < n12 O ∧ sg b L q ≠ 93)) : CEnd N kx s0 c x (1 + 8 * q) := by
  obtain ⟨l1, l2⟩ := JS_len hC h (by omega)
  obtain ⟨hN, hT, ⟨s00, s01⟩, hcl, h5, h6, h37⟩ := hC
  have hL := hT.2.1
  obtain ⟨⟨⟨fr, hR⟩, hK, hFc⟩, ⟨hRT, hRK, hFr⟩, ⟨x0, x1, x2, x3, x4⟩, hty, ⟨nt, t0, t1, t2⟩, hnv, ⟨c0, c1⟩, hisK, hw⟩ := h
  have qi : bl b L q = q := by rw [hq]; exact rnn_idem
  have fv : ffl 0 q 0 = 1 + 8 * q := by unfold ffl; rw [if_pos rfl]; omega
  have hR1 : RD (mu c 58 2 q) 58 b L q fr 0 := RD_2 hR
  have hK1 : CK (mu c 58 2 q) (Pc ++ A) (X ++ O) stg cmp cl (n9 (X ++ O) + n12 (X ++ O)) (n12 (X ++ O)) cnt := CK_m hK
  have n9w := n9_nn (X ++ O)
  have n12w := n12_nn (X ++ O)
  have nx := n9_nn X
  have no := n9_nn O
  have x12 := Prt_12 hP (by omega)
  have b12 : n12 (X ++ O) = n12 O := by rw [n12_app, x12]; omega
  have hwl : X.length + O.length ≤ 60 := by simp at hw; omega
  have wl2 : ((X ++ O).length : Int) ≤ 60 := by rw [List.length_append]; omega
  have ix : idw b q (el b L q) [wAnd, wOr] 0 = -1 := by
    rw [idw_ao, if_neg (show ¬ isw b q (el b L q) wAnd = true by rw [hna]; decide), if_neg (show ¬ isw b q (el b L q) wOr = true by rw [hno]; decide)]
  by_cases lt : 97 ≤ sg b L q ∧ sg b L q ≤ 122
  · obtain ⟨c', z1, z2, z3, z4⟩ := next_joint (N := N) (k := 11) hN hT (by omega) x3 qi he lt (by rw [ix, if_neg (by decide)]) hP hR1 hK1 (by omega) (by omega) (by rw [n9_app]; omega) (by omega)
    have wf : wft b q (el b L q) [wAnd, wOr] 0 = 1 + 8 * q := by unfold wft; rw [ix, if_pos rfl, fv]
    rw [wf] at z2
    exact ⟨2, c', by omega, fun n => c_fail hN hT (by omega) (by omega) x0 (by omega) hR (by rw [← hq]; exact z1) (Or.inr (by rw [z2.2.2.2.2.1]; omega)) n, z2.2.2.2.2.1, hFc.trans (FrC.trans (fun a u1 u2 u3 u4 => mu_rw u2) z4)⟩
  · obtain ⟨c', z1, z2, z3⟩ := next_badend (N := N) hT (by omega) x3 he lt (by
      rw [b12]
      rcases hbad with ⟨u, v, w⟩ | ⟨u, v⟩
      · right; rw [u]; exact ⟨rfl, v, w⟩
      · left; exact ⟨u, v⟩) hR1 hK1
    rw [fv] at z2
    exact ⟨2, c', by omega, fun n => c_fail hN hT (by omega) (by omega) x0 (by omega) hR (by rw [← hq]; exact z1) (Or.inl rfl) n, z2, hFc.trans (FrC.trans (fun a u1 u2 u3 u4 => mu_rw u2) z3)⟩
theorem behind_sim {N f : Nat} {kx : iv_M → Option (Int × iv_M)} {kt : iv_M → Option iv_M} {b : Int → Int} {L sl cl : Int} {s0 r0 : iv_M} {Pc Q : List (Int × Int)} {O : List Int} {c r : iv_M} {p pr x stg cmp cnt : Int} {A : List (Int × Int)} {X : List Int} (hC : JC N b L sl cl r0 Pc Q O) (hok : okS 0 O = true) (h : JS b L sl cl s0 r0 Pc Q O c r p pr x stg cmp cnt A X [] (true :: tyO O) 0) (he : endF stg (ark (sg b L (bl b L p)))) (hX : ∀ k, k ∈ X → 4 ≤ rnk k) : ∃ r' w o, FX12_test_l9 N 113 kt (f + 1) r 0 1 = FX12_test_l9 N 113 kt f r' w o ∧ ((w = 1 ∧ o = 1 ∧ ∃ O' c' p' x' A', CRun N kx c x c' x' ∧ p < p' ∧ JC N b L sl cl r0 Pc Q O' ∧ okS 0 O' = true ∧ JS b L sl cl s0 r0 Pc Q O' c' r' p' p' x' 1 cmp cnt A' [] [] (tyO O') 1) ∨ (w = 0 ∧ o = 1 ∧ ∃ O' c' p' x' A', CRun N kx c x c' x' ∧ p < p' ∧ JC N b L sl cl r0 Pc Q O' ∧ okS 0 O' = true ∧ JS b L sl cl s0 r0 Pc Q O' c' r' p' p' x' 5 cmp cnt A' [] [] (true :: tyO O') 0) ∨ (o = 0 ∧ ∃ X', JC N b L sl cl r0 Pc Q [] ∧ JS b L sl cl s0 r0 Pc Q [] c r' p (bl b L p) x stg cmp cnt A X' [] [true] 0 ∧ Prt 1 X' [] ∧ isw b (bl b L p) (el b L (bl b L p)) wAnd = false ∧ isw b (bl b L p) (el b L (bl b L p)) wOr = false) ∨ JF N kx b L sl s0 r0 c x r') := by
  obtain ⟨O9, O1, s1, s2, s3, s4⟩ := split9 O hok
  obtain ⟨Oa, O2, s5, s6, s7, s8⟩ := split10 s3 s4
  obtain ⟨Ob, O3, s9, s10, s11, s12⟩ := split11 s7 s8
  have hisK := h.2.2.2.2.2.2.2.1
  have hXK : ∀ k, k ∈ X → isK k := fun k hk => hisK k (by rw [List.mem_append]; left; exact hk)
  have hOK : ∀ k, k ∈ O → isK k := fun k hk => hisK k (by rw [List.mem_append]; right; exact hk)
  have hRT0 := h.2.1.1
  subst s1
  obtain ⟨r1, a1, a2, a3⟩ := answers_ok (N := N) (k := 9) (Or.inl rfl) s4 s2 hC h
  obtain ⟨b1, b2⟩ := blanks_sim a2 a3
  obtain ⟨q, hq⟩ : ∃ q, q = bl b L p := ⟨_, rfl⟩
  rw [← hq] at b1 b2 he ⊢
  subst s5
  have hNT := hC
  obtain ⟨hN, hT, ⟨s00, s01⟩, hcl, h5, h6, h37⟩ := hNT
  have hL := hT.2.1
  have bx := b2.2.2.1
  have bR := b2.2.1.1
  obtain ⟨r3, d1, d2, d3⟩ := answers_ok (N := N) (k := 10) (Or.inr (Or.inl rfl)) (fun j ys hj => by have := s8 j ys hj; omega) (fun j hj => by rcases s6 with u | u; rw [u] at hj; cases hj; rw [u, List.mem_singleton] at hj; exact hj) a2 b2
  have dR := d3.2.1.1
  have X2K : ∀ k, k ∈ X ++ O9 ++ Oa → isK k ∧ 2 ≤ rnk k := fun k hk => by
    rw [List.mem_append, List.mem_append] at hk
    rcases hk with (u | u) | u
    · exact ⟨hXK k u, by have := hX k u; omega⟩
    · rw [s2 k u]; exact ⟨by unfold isK; decide, by decide⟩
    · rcases s6 with v | v
      · rw [v] at u; cases u
      · rw [v, List.mem_singleton] at u; rw [u]; exact ⟨by unfold isK; decide, by decide⟩
  have O2K : ∀ k, k ∈ O2 → isK k := fun k hk => hOK k (by rw [List.mem_append, List.mem_append]; right; right; exact hk)
  have st : FX12_test_l9 N 113 kt (f + 1) r 0 1 = (if (if isw b q (el b L q) wAnd = true then (1 : Int) else 0) = 0 then (if (if isw b q (el b L q) wOr = true then (1 : Int) else 0) = 0 then ((FX12_answers N r3 113 11).bind fun s_2672 => ((FX12_top N s_2672 113).bind fun v_2673 => (if v_2673 = 12 then ((FX12_sign N s_2672 113).bind fun v_2675 => (if v_2675 = 93 then (FX12_test_b164 N s_2672 113 0 1 (FX12_test_l9 N 113 kt f) kt) else ((FX12_fails N s_2672 113 0 (s_2672 113 29)).bind fun s_2679 => (FX12_test_b164 N s_2679 113 0 1 (FX12_test_l9 N 113 kt f) kt)))) else (FX12_test_b199 N s_2672 113 0 0 (FX12_test_l9 N 113 kt f) kt)))) else (FX12_test_b82 N r3 113 1 (if isw b q (el b L q) wAnd = true then (1 : Int) else 0) (if isw b q (el b L q) wOr = true then (1 : Int) else 0) (FX12_test_l9 N 113 kt f) kt)) else (FX12_test_b82 N r3 113 1 (if isw b q (el b L q) wAnd = true then (1 : Int) else 0) (if isw b q (el b L q) wOr = true then (1 : Int) else 0) (FX12_test_l9 N 113 kt f) kt)) := by
    rw [FX12_test_l9, if_neg (by decide), hRT0.2.2.1, if_pos rfl, if_pos rfl, a1, Option.bind_some, b1, Option.bind_some, stood_ok hN bR hT str_and (by decide) (by omega) (by omega), Option.bind_some, stood_ok hN bR hT str_or (by decide) (by omega) (by omega), Option.bind_some, d1, Option.bind_some]
  rw [st]
  by_cases an : isw b q (el b L q) wAnd = true
  · -- and
    have orf := and_or an
    have rk10 : rnk 10 = 2 := by decide
    have P2 : Prt (rnk 10) (X ++ O9 ++ Oa) O2 := ⟨fun k hk => ⟨(X2K k hk).1, by rw [rk10]; exact (X2K k hk).2⟩, O2K, fun k ys hk => by
      rw [rk10]
      rcases s8 k ys hk with u | u <;> rw [u] <;> decide⟩
    have ok10 : okS 0 (10 :: O2) = true := by unfold okS; rw [if_neg (by decide), if_neg (by decide), if_pos rfl, s7]; rfl
    obtain ⟨r', g1, c', p', x', A', g2, g3, g4, g5⟩ := joint_sim (kx := kx) (k := 10) (len := 3) d2 d3 hq he (Or.inl ⟨rfl, an, rfl⟩) P2 ok10
    refine ⟨r', 1, 1, ?_, Or.inl ⟨rfl, rfl, 10 :: O2, c', p', x', A', g2, g3, g4, ok10, g5⟩⟩
    rw [if_pos an, if_neg (by decide), if_neg (show ¬ isw b q (el b L q) wOr = true by rw [orf]; decide)]
    unfold FX12_test_b82 FX12_test_b93 FX12_test_b105 FX12_test_b122 FX12_test_b199
    rw [if_pos rfl, if_neg (by decide)]
    cases ho : FX12_opens N r3 113 10 with
    | none => rw [ho] at g1; cases g1
    | some s =>
      rw [ho, Option.bind_some, pt_ok, Option.bind_some] at g1
      injection g1 with g1
      rw [Option.bind_some, if_neg (by decide), pt_ok, Option.bind_some, g1]
  have anf : isw b q (el b L q) wAnd = false := by cases hh : isw b q (el b L q) wAnd; rfl; exact absurd hh an
  subst s9
  obtain ⟨r4, e1, e2, e3⟩ := answers_ok (N := N) (k := 11) (Or.inr (Or.inr rfl)) (fun j ys hj => by
    rcases s12 with u | ⟨B', u, _⟩
    · rw [u] at hj; cases hj
    · rw [u] at hj; injection hj with v _; omega) (fun j hj => by rcases s10 with u | u; rw [u] at hj; cases hj; rw [u, List.mem_singleton] at hj; exact hj) d2 d3
  have X3K : ∀ k, k ∈ X ++ O9 ++ Oa ++ Ob → isK k ∧ 1 ≤ rnk k := fun k hk => by
    rw [List.mem_append] at hk
    rcases hk with u | u
    · exact ⟨(X2K k u).1, by have := (X2K k u).2; omega⟩
    · rcases s10 with v | v
      · rw [v] at u; cases u
      · rw [v, List.mem_singleton] at u; rw [u]; exact ⟨by unfold isK; decide, by decide⟩
  have O3K : ∀ k, k ∈ O3 → isK k := fun k hk => O2K k (by rw [List.mem_append]; right; exact hk)
  have low1 : ∀ k ys, O3 = k :: ys → rnk k < 1 := fun k ys hk => by
    rcases s12 with u | ⟨B', u, _⟩
    · rw [u] at hk; cases hk
    · rw [u] at hk; injection hk with v _; rw [← v]; decide
  have P1 : Prt 1 (X ++ O9 ++ Oa ++ Ob) O3 := ⟨X3K, O3K, low1⟩
  rw [if_neg an, if_pos rfl]
  by_cases or : isw b q (el b L q) wOr = true
  · have ok11 : okS 0 (11 :: O3) = true := by unfold okS; rw [if_neg (by decide), if_pos rfl, s11]; rfl
    obtain ⟨r', g1, c', p', x', A', g2, g3, g4, g5⟩ := joint_sim (kx := kx) (k := 11) (len := 2) e2 e3 hq he (Or.inr ⟨rfl, anf, or, rfl⟩) P1 ok11
    refine ⟨r', 1, 1, ?_, Or.inl ⟨rfl, rfl, 11 :: O3, c', p', x', A', g2, g3, g4, ok11, g5⟩⟩
    rw [if_pos or, if_neg (by decide)]
    unfold FX12_test_b82 FX12_test_b93 FX12_test_b105 FX12_test_b122 FX12_test_b199
    rw [if_neg (by decide), e1, Option.bind_some, if_pos rfl]
    cases ho : FX12_opens N r4 113 11 with
    | none => rw [ho] at g1; cases g1
    | some s =>
      rw [ho, Option.bind_some, pt_ok, Option.bind_some] at g1
      injection g1 with g1
      rw [Option.bind_some, if_pos rfl, pt_ok, Option.bind_some, g1]
  have orf : isw b q (el b L q) wOr = false := by cases hh : isw b q (el b L q) wOr; rfl; exact absurd hh or
  have eK := e3.2.1.2.1
  have eR := e3.2.1.1
  have h60 := e3.2.2.2.2.2.2.2.2
  rw [if_neg or, if_pos rfl, e1, Option.bind_some, top_ok eK (by simp at h60; omega), Option.bind_some]
  rcases s12 with u | ⟨B', u, okB⟩
  · subst u
    have eh : hd1 [] = -1 := rfl
    rw [eh, if_neg (by decide)]
    unfold FX12_test_b199
    exact ⟨r4, 0, 0, rfl, Or.inr (Or.inr (Or.inl ⟨rfl, _, e2, e3, P1, anf, orf⟩))⟩
  subst u
  have eh : hd1 (12 :: B') = 12 := rfl
  rw [eh, if_pos rfl, sign_ok eR hT (by omega), Option.bind_some]
  obtain ⟨f1, ⟨f2, f3⟩, ⟨f4, f5⟩, f6, f7, f8⟩ := eK
  have n12B : n12 (12 :: B') = n12 B' + 1 := by show (if (12 : Int) = 12 then 1 else 0) + n12 B' = _; rw [if_pos rfl]; omega
  have n9B : n9 (12 :: B') = n9 B' := by show (if (12 : Int) = 9 then 1 else 0) + n9 B' = _; rw [if_neg (by decide)]; omega
  have nB := n12_nn B'
  have nB9 := n9_nn B'
  have dep10 := e2.2.2.2.2.2.1
  have len60 : ((12 :: B').length : Int) = (B'.length : Int) + 1 := by simp
  have lenB : B'.length ≤ 60 := by simp at h60; omega
  by_cases s93 : sg b L q = 93
  · -- a bracket is closed
    obtain ⟨l1, l2⟩ := JS_len e2 e3 (by omega)
    have e3' := e3
    obtain ⟨⟨⟨fr, hR⟩, hK, hFc⟩, ⟨hRT, hRK, hFr⟩, ⟨x0, x1, x2, x3, x4⟩, hty, ⟨nt, t0, t1, t2⟩, hnv, ⟨c0, c1⟩, hisK3, hw⟩ := e3'
    obtain ⟨X3, hX3⟩ : ∃ X3, X3 = X ++ O9 ++ Oa ++ Ob := ⟨_, rfl⟩
    rw [← hX3] at hK hRK hty hnv hisK3 hw t2 P1 l1 l2 f2 f3
    have pL : q < L := ((sg_eq hT (by omega) (by omega) (by omega)).mp s93).1
    have nx := n9_nn X3
    have hw' : X3.length + (B'.length + 1) ≤ 60 := by simp at hw; omega
    have x12 := Prt_12 P1 (by omega)
    have nw : n9 (X3 ++ 12 :: B') + n12 (X3 ++ 12 :: B') = n9 X3 + n9 B' + n12 B' + 1 := by rw [n9_app, n12_app, x12, n12B, n9B]; omega
    have nw2 : n12 (X3 ++ 12 :: B') = n12 B' + 1 := by rw [n12_app, x12, n12B]; omega
    have hK2 : CK (mu c 58 2 q) (Pc ++ A) (X3 ++ 12 :: B') stg cmp cl (n9 X3 + n9 B' + n12 B' + 1) (n12 B' + 1) cnt := by
      rw [← nw, ← nw2]; exact CK_m hK
    obtain ⟨c', z1, z2, z3, z4⟩ := next_close (N := N) hN hT (by omega) x3 s93 he P1 (RD_2 (p' := q) hR) hK2 (by omega) (by omega) (by omega) (by omega) (by omega) (by omega)
    have fc : FrC s0 c' := hFc.trans (FrC.trans (fun a u1 u2 u3 u4 => mu_rw u2) z4)
    rw [if_pos s93]
    unfold FX12_test_b164 FX12_test_b199
    rw [pt_ok, Option.bind_some, pt_ok, Option.bind_some, pt_ok, Option.bind_some, eR.2.1, w32_id (x := q + 1) (by omega) (by omega), rtM_mu eR, rtM_i (show (36 : Int) ≠ 29 by omega) (by omega), f4, len60, w32_id (x := (B'.length : Int) + 1 - 1) (by omega) (by omega), show (B'.length : Int) + 1 - 1 = (B'.length : Int) by omega, mu_ne (show ¬ ((113 : Nat) = 113 ∧ (34 : Int) = 36) by omega), rtM_i (show (34 : Int) ≠ 29 by omega) (by omega), f6, w32_id (x := n9 (12 :: B') + n12 (12 :: B') - 1) (by omega) (by omega), show n9 (12 :: B') + n12 (12 :: B') - 1 = n9 B' + n12 B' by omega]
    have em0 : em [] = [] := rfl
    have R5 : RT (mu (mu (rtM r4 (q + 1) 0) 113 36 (B'.length : Int)) 113 34 (n9 B' + n12 B')) b L (q + 1) 0 := RT_i (RT_i (RT_M eR) (by omega) (by omega) (by omega)) (by omega) (by omega) (by omega)
    refine ⟨_, 0, 1, rfl, Or.inr (Or.inl ⟨rfl, rfl, B', c', q + 1, x + 1, A ++ em X3, ⟨1, by omega, fun n => c_step hN hT (by omega) (by omega) x0 (by omega) hR (by rw [← hq]; exact z1) z2.2.2.2.2.1 n⟩, by omega, JC_O e2 (by omega), okB, ⟨⟨fr, z2⟩, ?_, fc⟩, ⟨R5, ⟨?_, ⟨?_, ?_⟩, ⟨?_, ?_⟩, mu_eq, ?_, ?_⟩, (hFr.trans FrR_rt).trans ((FrR_m (by omega)).trans (FrR_m (by omega)))⟩, ⟨by omega, by omega, by omega, by omega, rfl⟩, ?_, ⟨nt, t0, by omega, ?_⟩, ?_, ⟨c0, c1⟩, ?_, ?_⟩)⟩
    · show CK c' (Pc ++ (A ++ em X3)) B' 5 cmp cl (n9 B' + n12 B') (n12 B') cnt
      rw [← List.append_assoc]
      have w1 : n9 X3 + n9 B' + n12 B' + 1 - n9 X3 - 1 = n9 B' + n12 B' := by omega
      have w2 : n12 B' + 1 - 1 = n12 B' := by omega
      rw [w1, w2] at z3
      exact z3
    · rw [mu_ne (by omega), mu_ne (by omega), rtM_i (by omega) (by omega)]; exact f1
    · rw [mu_ne (by omega), mu_ne (by omega), rtM_i (by omega) (by omega), em0, List.append_nil]; exact f2
    · rw [em0, List.append_nil]
      exact EN_ext (s := r4) (by rw [mu_rw (by decide), mu_rw (by decide), rtM_o (by decide)]) (by rw [mu_rw (by decide), mu_rw (by decide), rtM_o (by decide)]) _ _ f3
    · rw [mu_ne (by omega), mu_eq]
    · rw [mu_rw (by decide), mu_rw (by decide), rtM_o (by decide)]; exact f5.2
    · rw [mu_ne (by omega), mu_ne (by omega), rtM_i (by omega) (by omega)]; exact f7
    · rw [mu_ne (by omega), mu_ne (by omega), rtM_i (by omega) (by omega)]; exact f8
    · rw [em0, List.append_nil]
      have : tyO (12 :: B') = tyO B' := by show (if (12 : Int) = 10 ∨ (12 : Int) = 11 then true :: tyO B' else tyO B') = _; rw [if_neg (by decide)]
      rw [this] at hty
      exact hty
    · rw [n12B] at t2
      rw [List.length_append, em_len]; simp at t2 ⊢; omega
    · rw [em0, List.append_nil]; exact hnv
    · intro j hj
      have hj' : j ∈ B' := hj
      exact O3K j (List.mem_cons_of_mem _ hj')
    · simp; omega
  · -- a bracket is not closed
    have ce := end_bad (kx := kx) e2 e3 hq he anf orf P1 (Or.inr ⟨by omega, s93⟩)
    have fv : ffl 0 q 0 = 1 + 8 * q := by unfold ffl; rw [if_pos rfl]; omega
    have hFr4 := e3.2.1.2.2
    have R5 : RT (rtM r4 q (1 + 8 * q)) b L q (1 + 8 * q) := RT_M eR
    rw [if_neg s93, eR.2.1, fails_ok eR (by omega) (by omega) (by omega) (by omega), Option.bind_some, fv]
    unfold FX12_test_b164 FX12_test_b199
    rw [pt_ok, Option.bind_some, pt_ok, Option.bind_some, pt_ok, Option.bind_some, R5.2.1, w32_id (x := q + 1) (by omega) (by omega), rtM_mu R5]
    refine ⟨_, 0, 1, rfl, Or.inr (Or.inr (Or.inr ⟨1 + 8 * q, by omega, by omega, ce, (((hFr4.trans FrR_rt).trans FrR_rt).trans (FrR_m (by omega))).trans (FrR_m (by omega)), q + 1, by omega, by omega, RT_i (RT_i (RT_M R5) (by omega) (by omega) (by omega)) (by omega) (by omega) (by omega)⟩))⟩
