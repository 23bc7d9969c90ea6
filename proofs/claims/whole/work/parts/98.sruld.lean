-- RULE: clause after clause
def FrU (sl : Int) (r r' : iv_M) : Prop := (∀ a, a ≠ 113 → a ≠ 140 → a ≠ 141 → a ≠ 143 → a ≠ 144 → a ≠ 145 → r' a = r a) ∧ (∀ j, ¬ (300 * sl ≤ j ∧ j < 300 * sl + 300) → r' 140 j = r 140 j ∧ r' 141 j = r 141 j) ∧ (∀ j, ¬ (12 * sl ≤ j ∧ j < 12 * sl + 12) → r' 143 j = r 143 j ∧ r' 144 j = r 144 j) ∧ ∀ i, i ≠ 29 → i ≠ 30 → i ≠ 33 → i ≠ 34 → i ≠ 35 → i ≠ 36 → r' 113 i = r 113 i
theorem FrR.u {sl : Int} {r r' : iv_M} (h : FrR sl r r') : FrU sl r r' := ⟨fun a x1 x2 x3 _ _ x6 => h.1 a x1 x2 x3 x6, h.2.1, fun j _ => by rw [h.1 143 (by decide) (by decide) (by decide) (by decide), h.1 144 (by decide) (by decide) (by decide) (by decide)]; exact ⟨rfl, rfl⟩, h.2.2⟩
theorem FrU.trans {sl : Int} {r r1 r2 : iv_M} (h : FrU sl r r1) (h2 : FrU sl r1 r2) : FrU sl r r2 := ⟨fun a x1 x2 x3 x4 x5 x6 => (h2.1 a x1 x2 x3 x4 x5 x6).trans (h.1 a x1 x2 x3 x4 x5 x6), fun j hj => ⟨((h2.2.1 j hj).1).trans (h.2.1 j hj).1, ((h2.2.1 j hj).2).trans (h.2.1 j hj).2⟩, fun j hj => ⟨((h2.2.2.1 j hj).1).trans (h.2.2.1 j hj).1, ((h2.2.2.1 j hj).2).trans (h.2.2.1 j hj).2⟩, fun i x1 x2 x3 x4 x5 x6 => (h2.2.2.2 i x1 x2 x3 x4 x5 x6).trans (h.2.2.2 i x1 x2 x3 x4 x5 x6)⟩
theorem FrU_34 {sl n v : Int} {r : iv_M} {a : Nat} (ha : a = 143 ∨ a = 144) (n0 : 0 ≤ n) (n1 : n < 12) : FrU sl r (mu r a (12 * sl + n) v) := ⟨fun c x1 x2 x3 x4 x5 x6 => mu_rw (by omega), fun j _ => by rw [mu_rw (by omega), mu_rw (by omega)]; exact ⟨rfl, rfl⟩, fun j hj => ⟨mu_ne (by omega), mu_ne (by omega)⟩, fun i _ _ _ _ _ _ => by rw [mu_rw (by omega)]⟩
/-- what both hold between two clauses -/
def BR (r : iv_M) (sl cnt : Int) (R : List (List (Int × Int))) : Prop := r 113 31 = sl ∧ (r 113 33 = R.flatten.length ∧ EN r sl 0 R.flatten) ∧ r 113 34 = 0 ∧ r 113 35 = cnt ∧ r 113 37 = 13 ∧ T34 r sl 0 0 R
def BD (b : Int → Int) (L sl : Int) (s0 r0 : iv_M) (R : List (List (Int × Int))) (c r : iv_M) (p x cmp cnt : Int) : Prop :=
  ((∃ fr, RD c 58 b L p fr 0) ∧ CK c (rco R) [] 0 cmp R.length 0 0 cnt ∧ FrC s0 c) ∧ (RT r b L p 0 ∧ BR r sl cnt R ∧ FrU sl r0 r) ∧ (0 ≤ x ∧ x ≤ p ∧ p ≤ L) ∧ (∃ nt : Int, 0 ≤ nt ∧ 3 * nt ≤ p ∧ (R.flatten.length : Int) ≤ 2 * cnt + nt) ∧ ((nvs R.flatten : Nat) : Int) ≤ cnt ∧ (0 ≤ cnt ∧ cnt ≤ 60) ∧ ∀ C, C ∈ R → goodC C
/-- the end of it all without a fault -/
def BE (sl : Int) (s0 r0 : iv_M) (R : List (List (Int × Int))) (c r : iv_M) : Prop := R ≠ [] ∧ R.length ≤ 12 ∧ (c 57 2 = (rco R).length ∧ CE c 60 0 (rco R)) ∧ FrC s0 c ∧ (EN r sl 0 R.flatten ∧ T34 r sl 0 0 R) ∧ R.flatten.length ≤ 290 ∧ nvs R.flatten ≤ 60 ∧ ∀ C, C ∈ R → goodC C
theorem rule_step {N f : Nat} {kx : iv_M → Option (Int × iv_M)} {kr : iv_M → Int → Option (Int × iv_M)} {b : Int → Int} {L sl : Int} {s0 r0 : iv_M} {R : List (List (Int × Int))} {c r : iv_M} {p x cmp cnt : Int} (hN : 1000 ≤ N) (hT : TX b L) (s00 : 0 ≤ sl) (s01 : sl < 6) (hn : R.length ≤ 12) (h : BD b L sl s0 r0 R c r p x cmp cnt) :
    (∃ C c' r' p' x' cmp' cnt', R.length < 12 ∧ CRun N kx c x c' x' ∧ FX12_rule_l27 N 113 kr (f + 1) r (R.length : Int) 1 = FX12_rule_l27 N 113 kr f r' ((R.length : Int) + 1) 1 ∧ BD b L sl s0 r0 (R ++ [C]) c' r' p' x' cmp' cnt') ∨
    (∃ (C : List (Int × Int)) (c' r' : iv_M) (k : Nat), (k : Int) ≤ 402 - x ∧ (∀ n, FX8_read_l54 N 57 kx (n + k) c 1 x = kx c') ∧ c' 58 4 = 0 ∧ FX12_rule_l27 N 113 kr (f + 1) r (R.length : Int) 1 = FX12_rule_l27 N 113 kr f r' ((R.length : Int) + 1) 0 ∧ r' 113 30 = 0 ∧ FrU sl r0 r' ∧ BE sl s0 r0 (R ++ [C]) c' r') ∨
    (∃ F r', 0 < F ∧ F ≤ 10000 ∧ CEnd N kx s0 c x F ∧ FX12_rule_l27 N 113 kr (f + 1) r (R.length : Int) 1 = FX12_rule_l27 N 113 kr f r' ((R.length : Int) + 1) 0 ∧ r' 113 30 = F ∧ FrU sl r0 r') := by
  have hL := hT.2.1
  obtain ⟨⟨⟨fr, hR⟩, hK, hFc⟩, ⟨hRT, hB, hFr⟩, ⟨x0, x1, x3⟩, ⟨nt, t0, t1, t2⟩, hnv, ⟨c0, c1⟩, hg⟩ := h
  obtain ⟨b31, ⟨b33, bEN⟩, b34, b35, b37, bT⟩ := hB
  obtain ⟨q, hq⟩ : ∃ q, q = bl b L p := ⟨_, rfl⟩
  have q0 : p ≤ q := by rw [hq]; exact rnn_ge
  have q1 : q ≤ L := by rw [hq]; exact rnn_le x3
  have qi : bl b L q = q := by rw [hq]; exact rnn_idem
  obtain ⟨n, hnn⟩ : ∃ n : Int, n = (R.length : Int) := ⟨_, rfl⟩
  rw [← hnn]
  rw [← hnn] at hK
  have R1 : RT (rtM r q 0) b L q 0 := RT_M hRT
  have stcl : ∀ z, FX12_ruleClause N r 113 n = some z → FX12_rule_l27 N 113 kr (f + 1) r n 1 = ((FX12_goesOn N z 113).bind fun g => FX12_rule_l27 N 113 kr f g.2 (n + 1) g.1) := fun z hz => by
    rw [FX12_rule_l27, if_neg (by decide), hz, Option.bind_some, w32_id (by omega) (by omega)]
  obtain ⟨c', z1, z2, z3, z4⟩ := next_bar (N := N) hN hT (by omega) q1 qi (RD_2 (p' := q) hR) (CK_m (i := 2) (v := q) hK) (by omega) (by omega)
  have fc : FrC s0 c' := hFc.trans (FrC.trans (fun a u1 u2 u3 u4 => mu_rw u2) z4)
  have ix : idw b q (el b L q) [wBar] 0 = if isw b q (el b L q) wBar = true then 0 else -1 := rfl
  -- a fault at the clause's head
  have headbad : ∀ F, 0 < F → F ≤ 10000 → c' 58 4 = F → FX12_ruleClause N r 113 n = some (rtM r q F) → ∃ F r', 0 < F ∧ F ≤ 10000 ∧ CEnd N kx s0 c x F ∧ FX12_rule_l27 N 113 kr (f + 1) r n 1 = FX12_rule_l27 N 113 kr f r' (n + 1) 0 ∧ r' 113 30 = F ∧ FrU sl r0 r' := fun F f1 f2 hc hr => by
    have RF : RT (rtM r q F) b L q F := RT_M hRT
    have gs := goesOn_ok (N := N) hN RF hT (by omega) (by omega)
    rw [if_neg (fun z => by have := z.1; omega), if_neg (fun z => by have := z.1; omega)] at gs
    refine ⟨F, rtM (rtM r q F) (bl b L q + 1) F, f1, f2, ⟨2, c', by omega, fun n => c_fail hN hT (by omega) (by omega) x0 (by omega) hR (by rw [← hq]; exact z1) (Or.inr (by rw [hc]; omega)) n, hc, fc⟩, ?_, rtM_f, (hFr.trans FrR_rt.u).trans FrR_rt.u⟩
    rw [stcl _ hr, gs, Option.bind_some]
  by_cases bar : isw b q (el b L q) wBar = true
  rotate_left
  · right; right
    have fv : ffl 0 q 0 = 1 + 8 * q := by unfold ffl; rw [if_pos rfl]; omega
    have wf : wft b q (el b L q) [wBar] 0 = 1 + 8 * q := by unfold wft; rw [ix, if_neg bar, if_pos rfl, fv]
    rw [wf] at z2
    have zf : c' 58 4 = 1 + 8 * q := by
      have := z2.2.2.2.2.1
      rw [this]
      split
      · rfl
      · rw [ffl_bad (by omega)]
    refine headbad (1 + 8 * q) (by omega) (by omega) zf ?_
    unfold FX12_ruleClause
    rw [blanks_ok hN hRT hT (by omega) (by omega), Option.bind_some, ← hq, stood_ok hN R1 hT str_bar (by decide) (by omega) (by omega), Option.bind_some, if_neg bar, if_pos rfl, R1.2.1, fails_ok R1 (by omega) (by omega) (by omega) (by omega), Option.bind_some, rtM_rtM, fv]
  have wf : wft b q (el b L q) [wBar] 0 = 0 := by unfold wft; rw [ix, if_pos bar, if_neg (by decide)]
  rw [wf] at z2
  by_cases n12 : n = 12
  · right; right
    have fv : ffl 0 q 4 = 1 + 8 * q + 4 := by unfold ffl; rw [if_pos rfl]
    have zf : c' 58 4 = ffl 0 q 4 := by have := z2.2.2.2.2.1; rw [this, if_neg (by omega)]
    refine headbad (ffl 0 q 4) (by omega) (by omega) zf ?_
    unfold FX12_ruleClause
    rw [blanks_ok hN hRT hT (by omega) (by omega), Option.bind_some, ← hq, stood_ok hN R1 hT str_bar (by decide) (by omega) (by omega), Option.bind_some, if_pos bar, if_neg (by decide), if_pos n12, R1.2.1, fails_ok R1 (by omega) (by omega) (by omega) (by omega), Option.bind_some, rtM_rtM]
  rw [if_pos (by omega)] at z2
  have el3 : el b L q = q + 3 := isw_len bar
  have ele : el b L q ≤ L := rnn_le q1
  rw [el3] at z2 ele
  -- the test begins
  obtain ⟨rt, hrt⟩ : ∃ rt, rt = mu (mu (rtM r (q + 3) 0) 143 (12 * sl + n) (R.flatten.length : Int)) 113 36 0 := ⟨_, rfl⟩
  have rtR : RT rt b L (q + 3) 0 := by rw [hrt]; exact RT_i (RT_mu (RT_M hRT) (by decide) (by decide)) (by omega) (by omega) (by omega)
  have rtF : FrU sl r0 rt := by
    rw [hrt]
    exact ((hFr.trans FrR_rt.u).trans (FrU_34 (n := n) (a := 143) (Or.inl rfl) (by omega) (by omega))).trans (FrR_m (by omega)).u
  have rti : ∀ i, i ≠ 29 → i ≠ 30 → i ≠ 36 → rt 113 i = r 113 i := fun i i1 i2 i3 => by rw [hrt, mu_ne (by omega), mu_rw (by decide), rtM_i i1 i2]
  have rto : ∀ a, a ≠ 113 → a ≠ 143 → rt a = r a := fun a a1 a2 => by rw [hrt, mu_rw a1, mu_rw a2, rtM_o a1]
  have nR : (nvs R.flatten : Int) ≤ 60 := by omega
  have e0 : em [] = [] := rfl
  have J0 : JS b L sl (n + 1) s0 rt (rco R) R.flatten [] c' rt (q + 3) (q + 3) (x + 1) 1 cmp cnt [] [] [] (tyO []) 1 := by
    refine ⟨⟨⟨q, z2⟩, ?_, fc⟩, ⟨rtR, ⟨by rw [rti 31 (by omega) (by omega) (by omega)]; exact b31, ⟨by rw [rti 33 (by omega) (by omega) (by omega), e0, List.append_nil, List.append_nil]; exact b33, ?_⟩, ⟨by rw [hrt, mu_eq]; rfl, trivial⟩, by rw [rti 34 (by omega) (by omega) (by omega)]; exact b34, by rw [rti 35 (by omega) (by omega) (by omega)]; exact b35, by rw [rti 37 (by omega) (by omega) (by omega)]; exact b37⟩, FrR.refl⟩, ⟨by omega, by omega, by omega, by omega, rfl⟩, rfl, ⟨nt, t0, by omega, ?_⟩, ?_, ⟨c0, c1⟩, (fun k hk => by cases hk), by decide⟩
    · rw [List.append_nil]; exact z3
    · rw [e0, List.append_nil, List.append_nil]
      exact EN_ext (rto 140 (by decide) (by decide)) (rto 141 (by decide) (by decide)) _ _ bEN
    · show (R.flatten.length : Int) + ((0 : Nat) : Int) + ((0 : Nat) : Int) + ((0 : Nat) : Int) + ((0 : Nat) : Int) ≤ 2 * cnt + 1 + nt + 0; omega
    · rw [e0, List.append_nil, List.append_nil]; exact hnv
  have hrl := rco_len (R := R)
  have JC0 : JC N b L sl (n + 1) rt (rco R) R.flatten [] := ⟨hN, hT, ⟨s00, s01⟩, ⟨by omega, by omega⟩, by omega, by decide, by rw [rti 37 (by omega) (by omega) (by omega)]; exact b37⟩
  have run0 : CRun N kx c x c' (x + 1) := ⟨1, by omega, fun n => c_step hN hT (by omega) (by omega) x0 (by omega) hR (by rw [← hq]; exact z1) z2.2.2.2.2.1 n⟩
  obtain ⟨rT, i1, i2⟩ := test_loop (kx := kx) hN hT (L - (q + 3)).toNat N [] c' rt (q + 3) (q + 3) (x + 1) 1 cmp cnt [] [] 1 (Nat.le_refl _) (by omega) JC0 rfl (Or.inl ⟨rfl, rfl, rfl, J0⟩)
  have tst : FX12_ruleClause N r 113 n = some (mu rT 144 (12 * sl + n) (rT 113 33)) := by
    unfold FX12_ruleClause FX12_test
    simp only [Nat.reduceAdd]
    rw [blanks_ok hN hRT hT (by omega) (by omega), Option.bind_some, ← hq, stood_ok hN R1 hT str_bar (by decide) (by omega) (by omega), Option.bind_some, if_pos bar, if_neg (by decide), if_neg n12, pt_ok, Option.bind_some, R1.2.1, w32_id (x := q + 3) (by omega) (by omega), rtM_mu R1, rtM_rtM, rtM_i (show (31 : Int) ≠ 29 by omega) (by omega), rtM_i (show (33 : Int) ≠ 29 by omega) (by omega), b31, b33, w32_id (x := 12 * sl) (by omega) (by omega), w32_id (x := 12 * sl + n) (by omega) (by omega), wr_ok (by omega) (by omega), Option.bind_some, pt_ok, Option.bind_some, ← hrt, i1, Option.bind_some, wr_ok (by omega) (by omega), Option.bind_some]
  rcases i2 with ⟨c2, p2, x2, stg2, cmp2, cnt2, A2, X2, j1, j2, j3, j4, j5, j6, j7, j8⟩ | w
  rotate_left
  · right; right
    obtain ⟨F, f1, f2, f3, f4, pe, pe0, pe1, f5⟩ := JF_run run0 w
    have RF : RT (mu rT 144 (12 * sl + n) (rT 113 33)) b L pe F := RT_mu f5 (by decide) (by decide)
    have gs := goesOn_ok (N := N) hN RF hT (by omega) (by omega)
    rw [if_neg (fun z => by have := z.1; omega), if_neg (fun z => by have := z.1; omega)] at gs
    refine ⟨F, rtM (mu rT 144 (12 * sl + n) (rT 113 33)) (bl b L pe + 1) F, f1, f2, f3, ?_, rtM_f, ((rtF.trans f4.u).trans (FrU_34 (n := n) (v := rT 113 33) (a := 144) (Or.inr rfl) (by omega) (by omega))).trans FrR_rt.u⟩
    rw [stcl _ tst, gs, Option.bind_some]
  -- the test is through
  obtain ⟨ll1, ll2⟩ := JS_len j3 j4 (by omega)
  have j4' := j4
  obtain ⟨⟨⟨fr2, hR2⟩, hK2, hFc2⟩, ⟨hRT2, hRK2, hFr2⟩, ⟨y0, y1, y2, y3, y4⟩, hty2, ⟨nt2, u0, u1, u2⟩, hnv2, ⟨d0, d1⟩, hisK2, hw2⟩ := j4'
  obtain ⟨q2, hq2⟩ : ∃ q2, q2 = bl b L p2 := ⟨_, rfl⟩
  rw [← hq2] at hRT2 y2 y3 j6 j7 j8
  have qi2 : bl b L q2 = q2 := by rw [hq2]; exact rnn_idem
  obtain ⟨a1, ⟨a2, a3⟩, ⟨a4, a5⟩, a6, a7, a8⟩ := hRK2
  obtain ⟨r3, hr3⟩ : ∃ r3, r3 = mu rT 144 (12 * sl + n) (rT 113 33) := ⟨_, rfl⟩
  rw [← hr3] at tst
  have R3 : RT r3 b L q2 0 := by rw [hr3]; exact RT_mu hRT2 (by decide) (by decide)
  have F3 : FrU sl r0 r3 := by rw [hr3]; exact (rtF.trans hFr2.u).trans (FrU_34 (n := n) (v := rT 113 33) (a := 144) (Or.inr rfl) (by omega) (by omega))
  have gs := goesOn_ok (N := N) hN R3 hT (by omega) (by omega)
  rw [qi2] at gs
  have wX : X2 ++ ([] ++ []) = X2 := by simp
  have x12 := Prt_12 j5 (by omega)
  have n9x := n9_nn X2
  rw [wX, x12] at hK2
  have hxl : X2.length ≤ 60 := by simp at hw2; omega
  have flat : (R ++ [A2 ++ em X2]).flatten = R.flatten ++ (A2 ++ em X2) := by rw [List.flatten_append]; simp
  have hrel : ∀ v, BR (rtM r3 v 0) sl cnt2 (R ++ [A2 ++ em X2]) := fun v => by
    have ri : ∀ i, i ≠ 29 → i ≠ 30 → rtM r3 v 0 113 i = rT 113 i := fun i k1 k2 => by rw [rtM_i k1 k2, hr3, mu_rw (by decide)]
    refine ⟨by rw [ri 31 (by omega) (by omega)]; exact a1, ⟨by rw [ri 33 (by omega) (by omega), flat]; exact a2, ?_⟩, by rw [ri 34 (by omega) (by omega)]; exact a6, by rw [ri 35 (by omega) (by omega)]; exact a7, by rw [ri 37 (by omega) (by omega)]; exact a8, ?_⟩
    · rw [flat]
      exact EN_ext (by rw [rtM_o (by decide), hr3, mu_rw (by decide)]) (by rw [rtM_o (by decide), hr3, mu_rw (by decide)]) _ _ a3
    · rw [T34_snoc]
      have t143 : ∀ j, rtM r3 v 0 143 j = if j = 12 * sl + n then (R.flatten.length : Int) else r 143 j := fun j => by
        rw [rtM_o (by decide), hr3, mu_rw (by decide), hFr2.1 143 (by decide) (by decide) (by decide) (by decide), hrt, mu_rw (by decide)]
        by_cases g : j = 12 * sl + n
        · rw [if_pos g, g, mu_eq]
        · rw [if_neg g, mu_ne (by omega), rtM_o (by decide)]
      have t144 : ∀ j, rtM r3 v 0 144 j = if j = 12 * sl + n then rT 113 33 else r 144 j := fun j => by
        rw [rtM_o (by decide), hr3]
        by_cases g : j = 12 * sl + n
        · rw [if_pos g, g, mu_eq]
        · rw [if_neg g, mu_ne (by omega), hFr2.1 144 (by decide) (by decide) (by decide) (by decide), rto 144 (by decide) (by decide)]
      refine ⟨T34_ext R 0 0 (by omega) (fun j k0 k1 => ?_) bT, ?_, ?_⟩
      · rw [t143, t144, if_neg (by omega), if_neg (by omega)]; exact ⟨rfl, rfl⟩
      · rw [t143, if_pos (by omega)]; omega
      · rw [t144, if_pos (by omega), a2, List.length_append]; omega
  have good : goodC (A2 ++ em X2) := hty2
  have goodR : ∀ C, C ∈ R ++ [A2 ++ em X2] → goodC C := fun C hC => by
    rw [List.mem_append, List.mem_singleton] at hC
    rcases hC with u | u
    · exact hg C u
    · rw [u]; exact good
  have code : rco R ++ A2 ++ em X2 ++ (if n + 1 ≤ 1 then [] else [(11, 0)]) = rco (R ++ [A2 ++ em X2]) := by
    rw [rco_snoc, ← hnn, ← List.append_assoc]
  have Rn : ((R ++ [A2 ++ em X2]).length : Int) = n + 1 := by rw [List.length_append, hnn]; rfl
  have lenf : ((R ++ [A2 ++ em X2]).flatten.length : Int) ≤ 2 * cnt2 + nt2 := by
    rw [flat, List.length_append, List.length_append, em_len]
    have u2' : (R.flatten.length : Int) + A2.length + X2.length + ((0 : Nat) : Int) + ((0 : Nat) : Int) ≤ 2 * cnt2 + 0 + nt2 + 0 := u2
    omega
  have nvf : ((nvs (R ++ [A2 ++ em X2]).flatten : Nat) : Int) ≤ cnt2 := by rw [flat]; exact hnv2
  by_cases e59 : q2 < L ∧ b q2 = 59
  · -- another clause follows
    left
    have sy : sg b L q2 = 59 := (sg_eq hT (by omega) (by omega) (by omega)).mpr e59
    obtain ⟨c3, v1, v2, v3, v4⟩ := next_end (N := N) hN hT (by omega) y3 j6 (Or.inl sy) j5 (RD_2 (p' := q2) hR2) (CK_m (i := 2) (v := q2) hK2) (by omega) (by omega) (by omega) (by omega)
    rw [if_pos sy] at v1 v2
    rw [code] at v3
    have q9 : n9 X2 + 0 - n9 X2 = 0 := by omega
    rw [q9] at v3
    rw [if_pos ⟨rfl, e59.1, e59.2⟩, if_neg (fun z => z.2.2 e59.2)] at gs
    refine ⟨A2 ++ em X2, c3, rtM r3 (q2 + 1) 0, q2 + 1, x2 + 1, cmp2, cnt2, by omega, (run0.trans j1).trans ⟨1, by omega, fun n => c_step hN hT (by omega) (by omega) y0 (by omega) hR2 (by rw [← hq2]; exact v1) v2.2.2.2.2.1 n⟩, ?_, ⟨⟨fr2, v2⟩, by rw [Rn]; exact v3, hFc2.trans (FrC.trans (fun a k1 k2 k3 k4 => mu_rw k2) v4)⟩, ⟨RT_M R3, hrel (q2 + 1), F3.trans FrR_rt.u⟩, ⟨by omega, by omega, by omega⟩, ⟨nt2, u0, by omega, lenf⟩, nvf, ⟨d0, d1⟩, goodR⟩
    rw [stcl _ tst, gs, Option.bind_some]
  by_cases eL : q2 < L
  · -- what stands there ends no clause
    right; right
    have n59 : sg b L q2 ≠ 59 := fun z => e59 ((sg_eq hT (by omega) (by omega) (by omega)).mp z)
    have nn1 : sg b L q2 ≠ -1 := fun z => by have := (sg_none hT (by omega)).mp z; omega
    have j4q : JS b L sl (n + 1) s0 rt (rco R) R.flatten [] c2 rT p2 q2 x2 stg2 cmp2 cnt2 A2 X2 [] [true] 0 := by rw [hq2]; exact j4
    have ce := end_bad (kx := kx) j3 j4q hq2 j6 j7 j8 j5 (Or.inl ⟨rfl, n59, nn1⟩)
    have fv : ffl 0 q2 0 = 1 + 8 * q2 := by unfold ffl; rw [if_pos rfl]; omega
    rw [if_neg (fun z => e59 z.2), if_pos ⟨rfl, eL, fun z => e59 ⟨eL, z⟩⟩, fv] at gs
    obtain ⟨k, e1, e2⟩ := run0.trans j1
    obtain ⟨k2, cc, g1, g2, g3, g4⟩ := ce
    refine ⟨1 + 8 * q2, rtM r3 (q2 + 1) (1 + 8 * q2), by omega, by omega, ⟨k2 + k, cc, by omega, fun n => by rw [← Nat.add_assoc, e2, g2], g3, g4⟩, ?_, rtM_f, F3.trans FrR_rt.u⟩
    rw [stcl _ tst, gs, Option.bind_some]
  · -- the end of the text
    right; left
    have sn : sg b L q2 = -1 := (sg_none hT (by omega)).mpr (by omega)
    obtain ⟨c3, v1, v2, v3, v4⟩ := next_end (N := N) hN hT (by omega) y3 j6 (Or.inr sn) j5 (RD_2 (p' := q2) hR2) (CK_m (i := 2) (v := q2) hK2) (by omega) (by omega) (by omega) (by omega)
    have nq : ¬ sg b L q2 = 59 := by omega
    rw [if_neg nq] at v1 v2
    rw [code] at v3
    rw [if_neg (fun z => eL z.2.1), if_neg (fun z => eL z.2.1)] at gs
    obtain ⟨k, e1, e2⟩ := run0.trans j1
    have fin := fun n => c_fail (kx := kx) hN hT (by omega) (by omega) y0 (by omega) hR2 (by rw [← hq2]; exact v1) (Or.inl rfl) n
    have hb := hrel (q2 + 1)
    refine ⟨A2 ++ em X2, c3, rtM r3 (q2 + 1) 0, 2 + k, by omega, fun n => by rw [← Nat.add_assoc, e2, fin], v2.2.2.2.2.1, ?_, rtM_f, F3.trans FrR_rt.u, by simp, by omega, v3.1, hFc2.trans (FrC.trans (fun a k1 k2 k3 k4 => mu_rw k2) v4), ⟨hb.2.1.2, hb.2.2.2.2.2⟩, ?_, by omega, goodR⟩
    · rw [stcl _ tst, gs, Option.bind_some]
    · rw [flat]; omega
